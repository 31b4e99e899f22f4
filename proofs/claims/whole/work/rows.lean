section
/-! THE SMALL MACHINE: memory is a table of kinds and a table of contents; methods are numbers; an instruction is a row of numbers. -/
abbrev av_Ty : Type := Nat ⊕ (Nat × Nat)
abbrev av_St : Type := (Nat → Option av_Ty) × (Nat → Nat → Value) × Nat × Nat
abbrev av_I : Type := Nat × Nat × Nat × Nat × Int32 × List Nat
abbrev av_Ls : Type := List (Option Value)
abbrev av_Cf : Type := Nat × av_Ls × List Value × av_St
abbrev av_Mt : Type := MethodName × ByteArray × Nat × Option FieldType × (Nat → Option av_I)
def av_isR : Value → Bool
  | .ref _ => true
  | .null => true
  | _ => false
theorem av_isR_or {v : Value} (h : av_isR v = true) : v = .null ∨ ∃ a, v = .ref a := by
  cases v <;> simp [av_isR] at h ⊢
theorem av_isR_cat {v : Value} (h : av_isR v = true) : v.category = 1 := by
  rcases av_isR_or h with rfl | ⟨a, rfl⟩ <;> rfl
def av_fits (ty : FieldType) (v : Value) : Bool := match ty, v with
  | .int, .int _ => true
  | .object _, .ref _ => true
  | .object _, .null => true
  | .array _, .ref _ => true
  | .array _, .null => true
  | .boolean, .int x => decide (x = 0 ∨ x = 1)
  | _, _ => false
theorem av_fits_ok {ty : FieldType} {v : Value} (h : av_fits ty v = true) : narrow ty v = v ∧ fits ty v = true := by
  unfold av_fits at h
  split at h
  · exact ⟨rfl, rfl⟩
  · exact ⟨rfl, rfl⟩
  · exact ⟨rfl, rfl⟩
  · exact ⟨rfl, rfl⟩
  · exact ⟨rfl, rfl⟩
  · rcases of_decide_eq_true h with rfl | rfl
    · exact ⟨rfl, rfl⟩
    · exact ⟨rfl, rfl⟩
  · cases h
def av_ld (L : av_Ls) (i : Nat) : Option Value := L.getD i none
def av_put (ct : Nat → Nat → Value) (a k : Nat) (v : Value) : Nat → Nat → Value := fun b => if b = a then updV (ct b) k v else ct b
def av_set (S : av_St) (a k : Nat) (v : Value) : av_St := (S.1, av_put S.2.1 a k v, S.2.2.1, S.2.2.2)
def av_new (S : av_St) (t : av_Ty) (f : Nat → Value) (w : Nat) : av_St := (fun b => if b = S.2.2.1 then some t else S.1 b, fun b => if b = S.2.2.1 then f else S.2.1 b, S.2.2.1 + 1, S.2.2.2 + w)
def av_bin (k : Nat) (x y : Int32) : Option Int32 := match k with
  | 0 => some (x + y)
  | 1 => some (x - y)
  | 2 => some (x * y)
  | 3 => if y = 0 then none else some (x / y)
  | 4 => if y = 0 then none else some (x - x / y * y)
  | 5 => some (x &&& y)
  | 6 => some (x ||| y)
  | 7 => some (x ^^^ y)
  | 8 => some (x <<< (y &&& 31))
  | 9 => some (x >>> (y &&& 31))
  | _ => none
def av_binI (k : Nat) : Instr := match k with
  | 0 => .iadd
  | 1 => .isub
  | 2 => .imul
  | 3 => .idiv
  | 4 => .irem
  | 5 => .iand
  | 6 => .ior
  | 7 => .ixor
  | 8 => .ishl
  | _ => .ishr
def av_cmp (k : Nat) (x y : Int32) : Bool := match k with
  | 0 => decide (x = y)
  | 1 => decide (¬ x = y)
  | 2 => decide (x < y)
  | 3 => decide (y ≤ x)
  | 4 => decide (y < x)
  | _ => decide (x ≤ y)
def av_ifI (k : Nat) (off : Int) : Instr := match k with
  | 0 => .ifCond .eq off
  | 1 => .ifCond .ne off
  | 2 => .ifCond .lt off
  | 3 => .ifCond .ge off
  | 4 => .ifCond .gt off
  | _ => .ifCond .le off
def av_icI (k : Nat) (off : Int) : Instr := match k with
  | 0 => .if_icmp .eq off
  | 1 => .if_icmp .ne off
  | 2 => .if_icmp .lt off
  | 3 => .if_icmp .ge off
  | 4 => .if_icmp .gt off
  | _ => .if_icmp .le off
def av_acI (k : Nat) (off : Int) : Instr := match k with
  | 0 => .if_acmp .eq off
  | _ => .if_acmp .ne off
/-- which array instructions: by the kind of the elements -/
def av_aldI (ty : FieldType) : Option Instr := match ty with
  | .int => some .iaload
  | .char => some .caload
  | .boolean => some .baload
  | .byte => some .baload
  | .long => some .laload
  | .object _ => some .aaload
  | _ => none
def av_astI (ty : FieldType) : Option Instr := match ty with
  | .int => some .iastore
  | .char => some .castore
  | .boolean => some .bastore
  | .byte => some .bastore
  | _ => none
def av_newI (ty : FieldType) : Option ArrayType := match ty with
  | .int => some .int
  | .char => some .char
  | .boolean => some .boolean
  | .byte => some .byte
  | .long => some .long
  | _ => none
def av_inb (i : Int32) (n : Nat) : Bool := decide (0 ≤ i) && decide (i.toNatClampNeg < n)
theorem av_inb_ok {i : Int32} {n : Nat} (h : av_inb i n = true) : vp_in i n := by
  unfold av_inb at h
  rw [Bool.and_eq_true, decide_eq_true_eq, decide_eq_true_eq] at h
  rintro (q | q)
  · have h1 := h.1
    rw [Int32.le_iff_toInt_le] at h1
    rw [Int32.lt_iff_toInt_lt] at q
    omega
  · omega
section AVrun
variable (fT : Nat → Nat → FieldType) (fN : Nat → Nat) (aT : Nat → FieldType)
def av_step (I : av_I) (pc : Nat) (L : av_Ls) (K : List Value) (S : av_St) : Option av_Cf :=
  match I with
  | (0, ln, a, _, _, _) => match av_ld L a with
    | some (.int x) => some (pc + ln, L, .int x :: K, S)
    | _ => none
  | (1, ln, a, _, _, _) => match av_ld L a with
    | some v => if av_isR v = true then some (pc + ln, L, v :: K, S) else none
    | none => none
  | (2, ln, a, _, _, _) => match K with
    | .int x :: K' => if a < L.length then some (pc + ln, L.set a (some (.int x)), K', S) else none
    | _ => none
  | (3, ln, a, _, _, _) => match K with
    | v :: K' => if av_isR v = true ∧ a < L.length then some (pc + ln, L.set a (some v), K', S) else none
    | [] => none
  | (4, ln, _, _, v, _) => some (pc + ln, L, .int v :: K, S)
  | (5, ln, _, _, _, _) => some (pc + ln, L, .null :: K, S)
  | (6, ln, a, _, v, _) => match av_ld L a with
    | some (.int x) => some (pc + ln, L.set a (some (.int (x + v))), K, S)
    | _ => none
  | (7, ln, k, _, _, _) => match K with
    | .int y :: .int x :: K' => match av_bin k x y with
      | some z => some (pc + ln, L, .int z :: K', S)
      | none => none
    | _ => none
  | (8, ln, _, _, _, _) => match K with
    | .int x :: K' => some (pc + ln, L, .int (x.toUInt32 % 65536).toInt32 :: K', S)
    | _ => none
  | (9, ln, _, _, _, _) => match K with
    | .int x :: K' => some (pc + ln, L, .int (-x) :: K', S)
    | _ => none
  | (10, ln, _, _, _, _) => match K with
    | v :: K' => if v.category = 1 then some (pc + ln, L, v :: v :: K', S) else none
    | [] => none
  | (11, ln, _, _, _, _) => match K with
    | v :: K' => if v.category = 1 then some (pc + ln, L, K', S) else none
    | [] => none
  | (12, ln, _, _, _, _) => match K with
    | v :: w :: K' => if v.category = 1 ∧ w.category = 1 then some (pc + ln, L, v :: w :: v :: K', S) else none
    | _ => none
  | (13, ln, _, _, _, _) => match K with
    | v :: w :: K' => if v.category = 1 ∧ w.category = 1 then some (pc + ln, L, v :: w :: v :: w :: K', S) else none
    | _ => none
  | (14, ln, _, _, _, _) => match K with
    | v :: w :: z :: K' => if v.category = 1 ∧ w.category = 1 ∧ z.category = 1 then some (pc + ln, L, v :: w :: z :: v :: K', S) else none
    | _ => none
  | (15, ln, k, t, _, _) => match K with
    | .int x :: K' => some (if av_cmp k x 0 = true then t else pc + ln, L, K', S)
    | _ => none
  | (16, ln, k, t, _, _) => match K with
    | .int y :: .int x :: K' => some (if av_cmp k x y = true then t else pc + ln, L, K', S)
    | _ => none
  | (17, ln, k, t, _, _) => match K with
    | w :: v :: K' => if av_isR v = true ∧ av_isR w = true then some (if (v = w) = (k = 0) then t else pc + ln, L, K', S) else none
    | _ => none
  | (18, ln, _, t, _, _) => match K with
    | .null :: K' => some (t, L, K', S)
    | .ref _ :: K' => some (pc + ln, L, K', S)
    | _ => none
  | (19, ln, _, t, _, _) => match K with
    | .null :: K' => some (pc + ln, L, K', S)
    | .ref _ :: K' => some (t, L, K', S)
    | _ => none
  | (20, _, _, t, _, _) => some (t, L, K, S)
  | (21, _, _, t, lo, ts) => match K with
    | .int x :: K' => if x.toInt < lo.toInt then some (t, L, K', S) else some (ts.getD (x.toInt - lo.toInt).toNat t, L, K', S)
    | _ => none
  | (22, ln, _, _, _, _) => match K with
    | .int x :: K' => some (pc + ln, L, .int x.toInt8.toInt32 :: K', S)
    | _ => none
  | (23, ln, _, _, _, _) => match K with
    | .int x :: K' => some (pc + ln, L, .long x.toInt64 :: K', S)
    | _ => none
  | (24, ln, _, _, _, _) => match K with
    | .long y :: .long x :: K' => some (pc + ln, L, .int (lg_cmp x y) :: K', S)
    | _ => none
  | (30, ln, ci, k, _, _) => match K with
    | .ref a :: K' => if S.1 a = some (.inl ci) then some (pc + ln, L, S.2.1 a k :: K', S) else none
    | _ => none
  | (31, ln, ci, k, _, _) => match K with
    | v :: .ref a :: K' => if S.1 a = some (.inl ci) ∧ av_fits (fT ci k) v = true then some (pc + ln, L, K', av_set S a k v) else none
    | _ => none
  | (32, ln, _, _, _, _) => match K with
    | .ref a :: K' => match S.1 a with
      | some (.inr q) => some (pc + ln, L, .int (Int32.ofNat q.2) :: K', S)
      | _ => none
    | _ => none
  | (33, ln, j, _, _, _) => match K with
    | .int i :: .ref a :: K' => match S.1 a with
      | some (.inr q) => if (q.1 = j ∨ q.1 = j + 50) ∧ av_inb i q.2 = true then some (pc + ln, L, S.2.1 a i.toNatClampNeg :: K', S) else none
      | _ => none
    | _ => none
  | (34, ln, j, _, _, _) => match K with
    | .int x :: .int i :: .ref a :: K' => match S.1 a with
      | some (.inr q) => if q.1 = j ∧ av_inb i q.2 = true then some (pc + ln, L, K', av_set S a i.toNatClampNeg (narrow (aT j) (.int x))) else none
      | _ => none
    | _ => none
  | (35, ln, j, ci, _, _) => match K with
    | .null :: .int i :: .ref a :: K' => match S.1 a with
      | some (.inr q) => if q.1 = j ∧ av_inb i q.2 = true then some (pc + ln, L, K', av_set S a i.toNatClampNeg .null) else none
      | _ => none
    | .ref v :: .int i :: .ref a :: K' => match S.1 a with
      | some (.inr q) => if q.1 = j ∧ av_inb i q.2 = true ∧ S.1 v = some (.inl ci) then some (pc + ln, L, K', av_set S a i.toNatClampNeg (.ref v)) else none
      | _ => none
    | _ => none
  | (36, ln, ci, _, _, _) => some (pc + ln, L, .ref S.2.2.1 :: K, av_new S (.inl ci) (fun k => defaultValue (fT ci k)) (fN ci))
  | (37, ln, j, _, _, _) => match K with
    | .int n :: K' => if 0 ≤ n ∧ n.toNatClampNeg ≤ 65536 then some (pc + ln, L, .ref S.2.2.1 :: K', av_new S (.inr (j, n.toNatClampNeg)) (fun _ => defaultValue (aT j)) n.toNatClampNeg) else none
    | _ => none
  | (38, ln, j, _, _, _) => match K with
    | .int n :: K' => if 0 ≤ n ∧ n.toNatClampNeg ≤ 65536 then some (pc + ln, L, .ref S.2.2.1 :: K', av_new S (.inr (j, n.toNatClampNeg)) (fun _ => .null) n.toNatClampNeg) else none
    | _ => none
  | _ => none
def av_ent (as : List Value) (n : Nat) : av_Ls := as.map some ++ List.replicate (n - as.length) none
def av_rok (ret : Option FieldType) (v : Value) : Bool := match ret with
  | some ty => av_fits ty v
  | none => false
def av_rcv (q : List Nat) (S : av_St) (as : List Value) : Bool := match q, as with
  | 0 :: _, _ => true
  | 1 :: ci :: _, .ref b :: _ => decide (S.1 b = some (.inl ci))
  | 2 :: _, .ref _ :: _ => true
  | _, _ => false
/-- a run: fuel, how deep calls may go, method, place, locals, stack, state -/
def av_run (ext : List Value → av_St → Option (Option Value × av_St)) (mt : Nat → Option av_Mt) : Nat → Nat → Nat → Nat → av_Ls → List Value → av_St → Option (Option Value × av_St)
  | 0, _, _, _, _, _, _ => none
  | n + 1, d, y, pc, L, K, S => match mt y with
    | none => none
    | some M => match M.2.2.2.2 pc with
      | none => none
      | some I => match I.1 with
        | 40 => match d, mt I.2.2.1 with
          | d' + 1, some M' =>
            if I.2.2.2.1 ≤ K.length ∧ K.length ≤ I.2.2.2.1 + 4 ∧ I.2.2.2.1 ≤ M'.2.2.1 ∧ (∀ v ∈ K.take I.2.2.2.1, v.category = 1) ∧ av_rcv I.2.2.2.2.2 S (K.take I.2.2.2.1).reverse = true then
              match av_run ext mt n d' I.2.2.1 0 (av_ent (K.take I.2.2.2.1).reverse M'.2.2.1) [] S with
              | none => none
              | some (v, S1) => av_run ext mt n (d' + 1) y (pc + 3) L (v.toList ++ K.drop I.2.2.2.1) S1
            else none
          | _, _ => none
        | 41 => match d, K with
          | d' + 1, .ref _ :: K' => if K'.length ≤ 4 then av_run ext mt n (d' + 1) y (pc + 3) L K' S else none
          | _, _ => none
        | 45 => match d with
          | d' + 1 => if 8 ≤ d' ∧ I.2.2.2.1 ≤ K.length ∧ K.length ≤ I.2.2.2.1 + 4 then
              match ext (K.take I.2.2.2.1).reverse S with
              | none => none
              | some (v, S1) => if S.2.2.1 ≤ S1.2.2.1 ∧ S.2.2.2 ≤ S1.2.2.2 then av_run ext mt n (d' + 1) y (pc + 3) L (v.toList ++ K.drop I.2.2.2.1) S1 else none
            else none
          | 0 => none
        | 42 => match K with
          | [] => if M.2.2.2.1 = none then some (none, S) else none
          | _ => none
        | 43 => match K with
          | [v] => if av_rok M.2.2.2.1 v = true then some (some v, S) else none
          | _ => none
        | _ => match av_step fT fN aT I pc L K S with
          | none => none
          | some (pc', L', K', S') => av_run ext mt n d y pc' L' K' S'
end AVrun
end
section
/-! THE SMALL MACHINE IS THE MACHINE: what a small state is in the heap -/
def av_K (cl : List vw_C) (D : va_G) (ao : List String) (U : State) : Prop := (∀ (c : Nat) (q : vw_C), cl[c]? = some q → u_Kn U q.1 q.2.1 q.2.2 (D.1 c) (D.2 c)) ∧ ∀ C ∈ ao, va_AO C U
theorem av_K.moved {cl : List vw_C} {D : va_G} {ao : List String} {u U : State} (hvm : u.vm.Alike U.vm) (h : av_K cl D ao u) : av_K cl D ao U := ⟨fun c q hq => u_Kn_moved hvm (h.1 c q hq), fun C hC => va_AO.moved hvm (h.2 C hC)⟩
def av_ob (cl : List vw_C) (D : va_G) (H : Heap) (a ci : Nat) (f : Nat → Value) : Prop := ∃ r : vw_C, cl[ci]? = some r ∧ t_OB a (D.1 ci) r.2.2 (D.2 ci) H f
def av_ar (U : State) (H : Heap) (a n : Nat) (ty : FieldType) (f : Nat → Value) : Prop := ∃ cA : ClassId, H[a]? = some (arrV cA n f) ∧ ArrOfT U cA ty ∧ va_RA U cA ty
def av_R (cl : List vw_C) (aT : Nat → FieldType) (D : va_G) (base : Nat) (U : State) (H : Heap) (S : av_St) : Prop :=
  S.2.2.1 = H.size ∧ base ≤ H.size ∧ (∀ a ci : Nat, S.1 a = some (.inl ci) → base ≤ a ∧ av_ob cl D H a ci (S.2.1 a)) ∧ ∀ a j n : Nat, S.1 a = some (.inr (j, n)) → (j < 50 → base ≤ a) ∧ av_ar U H a n (aT j) (S.2.1 a)
theorem av_ob.kept {cl : List vw_C} {D : va_G} {H H1 : Heap} {a ci : Nat} {f : Nat → Value} (h : av_ob cl D H a ci f) (hq : H1[a]? = H[a]?) : av_ob cl D H1 a ci f := by
  obtain ⟨r, h1, h2⟩ := h
  exact ⟨r, h1, h2.kept hq⟩
theorem av_ob.lt {cl : List vw_C} {D : va_G} {H : Heap} {a ci : Nat} {f : Nat → Value} (h : av_ob cl D H a ci f) : a < H.size := by
  obtain ⟨r, h1, cell, h2, -⟩ := h
  exact (Array.getElem?_eq_some_iff.mp h2).1
theorem av_ar.kept {U : State} {H H1 : Heap} {a n : Nat} {ty : FieldType} {f : Nat → Value} (h : av_ar U H a n ty f) (hq : H1[a]? = H[a]?) : av_ar U H1 a n ty f := by
  obtain ⟨cA, h1, h2⟩ := h
  exact ⟨cA, hq.trans h1, h2⟩
theorem av_ar.lt {U : State} {H : Heap} {a n : Nat} {ty : FieldType} {f : Nat → Value} (h : av_ar U H a n ty f) : a < H.size := by
  obtain ⟨cA, h1, -⟩ := h
  exact (Array.getElem?_eq_some_iff.mp h1).1
theorem av_ar.moved {u U : State} {H : Heap} {a n : Nat} {ty : FieldType} {f : Nat → Value} (hvm : u.vm.Alike U.vm) (h : av_ar u H a n ty f) : av_ar U H a n ty f := by
  obtain ⟨cA, h1, h2, h3⟩ := h
  exact ⟨cA, h1, arrOfT_moved hvm h2, h3.moved hvm⟩
theorem av_R.moved {cl : List vw_C} {aT : Nat → FieldType} {D : va_G} {base : Nat} {u U : State} {H : Heap} {S : av_St} (hvm : u.vm.Alike U.vm) (h : av_R cl aT D base u H S) : av_R cl aT D base U H S :=
  ⟨h.1, h.2.1, h.2.2.1, fun a j n q => ⟨(h.2.2.2 a j n q).1, (h.2.2.2 a j n q).2.moved hvm⟩⟩
theorem av_put_eq (ct : Nat → Nat → Value) (a k : Nat) (v : Value) : av_put ct a k v a = updV (ct a) k v := if_pos rfl
theorem av_put_ne (ct : Nat → Nat → Value) {a b : Nat} (k : Nat) (v : Value) (h : b ≠ a) : av_put ct a k v b = ct b := if_neg h
/-- a cell is written: an object's -/
theorem av_R.seto {cl : List vw_C} {aT : Nat → FieldType} {D : va_G} {base : Nat} {U : State} {H H1 : Heap} {S : av_St} {a k ci : Nat} {v : Value} (h : av_R cl aT D base U H S) (ht : S.1 a = some (.inl ci)) (ho : av_ob cl D H1 a ci (updV (S.2.1 a) k v)) (z : H1.size = H.size) (oq : ∀ q, q ≠ a → H1[q]? = H[q]?) : av_R cl aT D base U H1 (av_set S a k v) := by
  refine ⟨h.1.trans z.symm, by rw [z]; exact h.2.1, fun b cj hb => ?_, fun b j n hb => ?_⟩
  · have hb' : S.1 b = some (.inl cj) := hb
    refine ⟨(h.2.2.1 b cj hb').1, ?_⟩
    by_cases e : b = a
    · subst e
      have e2 : cj = ci := by rw [ht] at hb'; cases hb'; rfl
      subst e2
      show av_ob cl D H1 b cj (av_put S.2.1 b k v b)
      rw [av_put_eq]
      exact ho
    · show av_ob cl D H1 b cj (av_put S.2.1 a k v b)
      rw [av_put_ne _ _ _ e]
      exact (h.2.2.1 b cj hb').2.kept (oq b e)
  · have hb' : S.1 b = some (.inr (j, n)) := hb
    refine ⟨(h.2.2.2 b j n hb').1, ?_⟩
    have e : b ≠ a := fun e => by subst e; rw [ht] at hb'; cases hb'
    show av_ar U H1 b n (aT j) (av_put S.2.1 a k v b)
    rw [av_put_ne _ _ _ e]
    exact (h.2.2.2 b j n hb').2.kept (oq b e)
/-- a cell is written: an array's -/
theorem av_R.seta {cl : List vw_C} {aT : Nat → FieldType} {D : va_G} {base : Nat} {U : State} {H H1 : Heap} {S : av_St} {a k j0 n0 : Nat} {v : Value} (h : av_R cl aT D base U H S) (ht : S.1 a = some (.inr (j0, n0))) (ho : av_ar U H1 a n0 (aT j0) (updV (S.2.1 a) k v)) (z : H1.size = H.size) (oq : ∀ q, q ≠ a → H1[q]? = H[q]?) : av_R cl aT D base U H1 (av_set S a k v) := by
  refine ⟨h.1.trans z.symm, by rw [z]; exact h.2.1, fun b cj hb => ?_, fun b j n hb => ?_⟩
  · have hb' : S.1 b = some (.inl cj) := hb
    refine ⟨(h.2.2.1 b cj hb').1, ?_⟩
    have e : b ≠ a := fun e => by subst e; rw [ht] at hb'; cases hb'
    show av_ob cl D H1 b cj (av_put S.2.1 a k v b)
    rw [av_put_ne _ _ _ e]
    exact (h.2.2.1 b cj hb').2.kept (oq b e)
  · have hb' : S.1 b = some (.inr (j, n)) := hb
    refine ⟨(h.2.2.2 b j n hb').1, ?_⟩
    by_cases e : b = a
    · subst e
      have e2 : (j, n) = (j0, n0) := by rw [ht] at hb'; cases hb'; rfl
      cases e2
      show av_ar U H1 b n0 (aT j0) (av_put S.2.1 b k v b)
      rw [av_put_eq]
      exact ho
    · show av_ar U H1 b n (aT j) (av_put S.2.1 a k v b)
      rw [av_put_ne _ _ _ e]
      exact (h.2.2.2 b j n hb').2.kept (oq b e)
/-- a cell is made -/
theorem av_R.new {cl : List vw_C} {aT : Nat → FieldType} {D : va_G} {base : Nat} {U : State} {H H1 : Heap} {S : av_St} {t : av_Ty} {f : Nat → Value} {w : Nat} (h : av_R cl aT D base U H S) (ho : match t with | .inl ci => av_ob cl D H1 H.size ci f | .inr q => av_ar U H1 H.size q.2 (aT q.1) f) (z : H1.size = H.size + 1) (oq : ∀ q, q < H.size → H1[q]? = H[q]?) : av_R cl aT D base U H1 (av_new S t f w) := by
  have hs : S.2.2.1 = H.size := h.1
  refine ⟨by show S.2.2.1 + 1 = H1.size; rw [hs, z], by rw [z]; exact Nat.le_succ_of_le h.2.1, fun b cj hb => ?_, fun b j n hb => ?_⟩
  · have hb' : (if b = S.2.2.1 then some t else S.1 b) = some (.inl cj) := hb
    show base ≤ b ∧ av_ob cl D H1 b cj (if b = S.2.2.1 then f else S.2.1 b)
    by_cases e : b = S.2.2.1
    · rw [if_pos e] at hb' ⊢
      cases hb'
      rw [e, hs]
      exact ⟨h.2.1, ho⟩
    · rw [if_neg e] at hb' ⊢
      have := h.2.2.1 b cj hb'
      exact ⟨this.1, this.2.kept (oq b this.2.lt)⟩
  · have hb' : (if b = S.2.2.1 then some t else S.1 b) = some (.inr (j, n)) := hb
    show (j < 50 → base ≤ b) ∧ av_ar U H1 b n (aT j) (if b = S.2.2.1 then f else S.2.1 b)
    by_cases e : b = S.2.2.1
    · rw [if_pos e] at hb' ⊢
      cases hb'
      rw [e, hs]
      exact ⟨fun _ => h.2.1, ho⟩
    · rw [if_neg e] at hb' ⊢
      have := h.2.2.2 b j n hb'
      exact ⟨this.1, this.2.kept (oq b this.2.lt)⟩
/-- the locals -/
def av_as : Nat → av_Ls → List (Nat × Value)
  | _, [] => []
  | k, none :: L => av_as (k + 1) L
  | k, some v :: L => (k, v) :: av_as (k + 1) L
theorem av_as_mem : ∀ (L : av_Ls) (k i : Nat) (v : Value), (i, v) ∈ av_as k L ↔ k ≤ i ∧ L[i - k]? = some (some v)
  | [], k, i, v => by simp [av_as]
  | none :: L, k, i, v => by
    rw [av_as, av_as_mem L (k + 1) i v]
    constructor
    · rintro ⟨h1, h2⟩
      refine ⟨by omega, ?_⟩
      rw [show i - k = (i - (k + 1)) + 1 by omega, List.getElem?_cons_succ]
      exact h2
    · rintro ⟨h1, h2⟩
      by_cases e : i = k
      · subst e
        rw [Nat.sub_self, List.getElem?_cons_zero] at h2
        cases h2
      · refine ⟨by omega, ?_⟩
        rw [show i - k = (i - (k + 1)) + 1 by omega, List.getElem?_cons_succ] at h2
        exact h2
  | some w :: L, k, i, v => by
    rw [av_as, List.mem_cons, av_as_mem L (k + 1) i v]
    constructor
    · rintro (h | ⟨h1, h2⟩)
      · cases h
        refine ⟨Nat.le_refl _, ?_⟩
        rw [Nat.sub_self, List.getElem?_cons_zero]
      · refine ⟨by omega, ?_⟩
        rw [show i - k = (i - (k + 1)) + 1 by omega, List.getElem?_cons_succ]
        exact h2
    · rintro ⟨h1, h2⟩
      by_cases e : i = k
      · subst e
        rw [Nat.sub_self, List.getElem?_cons_zero] at h2
        cases h2
        exact Or.inl rfl
      · refine Or.inr ⟨by omega, ?_⟩
        rw [show i - k = (i - (k + 1)) + 1 by omega, List.getElem?_cons_succ] at h2
        exact h2
def av_lv (ls : Array Slot) (n : Nat) (L : av_Ls) : Prop := L.length = n ∧ (∀ (i : Nat) (v : Value), L[i]? = some (some v) → v.category = 1) ∧ lv_has ls n (av_as 0 L)
theorem av_lv.at {ls : Array Slot} {n : Nat} {L : av_Ls} (h : av_lv ls n L) {i : Nat} {v : Value} (hv : av_ld L i = some v) : ls[i]? = some (.val v) := by
  refine h.2.2.2.2 (i, v) ((av_as_mem L 0 i v).mpr ⟨Nat.zero_le _, ?_⟩)
  unfold av_ld at hv
  rw [List.getD_eq_getElem?_getD] at hv
  rw [Nat.sub_zero]
  cases hq : L[i]? with
  | none => rw [hq] at hv; cases hv
  | some o => rw [hq] at hv; exact congrArg some hv
theorem av_lv.put {ls ls' : Array Slot} {n : Nat} {L : av_Ls} {i : Nat} {v : Value} (h : av_lv ls n L) (hi : i < L.length) (hc : v.category = 1) (h' : lv_has ls' n ((i, v) :: (av_as 0 L).filter (fun q => !(q.1 == i) && !(q.1 + 1 == i && q.2.category == 2)))) : av_lv ls' n (L.set i (some v)) := by
  refine ⟨by rw [List.length_set]; exact h.1, fun j w hj => ?_, h'.1, h'.2.1, fun q hq => ?_⟩
  · by_cases e : j = i
    · subst e
      rw [List.getElem?_set_self hi] at hj
      cases hj
      exact hc
    · rw [List.getElem?_set_ne (Ne.symm e)] at hj
      exact h.2.1 j w hj
  · obtain ⟨j, w⟩ := q
    have h1 := ((av_as_mem _ 0 j w).mp hq).2
    rw [Nat.sub_zero] at h1
    by_cases e : j = i
    · subst e
      rw [List.getElem?_set_self hi] at h1
      cases h1
      exact h'.2.2 (j, v) List.mem_cons_self
    · rw [List.getElem?_set_ne (Ne.symm e)] at h1
      refine h'.2.2 (j, w) (List.mem_cons_of_mem _ (List.mem_filter.mpr ⟨(av_as_mem L 0 j w).mpr ⟨Nat.zero_le _, by rw [Nat.sub_zero]; exact h1⟩, ?_⟩))
      have hw : w.category = 1 := h.2.1 j w h1
      simp [e, hw]
end
section
/-! ONE INSTRUCTION OF THE SMALL MACHINE IS ONE OF THE MACHINE -/
def av_dec (M : av_Mt) (pc : Nat) (i : Instr) (ln : Nat) : Bool := decide (decode M.2.1 pc = .ok (i, ln))
theorem av_dec_ok {M : av_Mt} {pc : Nat} {i : Instr} {ln : Nat} (h : av_dec M pc i ln = true) : decode M.2.1 pc = .ok (i, ln) := of_decide_eq_true h
def av_fin (a : Nat) : Fin 4 := match a with
  | 0 => 0
  | 1 => 1
  | 2 => 2
  | _ => 3
theorem av_fin_ok {a : Nat} (h : a < 4) : (av_fin a : Nat) = a := by
  match a, h with
  | 0, _ => rfl
  | 1, _ => rfl
  | 2, _ => rfl
  | 3, _ => rfl
def av_mem (Ts : List Jvm.Cond) (w : Jvm.Cond) : Bool := decide (w ∈ Ts)
theorem av_mem_ok {Ts : List Jvm.Cond} {w : Jvm.Cond} (h : av_mem Ts w = true) : w ∈ Ts := of_decide_eq_true h
def av_off (pc t : Nat) : Int := (t : Int) - (pc : Int)
theorem av_off_ok (pc t : Nat) : (pc : Int) + av_off pc t = (t : Int) := by unfold av_off; omega
/-- is this row the instruction at this place, and do the tables know what it names -/
def av_chk (Ts : List Jvm.Cond) (cl : List vw_C) (fT : Nat → Nat → FieldType) (aT : Nat → FieldType) (ao : List String) (mt : Nat → Option av_Mt) (M : av_Mt) (pc : Nat) (I : av_I) : Bool := match I with
  | (0, ln, a, _, _, _) => if ln = 1 then decide (a < 4) && av_dec M pc (.iload_n (av_fin a)) 1 else decide (ln = 2) && av_dec M pc (.iload a) 2
  | (1, ln, a, _, _, _) => if ln = 1 then decide (a < 4) && av_dec M pc (.aload_n (av_fin a)) 1 else decide (ln = 2) && av_dec M pc (.aload a) 2
  | (2, ln, a, _, _, _) => if ln = 1 then decide (a < 4) && av_dec M pc (.istore_n (av_fin a)) 1 else decide (ln = 2) && av_dec M pc (.istore a) 2
  | (3, ln, a, _, _, _) => if ln = 1 then decide (a < 4) && av_dec M pc (.astore_n (av_fin a)) 1 else decide (ln = 2) && av_dec M pc (.astore a) 2
  | (4, ln, k, idx, v, _) => match k with
    | 0 => decide (ln = 1) && av_dec M pc (.iconst v.toInt) 1
    | 1 => decide (ln = 2) && av_dec M pc (.bipush v.toInt) 2 && decide ((Int8.ofInt v.toInt).toInt32 = v)
    | 2 => decide (ln = 3) && av_dec M pc (.sipush v.toInt) 3 && decide ((Int16.ofInt v.toInt).toInt32 = v)
    | _ => decide (ln = 2) && av_dec M pc (.ldc idx) 2 && av_mem Ts (.constant M.1.cls idx v)
  | (5, ln, _, _, _, _) => decide (ln = 1) && av_dec M pc .aconst_null 1
  | (6, ln, a, _, v, _) => decide (ln = 3) && av_dec M pc (.iinc a v.toInt) 3
  | (7, ln, k, _, _, _) => decide (ln = 1) && decide (k < 10) && av_dec M pc (av_binI k) 1
  | (8, ln, _, _, _, _) => decide (ln = 1) && av_dec M pc .i2c 1
  | (9, ln, _, _, _, _) => decide (ln = 1) && av_dec M pc .ineg 1
  | (10, ln, _, _, _, _) => decide (ln = 1) && av_dec M pc .dup 1
  | (11, ln, _, _, _, _) => decide (ln = 1) && av_dec M pc .pop 1
  | (12, ln, _, _, _, _) => decide (ln = 1) && av_dec M pc .dup_x1 1
  | (13, ln, _, _, _, _) => decide (ln = 1) && av_dec M pc .dup2 1
  | (14, ln, _, _, _, _) => decide (ln = 1) && av_dec M pc .dup_x2 1
  | (15, ln, k, t, _, _) => decide (ln = 3) && decide (k < 6) && av_dec M pc (av_ifI k (av_off pc t)) 3
  | (16, ln, k, t, _, _) => decide (ln = 3) && decide (k < 6) && av_dec M pc (av_icI k (av_off pc t)) 3
  | (17, ln, k, t, _, _) => decide (ln = 3) && decide (k < 2) && av_dec M pc (av_acI k (av_off pc t)) 3
  | (18, ln, _, t, _, _) => decide (ln = 3) && av_dec M pc (.ifnull (av_off pc t)) 3
  | (19, ln, _, t, _, _) => decide (ln = 3) && av_dec M pc (.ifnonnull (av_off pc t)) 3
  | (20, ln, _, t, _, _) => decide (ln = 3) && av_dec M pc (.goto (av_off pc t)) 3
  | (21, ln, _, t, lo, ts) => av_dec M pc (.tableswitch (av_off pc t) lo.toInt (lo.toInt + (ts.length : Int) - 1) (ts.map (av_off pc)).toArray) ln
  | (22, ln, _, _, _, _) => decide (ln = 1) && av_dec M pc .i2b 1
  | (23, ln, _, _, _, _) => decide (ln = 1) && av_dec M pc .i2l 1
  | (24, ln, _, _, _, _) => decide (ln = 1) && av_dec M pc .lcmp 1
  | (30, ln, ci, k, _, q) => match cl[ci]? with
    | some r => decide (ln = 3) && av_dec M pc (.getfield (q.getD 0 0)) 3 && decide (k < r.2.2) && av_mem Ts (.fieldLink M.1.cls (q.getD 0 0) (r.2.1 k).1 (r.2.1 k).2.1 (r.2.1 k).2.2.1)
    | none => false
  | (31, ln, ci, k, _, q) => match cl[ci]? with
    | some r => decide (ln = 3) && av_dec M pc (.putfield (q.getD 0 0)) 3 && decide (k < r.2.2) && av_mem Ts (.fieldLink M.1.cls (q.getD 0 0) (r.2.1 k).1 (r.2.1 k).2.1 (r.2.1 k).2.2.1) && ((r.2.1 k).2.2.2 == false || (decide (M.1.name = "<init>") && decide ((r.2.1 k).1 = M.1.cls)))
    | none => false
  | (32, ln, _, _, _, _) => decide (ln = 1) && av_dec M pc .arraylength 1
  | (33, ln, j, _, _, _) => match av_aldI (aT j) with
    | some i => decide (ln = 1) && av_dec M pc i 1 && decide (aT (j + 50) = aT j)
    | none => false
  | (34, ln, j, _, _, _) => match av_astI (aT j) with
    | some i => decide (ln = 1) && av_dec M pc i 1 && decide (j < 50)
    | none => false
  | (35, ln, j, ci, _, _) => match cl[ci]? with
    | some r => decide (ln = 1) && av_dec M pc .aastore 1 && decide (j < 50) && decide (aT j = .object r.1)
    | none => false
  | (36, ln, ci, _, _, q) => match cl[ci]? with
    | some r => decide (ln = 3) && av_dec M pc (.new (q.getD 0 0)) 3 && av_mem Ts (.classLink M.1.cls (q.getD 0 0) r.1) && av_mem Ts (.instantiable r.1 r.2.2) && av_mem Ts (.initialized r.1)
    | none => false
  | (37, ln, j, _, _, _) => match av_newI (aT j) with
    | some t => decide (ln = 2) && av_dec M pc (.newarray t) 2 && av_mem Ts (.arrayClass (aT j))
    | none => false
  | (38, ln, j, ci, _, q) => match cl[ci]? with
    | some r => decide (ln = 3) && av_dec M pc (.anewarray (q.getD 0 0)) 3 && decide (aT j = .object r.1) && av_mem Ts (.classLink M.1.cls (q.getD 0 0) r.1) && decide (r.1 ∈ ao)
    | none => false
  | (40, ln, y, na, _, q) => match mt y with
    | some N => decide (ln = 3) && av_mem Ts (.methodLink M.1.cls (q.getD 2 0) N.1) && av_mem Ts (.initialized N.1.cls) && av_mem Ts (.code N.1 N.2.1 N.2.2.1 N.2.2.2.1) && plainFor N.1 && decide (N.1.cls ≠ "java/lang/invoke/MethodHandle") && decide (N.1.cls ≠ "java/lang/invoke/VarHandle") && decide (N.2.2.1 ≤ 14) && (match q.getD 0 9 with
      | 0 => av_dec M pc (.invokestatic (q.getD 2 0)) 3 && av_mem Ts (.static N.1) && decide ((parseMethodDescriptor N.1.desc).map (fun d => d.parameters.length) = some na)
      | 1 => av_dec M pc (.invokevirtual (q.getD 2 0)) 3 && av_mem Ts (.instanceMethod N.1) && av_mem Ts (.selects N.1.cls N.1 N.1) && decide ((parseMethodDescriptor N.1.desc).map (fun d => d.parameters.length + 1) = some na) && decide ((cl[q.getD 1 0]?).map (fun r => r.1) = some N.1.cls)
      | 2 => av_dec M pc (.invokespecial (q.getD 2 0)) 3 && av_mem Ts (.instanceMethod N.1) && decide (N.1.name = "<init>") && decide (N.2.2.2.1 = none) && decide ((parseMethodDescriptor N.1.desc).map (fun d => d.parameters.length + 1) = some na)
      | _ => false)
    | none => false
  | (41, ln, _, _, _, q) => decide (ln = 3) && av_dec M pc (.invokespecial (q.getD 0 0)) 3 && av_mem Ts (.methodLink M.1.cls (q.getD 0 0) Lib.objectInit) && av_mem Ts (.instanceMethod Lib.objectInit) && av_mem Ts (.code Lib.objectInit ⟨#[0xb1]⟩ 1 none)
  | (45, ln, _, _, _, q) => decide (ln = 3) && av_dec M pc (.invokestatic (q.getD 0 0)) 3
  | (42, ln, _, _, _, _) => decide (ln = 1) && av_dec M pc .return_ 1
  | (43, ln, k, _, _, _) => decide (ln = 1) && (match M.2.2.2.1 with
    | some (.object _) => av_dec M pc .areturn 1
    | some (.array _) => av_dec M pc .areturn 1
    | some .int => av_dec M pc .ireturn 1
    | some .boolean => av_dec M pc .ireturn 1
    | _ => false)
  | _ => false
/-- what the tables say of the classes -/
def av_Tk (Ts : List Jvm.Cond) (cl : List vw_C) (fT : Nat → Nat → FieldType) (fN : Nat → Nat) : Prop := ∀ (ci : Nat) (q : vw_C), cl[ci]? = some q → (∀ w ∈ u_ws q.1 q.2.1 q.2.2, w ∈ Ts) ∧ (∀ k, k < q.2.2 → parseFieldDescriptor (q.2.1 k).2.2.1 = some (fT ci k)) ∧ (∀ a, a < q.2.2 → ∀ b, b < q.2.2 → a ≠ b → (q.2.1 a).2.1 ≠ (q.2.1 b).2.1) ∧ fN ci = q.2.2
/-- where a method is being walked -/
def av_Cx (Ts : List Jvm.Cond) (cl : List vw_C) (D : va_G) (ao : List String) (base : Nat) (M : av_Mt) (p : Program) (s : State) (m : MethodId) (args : Array Value) (meth : Method) (c : Code) : Prop :=
  p.tables.exec = Jvm.exec ∧ c.code = M.2.1 ∧ c.maxLocals = M.2.2.1 ∧ s.vm.findClass M.1.cls = some m.cls ∧ (∀ w ∈ Ts, w.before args s = true) ∧ av_K cl D ao s ∧ (M.1.name = "<init>" → meth.name = "<init>") ∧ base ≤ s.heap.size
section AVops
variable {p : Program} {l : Launch} {e : Env} {R : Room} {s : State} {m : MethodId} {args : Array Value} {below : List Frame} {meth : Method} {c : Code} {H : Heap} {locs : List Loc} {cells slots : Nat} {Q : State → Prop}
variable {Ts : List Jvm.Cond} {cl : List vw_C} {D : va_G} {ao : List String} {base : Nat} {M : av_Mt} {fT : Nat → Nat → FieldType} {fN : Nat → Nat} {aT : Nat → FieldType} {mt : Nat → Option av_Mt}
variable {pc pc' : Nat} {L L' : av_Ls} {K K' : List Value} {S S' : av_St} {ls : Array Slot}
/-- what is to be shown of the rest -/
def av_go (p : Program) (l : Launch) (e : Env) (R : Room) (s : State) (m : MethodId) (args : Array Value) (below : List Frame) (meth : Method) (c : Code) (Q : State → Prop) (cl : List vw_C) (aT : Nat → FieldType) (D : va_G) (base nL cells slots : Nat) (S : av_St) (cf : av_Cf) : Prop :=
  ∀ (H' : Heap) (locs' : List Loc) (ls' : Array Slot) (cells' slots' : Nat), av_R cl aT D base s H' cf.2.2.2 → va_S (fun q => base ≤ q) s.heap H' locs' → av_lv ls' nL cf.2.1 → cells' + S.2.2.1 = cells + cf.2.2.2.2.2.1 → slots' + S.2.2.2 = slots + cf.2.2.2.2.2.2 → W p l e R s m args below meth c H' locs' cells' slots' Q (F0 m cf.1 ls' cf.2.2.1)
abbrev av_ok (p : Program) (l : Launch) (e : Env) (R : Room) (s : State) (m : MethodId) (args : Array Value) (below : List Frame) (meth : Method) (c : Code) (Q : State → Prop) (Ts : List Jvm.Cond) (cl : List vw_C) (fT : Nat → Nat → FieldType) (fN : Nat → Nat) (aT : Nat → FieldType) (ao : List String) (mt : Nat → Option av_Mt) (D : va_G) (base : Nat) (M : av_Mt) (I : av_I) : Prop :=
  ∀ (pc : Nat) (L : av_Ls) (K : List Value) (S : av_St) (cf : av_Cf) (ls : Array Slot) (H : Heap) (locs : List Loc) (cells slots : Nat), av_chk Ts cl fT aT ao mt M pc I = true → av_step fT fN aT I pc L K S = some cf → av_R cl aT D base s H S → va_S (fun q => base ≤ q) s.heap H locs → av_lv ls M.2.2.1 L → cells + cf.2.2.2.2.2.1 ≤ R.cells + S.2.2.1 → slots + cf.2.2.2.2.2.2 ≤ R.slots + S.2.2.2 → av_go p l e R s m args below meth c Q cl aT D base M.2.2.1 cells slots S cf → W p l e R s m args below meth c H locs cells slots Q (F0 m pc ls K)
theorem av_stay {cells slots nL : Nat} {cf : av_Cf} (g : av_go p l e R s m args below meth c Q cl aT D base nL cells slots S cf) (hs : cf.2.2.2 = S) (hR : av_R cl aT D base s H S) (hS : va_S (fun q => base ≤ q) s.heap H locs) (hl : av_lv ls nL cf.2.1) : W p l e R s m args below meth c H locs cells slots Q (F0 m cf.1 ls cf.2.2.1) :=
  g H locs ls cells slots (by rw [hs]; exact hR) hS hl (by rw [hs]) (by rw [hs])
theorem av_o0 (X : av_Cx Ts cl D ao base M p s m args meth c) {ln a b : Nat} {v : Int32} {q : List Nat} : av_ok p l e R s m args below meth c Q Ts cl fT fN aT ao mt D base M (0, ln, a, b, v, q) := by
  intro pc L K S cf ls H locs cells slots hc hst hR hS hl _ _ g
  simp only [av_step] at hst
  split at hst
  · rename_i x hx
    cases hst
    simp only [av_chk] at hc
    split at hc
    · rename_i h1
      subst h1
      rw [Bool.and_eq_true, decide_eq_true_eq] at hc
      exact lv_iload_n X.1 X.2.1 (av_dec_ok hc.2) (av_fin_ok hc.1) (hl.at hx) (av_stay g rfl hR hS hl)
    · rw [Bool.and_eq_true, decide_eq_true_eq] at hc
      obtain ⟨rfl, hc⟩ := hc
      exact lv_iload X.1 X.2.1 (av_dec_ok hc) (hl.at hx) (av_stay g rfl hR hS hl)
  · cases hst
theorem av_o1 (X : av_Cx Ts cl D ao base M p s m args meth c) {ln a b : Nat} {v : Int32} {q : List Nat} : av_ok p l e R s m args below meth c Q Ts cl fT fN aT ao mt D base M (1, ln, a, b, v, q) := by
  intro pc L K S cf ls H locs cells slots hc hst hR hS hl _ _ g
  simp only [av_step] at hst
  split at hst
  · rename_i w hx
    split at hst
    · rename_i hw
      cases hst
      simp only [av_chk] at hc
      split at hc
      · rename_i h1
        subst h1
        rw [Bool.and_eq_true, decide_eq_true_eq] at hc
        rcases av_isR_or hw with rfl | ⟨z, rfl⟩
        · exact lv_aload_nN X.1 X.2.1 (av_dec_ok hc.2) (av_fin_ok hc.1) (hl.at hx) (av_stay g rfl hR hS hl)
        · exact lv_aload_n X.1 X.2.1 (av_dec_ok hc.2) (av_fin_ok hc.1) (hl.at hx) (av_stay g rfl hR hS hl)
      · rw [Bool.and_eq_true, decide_eq_true_eq] at hc
        obtain ⟨rfl, hc⟩ := hc
        rcases av_isR_or hw with rfl | ⟨z, rfl⟩
        · exact lv_aloadN X.1 X.2.1 (av_dec_ok hc) (hl.at hx) (av_stay g rfl hR hS hl)
        · exact lv_aload X.1 X.2.1 (av_dec_ok hc) (hl.at hx) (av_stay g rfl hR hS hl)
    · cases hst
  · cases hst
theorem av_o2 (X : av_Cx Ts cl D ao base M p s m args meth c) {ln a b : Nat} {v : Int32} {q : List Nat} : av_ok p l e R s m args below meth c Q Ts cl fT fN aT ao mt D base M (2, ln, a, b, v, q) := by
  intro pc L K S cf ls H locs cells slots hc hst hR hS hl _ _ g
  simp only [av_step] at hst
  split at hst
  · rename_i x K'
    split at hst
    · rename_i ha
      cases hst
      have ha' : a < M.2.2.1 := by rw [← hl.1]; exact ha
      simp only [av_chk] at hc
      split at hc
      · rename_i h1
        subst h1
        rw [Bool.and_eq_true, decide_eq_true_eq] at hc
        exact lv_istore_n X.1 X.2.1 (av_dec_ok hc.2) (av_fin_ok hc.1) hl.2.2 ha' rfl (fun ls' hl' => av_stay g rfl hR hS (hl.put ha rfl hl'))
      · rw [Bool.and_eq_true, decide_eq_true_eq] at hc
        obtain ⟨rfl, hc⟩ := hc
        exact lv_istore X.1 X.2.1 (av_dec_ok hc) hl.2.2 ha' rfl (fun ls' hl' => av_stay g rfl hR hS (hl.put ha rfl hl'))
    · cases hst
  · cases hst
theorem av_o3 (X : av_Cx Ts cl D ao base M p s m args meth c) {ln a b : Nat} {v : Int32} {q : List Nat} : av_ok p l e R s m args below meth c Q Ts cl fT fN aT ao mt D base M (3, ln, a, b, v, q) := by
  intro pc L K S cf ls H locs cells slots hc hst hR hS hl _ _ g
  simp only [av_step] at hst
  split at hst
  · rename_i w K'
    split at hst
    · rename_i ha
      obtain ⟨hw, ha⟩ := ha
      cases hst
      have ha' : a < M.2.2.1 := by rw [← hl.1]; exact ha
      simp only [av_chk] at hc
      split at hc
      · rename_i h1
        subst h1
        rw [Bool.and_eq_true, decide_eq_true_eq] at hc
        rcases av_isR_or hw with rfl | ⟨z, rfl⟩
        · exact lv_astore_nN X.1 X.2.1 (av_dec_ok hc.2) (av_fin_ok hc.1) hl.2.2 ha' rfl (fun ls' hl' => av_stay g rfl hR hS (hl.put ha rfl hl'))
        · exact lv_astore_n X.1 X.2.1 (av_dec_ok hc.2) (av_fin_ok hc.1) hl.2.2 ha' rfl (fun ls' hl' => av_stay g rfl hR hS (hl.put ha rfl hl'))
      · rw [Bool.and_eq_true, decide_eq_true_eq] at hc
        obtain ⟨rfl, hc⟩ := hc
        rcases av_isR_or hw with rfl | ⟨z, rfl⟩
        · exact lv_astoreN X.1 X.2.1 (av_dec_ok hc) hl.2.2 ha' rfl (fun ls' hl' => av_stay g rfl hR hS (hl.put ha rfl hl'))
        · exact lv_astore X.1 X.2.1 (av_dec_ok hc) hl.2.2 ha' rfl (fun ls' hl' => av_stay g rfl hR hS (hl.put ha rfl hl'))
    · cases hst
  · cases hst
theorem av_o4 (X : av_Cx Ts cl D ao base M p s m args meth c) {ln a b : Nat} {v : Int32} {q : List Nat} : av_ok p l e R s m args below meth c Q Ts cl fT fN aT ao mt D base M (4, ln, a, b, v, q) := by
  intro pc L K S cf ls H locs cells slots hc hst hR hS hl _ _ g
  simp only [av_step] at hst
  cases hst
  simp only [av_chk] at hc
  split at hc
  · rw [Bool.and_eq_true, decide_eq_true_eq] at hc
    obtain ⟨rfl, hc⟩ := hc
    exact lv_iconst X.1 X.2.1 (av_dec_ok hc) (Int32.ofInt_toInt _) (av_stay g rfl hR hS hl)
  · rw [Bool.and_eq_true, Bool.and_eq_true, decide_eq_true_eq, decide_eq_true_eq] at hc
    obtain ⟨⟨rfl, hc⟩, hv⟩ := hc
    exact lv_bipush X.1 X.2.1 (av_dec_ok hc) hv (av_stay g rfl hR hS hl)
  · rw [Bool.and_eq_true, Bool.and_eq_true, decide_eq_true_eq, decide_eq_true_eq] at hc
    obtain ⟨⟨rfl, hc⟩, hv⟩ := hc
    exact lv_sipush X.1 X.2.1 (av_dec_ok hc) hv (av_stay g rfl hR hS hl)
  · rw [Bool.and_eq_true, Bool.and_eq_true, decide_eq_true_eq] at hc
    obtain ⟨⟨rfl, hc⟩, hv⟩ := hc
    exact lv_ldc X.1 X.2.1 X.2.2.2.1 (X.2.2.2.2.1 _ (av_mem_ok hv)) (av_dec_ok hc) (av_stay g rfl hR hS hl)
theorem av_o5 (X : av_Cx Ts cl D ao base M p s m args meth c) {ln a b : Nat} {v : Int32} {q : List Nat} : av_ok p l e R s m args below meth c Q Ts cl fT fN aT ao mt D base M (5, ln, a, b, v, q) := by
  intro pc L K S cf ls H locs cells slots hc hst hR hS hl _ _ g
  simp only [av_step] at hst
  cases hst
  simp only [av_chk] at hc
  rw [Bool.and_eq_true, decide_eq_true_eq] at hc
  obtain ⟨rfl, hc⟩ := hc
  exact lv_null X.1 X.2.1 (av_dec_ok hc) (av_stay g rfl hR hS hl)
theorem av_ld_mem {L : av_Ls} {a : Nat} {v : Value} (h : av_ld L a = some v) : ∃ k : Nat, (av_as 0 L)[k]? = some (a, v) := by
  have h1 : (a, v) ∈ av_as 0 L := by
    refine (av_as_mem L 0 a v).mpr ⟨Nat.zero_le _, ?_⟩
    unfold av_ld at h
    rw [List.getD_eq_getElem?_getD] at h
    rw [Nat.sub_zero]
    cases hq : L[a]? with
    | none => rw [hq] at h; cases h
    | some o => rw [hq] at h; exact congrArg some h
  exact List.getElem?_of_mem h1
theorem av_ld_lt {L : av_Ls} {a : Nat} {v : Value} (h : av_ld L a = some v) : a < L.length := by
  unfold av_ld at h
  rw [List.getD_eq_getElem?_getD] at h
  cases hq : L[a]? with
  | none => rw [hq] at h; cases h
  | some o => exact (List.getElem?_eq_some_iff.mp hq).1
theorem av_o6 (X : av_Cx Ts cl D ao base M p s m args meth c) {ln a b : Nat} {v : Int32} {q : List Nat} : av_ok p l e R s m args below meth c Q Ts cl fT fN aT ao mt D base M (6, ln, a, b, v, q) := by
  intro pc L K S cf ls H locs cells slots hc hst hR hS hl _ _ g
  simp only [av_step] at hst
  split at hst
  · rename_i x hx
    cases hst
    simp only [av_chk] at hc
    rw [Bool.and_eq_true, decide_eq_true_eq] at hc
    obtain ⟨rfl, hc⟩ := hc
    obtain ⟨k, hk⟩ := av_ld_mem hx
    have ha := av_ld_lt hx
    exact lv_iinc X.1 X.2.1 (av_dec_ok hc) hl.2.2 hk (by rw [Int32.ofInt_toInt]) (by rw [← hl.1]; exact ha) rfl (fun ls' hl' => av_stay g rfl hR hS (hl.put ha rfl hl'))
  · cases hst
theorem av_o7 (X : av_Cx Ts cl D ao base M p s m args meth c) {ln a b : Nat} {v : Int32} {q : List Nat} : av_ok p l e R s m args below meth c Q Ts cl fT fN aT ao mt D base M (7, ln, a, b, v, q) := by
  intro pc L K S cf ls H locs cells slots hc hst hR hS hl _ _ g
  simp only [av_step] at hst
  split at hst
  · rename_i y x K'
    split at hst
    · rename_i z hz
      cases hst
      simp only [av_chk] at hc
      rw [Bool.and_eq_true, Bool.and_eq_true, decide_eq_true_eq, decide_eq_true_eq] at hc
      obtain ⟨⟨rfl, ha⟩, hc⟩ := hc
      have hd := av_dec_ok hc
      have g' := av_stay g rfl hR hS hl
      match a, ha, hz, hd with
      | 0, _, hz, hd => cases hz; exact lv_iadd X.1 X.2.1 hd g'
      | 1, _, hz, hd => cases hz; exact lv_isub X.1 X.2.1 hd g'
      | 2, _, hz, hd => cases hz; exact lv_imul X.1 X.2.1 hd g'
      | 3, _, hz, hd =>
        simp only [av_bin] at hz
        split at hz
        · cases hz
        · rename_i hn; cases hz; exact lv_idiv X.1 X.2.1 hd hn g'
      | 4, _, hz, hd =>
        simp only [av_bin] at hz
        split at hz
        · cases hz
        · rename_i hn; cases hz; exact lv_irem X.1 X.2.1 hd hn g'
      | 5, _, hz, hd => cases hz; exact lv_iand X.1 X.2.1 hd g'
      | 6, _, hz, hd => cases hz; exact lv_ior X.1 X.2.1 hd g'
      | 7, _, hz, hd => cases hz; exact lv_ixor X.1 X.2.1 hd g'
      | 8, _, hz, hd => cases hz; exact lv_ishl X.1 X.2.1 hd g'
      | 9, _, hz, hd => cases hz; exact lv_ishr X.1 X.2.1 hd g'
      | n + 10, ha, _, _ => exact absurd ha (by omega)
    · cases hst
  · cases hst
theorem av_o8 (X : av_Cx Ts cl D ao base M p s m args meth c) {ln a b : Nat} {v : Int32} {q : List Nat} : av_ok p l e R s m args below meth c Q Ts cl fT fN aT ao mt D base M (8, ln, a, b, v, q) := by
  intro pc L K S cf ls H locs cells slots hc hst hR hS hl _ _ g
  simp only [av_step] at hst
  split at hst
  · cases hst
    simp only [av_chk] at hc
    rw [Bool.and_eq_true, decide_eq_true_eq] at hc
    obtain ⟨rfl, hc⟩ := hc
    exact lv_i2c X.1 X.2.1 (av_dec_ok hc) rfl (av_stay g rfl hR hS hl)
  · cases hst
theorem av_o9 (X : av_Cx Ts cl D ao base M p s m args meth c) {ln a b : Nat} {v : Int32} {q : List Nat} : av_ok p l e R s m args below meth c Q Ts cl fT fN aT ao mt D base M (9, ln, a, b, v, q) := by
  intro pc L K S cf ls H locs cells slots hc hst hR hS hl _ _ g
  simp only [av_step] at hst
  split at hst
  · cases hst
    simp only [av_chk] at hc
    rw [Bool.and_eq_true, decide_eq_true_eq] at hc
    obtain ⟨rfl, hc⟩ := hc
    exact lv_ineg X.1 X.2.1 (av_dec_ok hc) (av_stay g rfl hR hS hl)
  · cases hst
theorem av_o10 (X : av_Cx Ts cl D ao base M p s m args meth c) {ln a b : Nat} {v : Int32} {q : List Nat} : av_ok p l e R s m args below meth c Q Ts cl fT fN aT ao mt D base M (10, ln, a, b, v, q) := by
  intro pc L K S cf ls H locs cells slots hc hst hR hS hl _ _ g
  simp only [av_step] at hst
  split at hst
  · split at hst
    · rename_i hw
      cases hst
      simp only [av_chk] at hc
      rw [Bool.and_eq_true, decide_eq_true_eq] at hc
      obtain ⟨rfl, hc⟩ := hc
      exact lv_dup X.1 X.2.1 (av_dec_ok hc) hw (av_stay g rfl hR hS hl)
    · cases hst
  · cases hst
theorem av_o11 (X : av_Cx Ts cl D ao base M p s m args meth c) {ln a b : Nat} {v : Int32} {q : List Nat} : av_ok p l e R s m args below meth c Q Ts cl fT fN aT ao mt D base M (11, ln, a, b, v, q) := by
  intro pc L K S cf ls H locs cells slots hc hst hR hS hl _ _ g
  simp only [av_step] at hst
  split at hst
  · split at hst
    · rename_i hw
      cases hst
      simp only [av_chk] at hc
      rw [Bool.and_eq_true, decide_eq_true_eq] at hc
      obtain ⟨rfl, hc⟩ := hc
      exact lv_pop X.1 X.2.1 (av_dec_ok hc) hw (av_stay g rfl hR hS hl)
    · cases hst
  · cases hst
theorem av_o12 (X : av_Cx Ts cl D ao base M p s m args meth c) {ln a b : Nat} {v : Int32} {q : List Nat} : av_ok p l e R s m args below meth c Q Ts cl fT fN aT ao mt D base M (12, ln, a, b, v, q) := by
  intro pc L K S cf ls H locs cells slots hc hst hR hS hl _ _ g
  simp only [av_step] at hst
  split at hst
  · split at hst
    · rename_i hw
      cases hst
      simp only [av_chk] at hc
      rw [Bool.and_eq_true, decide_eq_true_eq] at hc
      obtain ⟨rfl, hc⟩ := hc
      exact lv_dup_x1 X.1 X.2.1 (av_dec_ok hc) hw.1 hw.2 (av_stay g rfl hR hS hl)
    · cases hst
  · cases hst
theorem av_o13 (X : av_Cx Ts cl D ao base M p s m args meth c) {ln a b : Nat} {v : Int32} {q : List Nat} : av_ok p l e R s m args below meth c Q Ts cl fT fN aT ao mt D base M (13, ln, a, b, v, q) := by
  intro pc L K S cf ls H locs cells slots hc hst hR hS hl _ _ g
  simp only [av_step] at hst
  split at hst
  · split at hst
    · rename_i hw
      cases hst
      simp only [av_chk] at hc
      rw [Bool.and_eq_true, decide_eq_true_eq] at hc
      obtain ⟨rfl, hc⟩ := hc
      exact lv_dup2_11 X.1 X.2.1 (av_dec_ok hc) hw.1 hw.2 (av_stay g rfl hR hS hl)
    · cases hst
  · cases hst
theorem av_o14 (X : av_Cx Ts cl D ao base M p s m args meth c) {ln a b : Nat} {v : Int32} {q : List Nat} : av_ok p l e R s m args below meth c Q Ts cl fT fN aT ao mt D base M (14, ln, a, b, v, q) := by
  intro pc L K S cf ls H locs cells slots hc hst hR hS hl _ _ g
  simp only [av_step] at hst
  split at hst
  · split at hst
    · rename_i hw
      cases hst
      simp only [av_chk] at hc
      rw [Bool.and_eq_true, decide_eq_true_eq] at hc
      obtain ⟨rfl, hc⟩ := hc
      exact lv_dup_x2 X.1 X.2.1 (av_dec_ok hc) hw.1 hw.2.1 hw.2.2 (av_stay g rfl hR hS hl)
    · cases hst
  · cases hst
theorem av_o15 (X : av_Cx Ts cl D ao base M p s m args meth c) {ln a b : Nat} {v : Int32} {q : List Nat} : av_ok p l e R s m args below meth c Q Ts cl fT fN aT ao mt D base M (15, ln, a, b, v, q) := by
  intro pc L K S cf ls H locs cells slots hc hst hR hS hl _ _ g
  simp only [av_step] at hst
  split at hst
  · cases hst
    simp only [av_chk] at hc
    rw [Bool.and_eq_true, Bool.and_eq_true, decide_eq_true_eq, decide_eq_true_eq] at hc
    obtain ⟨⟨rfl, ha⟩, hc⟩ := hc
    have hd := av_dec_ok hc
    have g' := av_stay g rfl hR hS hl
    match a, ha, hd, g' with
    | 0, _, hd, g' => exact lv_if_eq X.1 X.2.1 hd (av_off_ok _ _) (fun h => by rw [if_pos (show av_cmp 0 _ _ = true from decide_eq_true h)] at g'; exact g') (fun h => by rw [if_neg (fun z : av_cmp 0 _ _ = true => h (of_decide_eq_true z))] at g'; exact g')
    | 1, _, hd, g' => exact lv_if_ne X.1 X.2.1 hd (av_off_ok _ _) (fun h => by rw [if_pos (show av_cmp 1 _ _ = true from decide_eq_true h)] at g'; exact g') (fun h => by rw [if_neg (fun z : av_cmp 1 _ _ = true => (of_decide_eq_true z) h)] at g'; exact g')
    | 2, _, hd, g' => exact lv_if_lt X.1 X.2.1 hd (av_off_ok _ _) (fun h => by rw [if_pos (show av_cmp 2 _ _ = true from decide_eq_true h)] at g'; exact g') (fun h => by rw [if_neg (fun z : av_cmp 2 _ _ = true => h (of_decide_eq_true z))] at g'; exact g')
    | 3, _, hd, g' => exact lv_if_ge X.1 X.2.1 hd (av_off_ok _ _) (fun h => by rw [if_pos (show av_cmp 3 _ _ = true from decide_eq_true h)] at g'; exact g') (fun h => by rw [if_neg (fun z : av_cmp 3 _ _ = true => h (of_decide_eq_true z))] at g'; exact g')
    | 4, _, hd, g' => exact lv_if_gt X.1 X.2.1 hd (av_off_ok _ _) (fun h => by rw [if_pos (show av_cmp 4 _ _ = true from decide_eq_true h)] at g'; exact g') (fun h => by rw [if_neg (fun z : av_cmp 4 _ _ = true => h (of_decide_eq_true z))] at g'; exact g')
    | 5, _, hd, g' => exact lv_if_le X.1 X.2.1 hd (av_off_ok _ _) (fun h => by rw [if_pos (show av_cmp 5 _ _ = true from decide_eq_true h)] at g'; exact g') (fun h => by rw [if_neg (fun z : av_cmp 5 _ _ = true => h (of_decide_eq_true z))] at g'; exact g')
    | n + 6, ha, _, _ => exact absurd ha (by omega)
  · cases hst
theorem av_o16 (X : av_Cx Ts cl D ao base M p s m args meth c) {ln a b : Nat} {v : Int32} {q : List Nat} : av_ok p l e R s m args below meth c Q Ts cl fT fN aT ao mt D base M (16, ln, a, b, v, q) := by
  intro pc L K S cf ls H locs cells slots hc hst hR hS hl _ _ g
  simp only [av_step] at hst
  split at hst
  · cases hst
    simp only [av_chk] at hc
    rw [Bool.and_eq_true, Bool.and_eq_true, decide_eq_true_eq, decide_eq_true_eq] at hc
    obtain ⟨⟨rfl, ha⟩, hc⟩ := hc
    have hd := av_dec_ok hc
    have g' := av_stay g rfl hR hS hl
    match a, ha, hd, g' with
    | 0, _, hd, g' => exact lv_icmp_eq X.1 X.2.1 hd (av_off_ok _ _) (fun h => by rw [if_pos (show av_cmp 0 _ _ = true from decide_eq_true h)] at g'; exact g') (fun h => by rw [if_neg (fun z : av_cmp 0 _ _ = true => h (of_decide_eq_true z))] at g'; exact g')
    | 1, _, hd, g' => exact lv_icmp_ne X.1 X.2.1 hd (av_off_ok _ _) (fun h => by rw [if_pos (show av_cmp 1 _ _ = true from decide_eq_true h)] at g'; exact g') (fun h => by rw [if_neg (fun z : av_cmp 1 _ _ = true => (of_decide_eq_true z) h)] at g'; exact g')
    | 2, _, hd, g' => exact lv_icmp_lt X.1 X.2.1 hd (av_off_ok _ _) (fun h => by rw [if_pos (show av_cmp 2 _ _ = true from decide_eq_true h)] at g'; exact g') (fun h => by rw [if_neg (fun z : av_cmp 2 _ _ = true => h (of_decide_eq_true z))] at g'; exact g')
    | 3, _, hd, g' => exact lv_icmp_ge X.1 X.2.1 hd (av_off_ok _ _) (fun h => by rw [if_pos (show av_cmp 3 _ _ = true from decide_eq_true h)] at g'; exact g') (fun h => by rw [if_neg (fun z : av_cmp 3 _ _ = true => h (of_decide_eq_true z))] at g'; exact g')
    | 4, _, hd, g' => exact lv_icmp_gt X.1 X.2.1 hd (av_off_ok _ _) (fun h => by rw [if_pos (show av_cmp 4 _ _ = true from decide_eq_true h)] at g'; exact g') (fun h => by rw [if_neg (fun z : av_cmp 4 _ _ = true => h (of_decide_eq_true z))] at g'; exact g')
    | 5, _, hd, g' => exact lv_icmp_le X.1 X.2.1 hd (av_off_ok _ _) (fun h => by rw [if_pos (show av_cmp 5 _ _ = true from decide_eq_true h)] at g'; exact g') (fun h => by rw [if_neg (fun z : av_cmp 5 _ _ = true => h (of_decide_eq_true z))] at g'; exact g')
    | n + 6, ha, _, _ => exact absurd ha (by omega)
  · cases hst
theorem av_rf {v : Value} (h : av_isR v = true) : ∃ r, v = va_rf r := by
  rcases av_isR_or h with rfl | ⟨a, rfl⟩
  · exact ⟨none, rfl⟩
  · exact ⟨some a, rfl⟩
theorem av_rf_inj {r t : Option Nat} : va_rf r = va_rf t ↔ r = t := by
  cases r <;> cases t <;> simp [va_rf]
theorem av_o17 (X : av_Cx Ts cl D ao base M p s m args meth c) {ln a b : Nat} {v : Int32} {q : List Nat} : av_ok p l e R s m args below meth c Q Ts cl fT fN aT ao mt D base M (17, ln, a, b, v, q) := by
  intro pc L K S cf ls H locs cells slots hc hst hR hS hl _ _ g
  simp only [av_step] at hst
  split at hst
  · rename_i w u K'
    split at hst
    · rename_i hw
      cases hst
      simp only [av_chk] at hc
      rw [Bool.and_eq_true, Bool.and_eq_true, decide_eq_true_eq, decide_eq_true_eq] at hc
      obtain ⟨⟨rfl, ha⟩, hc⟩ := hc
      have hd := av_dec_ok hc
      have g' := av_stay g rfl hR hS hl
      obtain ⟨r1, rfl⟩ := av_rf hw.1
      obtain ⟨r2, rfl⟩ := av_rf hw.2
      match a, ha, hd, g' with
      | 0, _, hd, g' => exact lv_acmp_eq X.1 X.2.1 hd (av_off_ok _ _) (fun h => by rw [if_pos (by simp [av_rf_inj, h])] at g'; exact g') (fun h => by rw [if_neg (by simp [av_rf_inj, h])] at g'; exact g')
      | 1, _, hd, g' => exact lv_acmp_ne X.1 X.2.1 hd (av_off_ok _ _) (fun h => by rw [if_pos (by simp [av_rf_inj, h])] at g'; exact g') (fun h => by rw [if_neg (by simp [av_rf_inj, h])] at g'; exact g')
      | n + 2, ha, _, _ => exact absurd ha (by omega)
    · cases hst
  · cases hst
theorem av_o18 (X : av_Cx Ts cl D ao base M p s m args meth c) {ln a b : Nat} {v : Int32} {q : List Nat} : av_ok p l e R s m args below meth c Q Ts cl fT fN aT ao mt D base M (18, ln, a, b, v, q) := by
  intro pc L K S cf ls H locs cells slots hc hst hR hS hl _ _ g
  simp only [av_step] at hst
  simp only [av_chk] at hc
  rw [Bool.and_eq_true, decide_eq_true_eq] at hc
  obtain ⟨rfl, hc⟩ := hc
  split at hst
  · cases hst
    exact lv_ifnullN X.1 X.2.1 (av_dec_ok hc) (av_off_ok _ _) (av_stay g rfl hR hS hl)
  · cases hst
    exact lv_ifnull X.1 X.2.1 (av_dec_ok hc) (av_stay g rfl hR hS hl)
  · cases hst
theorem av_o19 (X : av_Cx Ts cl D ao base M p s m args meth c) {ln a b : Nat} {v : Int32} {q : List Nat} : av_ok p l e R s m args below meth c Q Ts cl fT fN aT ao mt D base M (19, ln, a, b, v, q) := by
  intro pc L K S cf ls H locs cells slots hc hst hR hS hl _ _ g
  simp only [av_step] at hst
  simp only [av_chk] at hc
  rw [Bool.and_eq_true, decide_eq_true_eq] at hc
  obtain ⟨rfl, hc⟩ := hc
  split at hst
  · cases hst
    exact lv_ifnonnullN X.1 X.2.1 (av_dec_ok hc) (av_stay g rfl hR hS hl)
  · cases hst
    exact lv_ifnonnull X.1 X.2.1 (av_dec_ok hc) (av_off_ok _ _) (av_stay g rfl hR hS hl)
  · cases hst
theorem av_o20 (X : av_Cx Ts cl D ao base M p s m args meth c) {ln a b : Nat} {v : Int32} {q : List Nat} : av_ok p l e R s m args below meth c Q Ts cl fT fN aT ao mt D base M (20, ln, a, b, v, q) := by
  intro pc L K S cf ls H locs cells slots hc hst hR hS hl _ _ g
  simp only [av_step] at hst
  cases hst
  simp only [av_chk] at hc
  rw [Bool.and_eq_true, decide_eq_true_eq] at hc
  obtain ⟨rfl, hc⟩ := hc
  exact lv_goto X.1 X.2.1 (av_dec_ok hc) (av_off_ok _ _) (av_stay g rfl hR hS hl)
theorem av_o21 (X : av_Cx Ts cl D ao base M p s m args meth c) {ln a b : Nat} {v : Int32} {q : List Nat} : av_ok p l e R s m args below meth c Q Ts cl fT fN aT ao mt D base M (21, ln, a, b, v, q) := by
  intro pc L K S cf ls H locs cells slots hc hst hR hS hl _ _ g
  simp only [av_step] at hst
  simp only [av_chk] at hc
  have hd := av_dec_ok hc
  split at hst
  · rename_i x K'
    split at hst
    · rename_i hx
      cases hst
      exact lv_tableOut X.1 X.2.1 hd (Or.inl hx) (av_off_ok _ _) (av_stay g rfl hR hS hl)
    · rename_i hx
      cases hst
      by_cases hh : v.toInt + (q.length : Int) - 1 < x.toInt
      · have e : q.getD (x.toInt - v.toInt).toNat b = b := by
          rw [List.getD_eq_getElem?_getD, List.getElem?_eq_none (by omega)]
          rfl
        have g' := av_stay g rfl hR hS hl
        dsimp only at g'
        rw [e] at g'
        exact lv_tableOut X.1 X.2.1 hd (Or.inr hh) (av_off_ok _ _) g'
      · have hlt : (x.toInt - v.toInt).toNat < q.length := by omega
        have e : q[(x.toInt - v.toInt).toNat]? = some (q.getD (x.toInt - v.toInt).toNat b) := by
          rw [List.getD_eq_getElem?_getD, List.getElem?_eq_getElem hlt]
          rfl
        refine lv_tableIn X.1 X.2.1 hd hx hh (off := av_off pc (q.getD (x.toInt - v.toInt).toNat b)) ?_ (av_off_ok _ _) (av_stay g rfl hR hS hl)
        rw [List.getElem?_toArray, List.getElem?_map, e]
        rfl
  · cases hst
theorem av_o22 (X : av_Cx Ts cl D ao base M p s m args meth c) {ln a b : Nat} {v : Int32} {q : List Nat} : av_ok p l e R s m args below meth c Q Ts cl fT fN aT ao mt D base M (22, ln, a, b, v, q) := by
  intro pc L K S cf ls H locs cells slots hc hst hR hS hl _ _ g
  simp only [av_step] at hst
  split at hst
  · cases hst
    simp only [av_chk] at hc
    rw [Bool.and_eq_true, decide_eq_true_eq] at hc
    obtain ⟨rfl, hc⟩ := hc
    exact lv_i2b X.1 X.2.1 (av_dec_ok hc) rfl (av_stay g rfl hR hS hl)
  · cases hst
theorem av_o23 (X : av_Cx Ts cl D ao base M p s m args meth c) {ln a b : Nat} {v : Int32} {q : List Nat} : av_ok p l e R s m args below meth c Q Ts cl fT fN aT ao mt D base M (23, ln, a, b, v, q) := by
  intro pc L K S cf ls H locs cells slots hc hst hR hS hl _ _ g
  simp only [av_step] at hst
  split at hst
  · cases hst
    simp only [av_chk] at hc
    rw [Bool.and_eq_true, decide_eq_true_eq] at hc
    obtain ⟨rfl, hc⟩ := hc
    exact lv_i2l X.1 X.2.1 (av_dec_ok hc) rfl (av_stay g rfl hR hS hl)
  · cases hst
theorem av_o24 (X : av_Cx Ts cl D ao base M p s m args meth c) {ln a b : Nat} {v : Int32} {q : List Nat} : av_ok p l e R s m args below meth c Q Ts cl fT fN aT ao mt D base M (24, ln, a, b, v, q) := by
  intro pc L K S cf ls H locs cells slots hc hst hR hS hl _ _ g
  simp only [av_step] at hst
  split at hst
  · cases hst
    simp only [av_chk] at hc
    rw [Bool.and_eq_true, decide_eq_true_eq] at hc
    obtain ⟨rfl, hc⟩ := hc
    exact W.lcmp X.1 X.2.1 (av_dec_ok hc) (av_stay g rfl hR hS hl)
  · cases hst
theorem av_o30 (T : av_Tk Ts cl fT fN) (X : av_Cx Ts cl D ao base M p s m args meth c) {ln a b : Nat} {v : Int32} {q : List Nat} : av_ok p l e R s m args below meth c Q Ts cl fT fN aT ao mt D base M (30, ln, a, b, v, q) := by
  intro pc L K S cf ls H locs cells slots hc hst hR hS hl _ _ g
  simp only [av_step] at hst
  split at hst
  · rename_i z K'
    split at hst
    · rename_i hz
      cases hst
      simp only [av_chk] at hc
      split at hc
      · rename_i r hr
        simp only [Bool.and_eq_true, decide_eq_true_eq] at hc
        obtain ⟨⟨⟨rfl, hc⟩, hk⟩, hw⟩ := hc
        obtain ⟨-, r', hr', cell, q1, q2, q3, q4⟩ := hR.2.2.1 z a hz
        have e1 : r' = r := Option.some.inj (hr'.symm.trans hr)
        subst e1
        obtain ⟨hSl, hfc, kC, hkC, hkind⟩ := X.2.2.2.2.2.1.1 a _ hr
        obtain ⟨cf, kf, fi, f, hi, hsl⟩ := hSl b hk
        refine W.getf X.1 X.2.1 X.2.2.2.1 (X.2.2.2.2.1 _ (av_mem_ok hw)) hi (u_facts hfc hkC (u_lays X.2.2.2.2.1 (T a _ hr).1 hk) hi).1 q1 (by rw [q3]; exact fun h => by cases h) (v := S.2.1 z b) ?_ rfl rfl (av_dec_ok hc) (av_stay g rfl hR hS hl)
        rw [hsl]
        exact q4 b hk
      · cases hc
    · cases hst
  · cases hst
theorem av_apart (T : av_Tk Ts cl fT fN) (X : av_Cx Ts cl D ao base M p s m args meth c) {ci : Nat} {r : vw_C} (hr : cl[ci]? = some r) : ∀ x y, x < r.2.2 → y < r.2.2 → x ≠ y → (D.2 ci) x ≠ (D.2 ci) y := by
  obtain ⟨C, Tb, N⟩ := r
  exact va_apart (own := M.1.cls) (tys := []) X.2.2.2.2.1 (T ci _ hr).1 (fT ci) (T ci _ hr).2.1 (T ci _ hr).2.2.1 (show va_K D cl [] s from ⟨X.2.2.2.2.2.1.1, fun k q h => by simp at h⟩) hr
theorem av_o31 (T : av_Tk Ts cl fT fN) (X : av_Cx Ts cl D ao base M p s m args meth c) {ln a b : Nat} {v : Int32} {q : List Nat} : av_ok p l e R s m args below meth c Q Ts cl fT fN aT ao mt D base M (31, ln, a, b, v, q) := by
  intro pc L K S cf ls H locs cells slots hc hst hR hS hl _ _ g
  simp only [av_step] at hst
  split at hst
  · rename_i w z K'
    split at hst
    · rename_i hz
      obtain ⟨hz, hw⟩ := hz
      cases hst
      simp only [av_chk] at hc
      split at hc
      · rename_i r hr
        simp only [Bool.and_eq_true, decide_eq_true_eq] at hc
        obtain ⟨⟨⟨⟨rfl, hc⟩, hk⟩, hwd⟩, hfin⟩ := hc
        have hap := av_apart T X hr
        obtain ⟨hzb, r', hr', cell, q1, q2, q3, q4⟩ := hR.2.2.1 z a hz
        have e1 : r' = r := Option.some.inj (hr'.symm.trans hr)
        subst e1
        obtain ⟨hSl, hfc, kC, hkC, hkind⟩ := X.2.2.2.2.2.1.1 a _ hr
        obtain ⟨cf, kf, fi, f, hi, hsl⟩ := hSl b hk
        have hts := X.2.2.2.2.1
        have hin := (T a _ hr).1
        have hst := (u_facts hfc hkC (u_lays hts hin hk) hi).1
        have hd := (T a _ hr).2.1 b hk
        obtain ⟨f1, f2⟩ := av_fits_ok hw
        have go : ∀ H' : Heap, H'[z]? = some (cell.setSlot f.slot w) → H'.size = H.size → (∀ q, q ≠ z → H'[q]? = H[q]?) → W p l e R s m args below meth c H' (locs ++ [⟨z, f.slot⟩]) cells slots Q (F0 m (pc + 3) ls K') := by
          intro H' e1 e2 e3
          rw [hsl] at e1
          exact g H' _ ls cells slots (hR.seto hz ⟨r', hr', _, e1, q2, q3, t_set q4 hap hk w⟩ e2 e3) (hS.put e2 e3 hzb) hl rfl rfl
        by_cases hff : (r'.2.1 b).2.2.2 = false
        · have hlay := hts _ (hin _ (u_in_lay hk))
          unfold u_lay at hlay
          rw [if_neg (by rw [hff]; decide)] at hlay
          have h6 := u_store hfc hkC hkind hlay hi hd f1 f2
          exact W.putK X.1 X.2.1 (f := f) ⟨X.2.2.2.1, hts _ (av_mem_ok hwd), ⟨_, _, _, hi⟩, hst⟩ (by rw [q2]; exact h6) q1 q3 (by rw [hsl]; exact k2_hasslot (q4 b hk)) rfl rfl (av_dec_ok hc) go
        · have hff' : (r'.2.1 b).2.2.2 = true := by simpa using hff
          have hfin' : M.1.name = "<init>" ∧ (r'.2.1 b).1 = M.1.cls := by
            simpa [hff'] using hfin
          have hlay := hts _ (hin _ (u_in_lay hk))
          unfold u_lay at hlay
          rw [if_pos hff'] at hlay
          have hcf : m.cls = cf := by
            obtain ⟨_, _, c', _, _, _, -, -, hf', -, -, -, hown2, -⟩ := Cond.laysFinal_spec hlay
            have e1 : c' = cf := by have := hi.symm.trans hf'; simp at this; exact this.1.symm
            rw [hfin'.2] at hown2
            rw [← e1]; exact Option.some.inj (X.2.2.2.1.symm.trans hown2)
          have h6 := u_fits hfc hkC hkind (Or.inr hlay) hi hd f1 f2
          exact W.putFinK X.1 X.2.1 X.2.2.2.1 (hts _ (av_mem_ok hwd)) hi hst hcf (X.2.2.2.2.2.2.1 hfin'.1) (by rw [q2]; exact h6) q1 q3 (by rw [hsl]; exact k2_hasslot (q4 b hk)) rfl rfl (av_dec_ok hc) go
      · cases hc
    · cases hst
  · cases hst
theorem av_o32 (X : av_Cx Ts cl D ao base M p s m args meth c) {ln a b : Nat} {v : Int32} {q : List Nat} : av_ok p l e R s m args below meth c Q Ts cl fT fN aT ao mt D base M (32, ln, a, b, v, q) := by
  intro pc L K S cf ls H locs cells slots hc hst hR hS hl _ _ g
  simp only [av_step] at hst
  split at hst
  · rename_i z K'
    split at hst
    · rename_i t ht
      obtain ⟨j, n⟩ := t
      cases hst
      simp only [av_chk] at hc
      rw [Bool.and_eq_true, decide_eq_true_eq] at hc
      obtain ⟨rfl, hc⟩ := hc
      obtain ⟨-, cA, h1, h2, h3⟩ := hR.2.2.2 z j n ht
      exact W.alen (n := Int32.ofNat n) X.1 X.2.1 h1 (h2 n (S.2.1 z)) (by rw [arrV_size] <;> rfl) rfl rfl (av_dec_ok hc) (av_stay g rfl hR hS hl)
    · cases hst
  · cases hst
theorem av_o33 (X : av_Cx Ts cl D ao base M p s m args meth c) {ln a b : Nat} {v : Int32} {q : List Nat} : av_ok p l e R s m args below meth c Q Ts cl fT fN aT ao mt D base M (33, ln, a, b, v, q) := by
  intro pc L K S cf ls H locs cells slots hc hst hR hS hl _ _ g
  simp only [av_step] at hst
  split at hst
  · rename_i i z K'
    split at hst
    · rename_i t ht
      obtain ⟨j, n⟩ := t
      split at hst
      · rename_i hij
        obtain ⟨hj, hin⟩ := hij
        cases hst
        have hin := av_inb_ok hin
        have hlt : i.toNatClampNeg < n := Nat.not_le.mp fun q => hin (Or.inr q)
        obtain ⟨-, cA, h1, h2, h3⟩ := hR.2.2.2 z j n ht
        have g' := av_stay g rfl hR hS hl
        have hin' : ¬ (i < 0 ∨ (arrV cA n (S.2.1 z)).slots.size ≤ i.toNatClampNeg) := by rw [arrV_size]; exact hin
        have hv : (arrV cA n (S.2.1 z)).slots[i.toNatClampNeg]? = some (S.2.1 z i.toNatClampNeg) := arrV_read _ _ hlt
        have hkn : (arrV cA n (S.2.1 z)).vm ≠ .unknown := fun h => by cases h
        simp only [av_chk] at hc
        split at hc
        · rename_i ins hins
          simp only [Bool.and_eq_true, decide_eq_true_eq] at hc
          obtain ⟨⟨rfl, hc⟩, h50⟩ := hc
          have hd := av_dec_ok hc
          have hT : aT j = aT a := by
            rcases hj with h | h
            · have h : j = a := h
              rw [h]
            · have h : j = a + 50 := h
              rw [h]
              exact h50
          rw [hT] at h2
          have h2' := h2 n (S.2.1 z)
          cases hty : aT a with
          | int =>
            rw [hty] at hins h2'
            cases hins
            exact W.iald X.1 X.2.1 h1 h2' hkn hin' hv rfl rfl hd g'
          | char =>
            rw [hty] at hins h2'
            cases hins
            exact W.cald X.1 X.2.1 h1 h2' hkn hin' hv rfl rfl hd g'
          | boolean =>
            rw [hty] at hins h2'
            cases hins
            exact W.zald X.1 X.2.1 h1 h2' hkn hin' hv rfl rfl hd g'
          | object C =>
            rw [hty] at hins h2'
            cases hins
            exact W.aald X.1 X.2.1 h1 h2' rfl hkn hin' hv rfl rfl hd g'
          | byte =>
            rw [hty] at hins h2'
            cases hins
            exact W.bald X.1 X.2.1 h1 h2' hkn hin' hv rfl rfl hd g'
          | double => rw [hty] at hins; cases hins
          | float => rw [hty] at hins; cases hins
          | long =>
            rw [hty] at hins h2'
            cases hins
            exact W.lald X.1 X.2.1 h1 h2' hkn hin' hv rfl rfl hd g'
          | short => rw [hty] at hins; cases hins
          | array _ => rw [hty] at hins; cases hins
        · cases hc
      · cases hst
    · cases hst
  · cases hst
theorem av_o34 (X : av_Cx Ts cl D ao base M p s m args meth c) {ln a b : Nat} {v : Int32} {q : List Nat} : av_ok p l e R s m args below meth c Q Ts cl fT fN aT ao mt D base M (34, ln, a, b, v, q) := by
  intro pc L K S cf ls H locs cells slots hc hst hR hS hl _ _ g
  simp only [av_step] at hst
  split at hst
  · rename_i x i z K'
    split at hst
    · rename_i t ht
      obtain ⟨j, n⟩ := t
      split at hst
      · rename_i hij
        obtain ⟨hj, hin⟩ := hij
        have hj : j = a := hj
        subst hj
        cases hst
        have hin := av_inb_ok hin
        obtain ⟨hzb, cA, h1, h2, h3⟩ := hR.2.2.2 z j n ht
        have h2' := h2 n (S.2.1 z)
        have hin' : ¬ (i < 0 ∨ (arrV cA n (S.2.1 z)).slots.size ≤ i.toNatClampNeg) := by rw [arrV_size]; exact hin
        have hkn : (arrV cA n (S.2.1 z)).vm ≠ .unknown := fun h => by cases h
        simp only [av_chk] at hc
        split at hc
        · rename_i ins hins
          simp only [Bool.and_eq_true, decide_eq_true_eq] at hc
          obtain ⟨⟨rfl, hc⟩, h50⟩ := hc
          have hd := av_dec_ok hc
          have go : ∀ H' : Heap, H'[z]? = some ((arrV cA n (S.2.1 z)).setSlot i.toNatClampNeg (narrow (aT j) (.int x))) → H'.size = H.size → (∀ q, q ≠ z → H'[q]? = H[q]?) → W p l e R s m args below meth c H' (locs ++ [⟨z, i.toNatClampNeg⟩]) cells slots Q (F0 m (pc + 1) ls K') := by
            intro H' e1 e2 e3
            rw [arrV_store] at e1
            exact g H' _ ls cells slots (hR.seta ht ⟨cA, e1, h2, h3⟩ e2 e3) (hS.put e2 e3 (hzb h50)) hl rfl rfl
          cases hty : aT j with
          | int =>
            rw [hty] at hins h2' go
            cases hins
            exact W.iast X.1 X.2.1 h1 h2' hkn hin' rfl rfl hd go
          | char =>
            rw [hty] at hins h2' go
            cases hins
            exact W.cast X.1 X.2.1 h1 h2' hkn hin' rfl rfl hd go
          | boolean =>
            rw [hty] at hins h2' go
            cases hins
            exact W.zast X.1 X.2.1 h1 h2' hkn hin' rfl rfl hd go
          | object C => rw [hty] at hins; cases hins
          | byte =>
            rw [hty] at hins h2' go
            cases hins
            exact W.bast X.1 X.2.1 h1 h2' hkn hin' rfl rfl hd go
          | double => rw [hty] at hins; cases hins
          | float => rw [hty] at hins; cases hins
          | long => rw [hty] at hins; cases hins
          | short => rw [hty] at hins; cases hins
          | array _ => rw [hty] at hins; cases hins
        · cases hc
      · cases hst
    · cases hst
  · cases hst
theorem av_o35 (X : av_Cx Ts cl D ao base M p s m args meth c) {ln a b : Nat} {v : Int32} {q : List Nat} : av_ok p l e R s m args below meth c Q Ts cl fT fN aT ao mt D base M (35, ln, a, b, v, q) := by
  intro pc L K S cf ls H locs cells slots hc hst hR hS hl _ _ g
  simp only [av_chk] at hc
  split at hc
  · rename_i r hr
    simp only [Bool.and_eq_true, decide_eq_true_eq] at hc
    obtain ⟨⟨⟨rfl, hc⟩, h50⟩, hty⟩ := hc
    have hd := av_dec_ok hc
    simp only [av_step] at hst
    split at hst
    · rename_i i z K'
      split at hst
      · rename_i t ht
        obtain ⟨j, n⟩ := t
        split at hst
        · rename_i hij
          obtain ⟨hj, hin⟩ := hij
          have hj : j = a := hj
          subst hj
          cases hst
          have hin := av_inb_ok hin
          obtain ⟨hzb, cA, h1, h2, h3⟩ := hR.2.2.2 z j n ht
          have h2' := h2 n (S.2.1 z)
          rw [hty] at h2'
          have hin' : ¬ (i < 0 ∨ (arrV cA n (S.2.1 z)).slots.size ≤ i.toNatClampNeg) := by rw [arrV_size]; exact hin
          have hkn : (arrV cA n (S.2.1 z)).vm ≠ .unknown := fun h => by cases h
          refine va_WaastN X.1 X.2.1 h1 h2' hkn hin' rfl rfl hd (fun H' e1 e2 e3 => ?_)
          rw [arrV_store] at e1
          exact g H' _ ls cells slots (hR.seta ht ⟨cA, e1, h2, h3⟩ e2 e3) (hS.put e2 e3 (hzb h50)) hl rfl rfl
        · cases hst
      · cases hst
    · rename_i w i z K'
      split at hst
      · rename_i t ht
        obtain ⟨j, n⟩ := t
        split at hst
        · rename_i hij
          obtain ⟨hj, hin, hw⟩ := hij
          have hj : j = a := hj
          subst hj
          cases hst
          have hin := av_inb_ok hin
          have hlt : i.toNatClampNeg < n := Nat.not_le.mp fun q => hin (Or.inr q)
          have h0 : ¬ i < 0 := fun q => hin (Or.inl q)
          obtain ⟨hzb, cA, h1, h2, h3⟩ := hR.2.2.2 z j n ht
          obtain ⟨-, r', hr', cellV, g1, g2, g3, -⟩ := hR.2.2.1 w b hw
          have hcls := (X.2.2.2.2.2.1.1 b r hr).2
          have h3' := h3
          rw [hty] at h3'
          obtain ⟨kA, comp, k1, k2, k3, -⟩ := h3'
          have hcomp : comp = D.1 b := Option.some.inj (k3.symm.trans hcls.1)
          subst hcomp
          obtain ⟨kC, hkC, -⟩ := hcls.2
          refine W.aast X.1 X.2.1 h1 (fun q h => by cases h) (fun h => by cases h) k1 k2 rfl hkC ⟨h0, by rw [arrV_size]; exact hlt⟩ g1 (fun q h => by rw [g3] at h; cases h) (by rw [g2]; exact hkC) (by rw [g2]; exact va_assign hcls) rfl rfl hd (fun H' e1 e2 e3 => ?_)
          rw [arrV_store] at e1
          exact g H' _ ls cells slots (hR.seta ht ⟨cA, e1, h2, h3⟩ e2 e3) (hS.put e2 e3 (hzb h50)) hl rfl rfl
        · cases hst
      · cases hst
    · cases hst
  · cases hc
theorem av_S.grow {A : Nat → Prop} {H0 H H1 : Heap} {locs : List Loc} (h : va_S A H0 H locs) (z : H1.size = H.size + 1) (oq : ∀ q, q < H.size → H1[q]? = H[q]?) : va_S A H0 H1 locs :=
  ⟨Nat.le_trans h.1 (by omega), fun x h1 h2 => (oq x (Nat.lt_of_lt_of_le h1 h.1)).trans (h.2.1 x h1 h2), h.2.2⟩
theorem av_o36 (T : av_Tk Ts cl fT fN) (X : av_Cx Ts cl D ao base M p s m args meth c) {ln a b : Nat} {v : Int32} {q : List Nat} : av_ok p l e R s m args below meth c Q Ts cl fT fN aT ao mt D base M (36, ln, a, b, v, q) := by
  intro pc L K S cf ls H locs cells slots hc hst hR hS hl hrc hrs g
  simp only [av_step] at hst
  cases hst
  simp only [av_chk] at hc
  split at hc
  · rename_i r hr
    simp only [Bool.and_eq_true, decide_eq_true_eq] at hc
    obtain ⟨⟨⟨⟨rfl, hc⟩, hw1⟩, hw2⟩, hw3⟩ := hc
    have hts := X.2.2.2.2.1
    have hKn := X.2.2.2.2.2.1.1 a r hr
    have hN : fN a = r.2.2 := (T a r hr).2.2.2
    have hrc' : cells + (S.2.2.1 + 1) ≤ R.cells + S.2.2.1 := hrc
    have hrs' : slots + (S.2.2.2 + fN a) ≤ R.slots + S.2.2.2 := hrs
    have hsz : S.2.2.1 = H.size := hR.1
    refine W.newcK X.1 X.2.1 X.2.2.2.1 (hts _ (av_mem_ok hw1)) (hts _ (av_mem_ok hw2)) (hts _ (av_mem_ok hw3)) rfl (av_dec_ok hc) (by omega) (by omega) hKn.2.1 hsz.symm fun H1 kC hkC e1 z1 o1 => ?_
    rw [hsz] at e1 z1 o1
    refine g H1 _ ls _ _ (hR.new (t := .inl a) ?_ z1 o1) (av_S.grow hS z1 o1) hl (by show cells + 1 + S.2.2.1 = cells + (S.2.2.1 + 1); omega) (by show slots + r.2.2 + S.2.2.2 = slots + (S.2.2.2 + fN a); omega)
    exact ⟨r, hr, u_born (fT a) hts (T a r hr).1 hKn hkC e1 (T a r hr).2.1⟩
  · cases hc
theorem av_o37 (X : av_Cx Ts cl D ao base M p s m args meth c) {ln a b : Nat} {v : Int32} {q : List Nat} : av_ok p l e R s m args below meth c Q Ts cl fT fN aT ao mt D base M (37, ln, a, b, v, q) := by
  intro pc L K S cf ls H locs cells slots hc hst hR hS hl hrc hrs g
  simp only [av_step] at hst
  split at hst
  · rename_i n K'
    split at hst
    · rename_i hn
      cases hst
      simp only [av_chk] at hc
      split at hc
      · rename_i t ht
        simp only [Bool.and_eq_true, decide_eq_true_eq] at hc
        obtain ⟨⟨rfl, hc⟩, hw⟩ := hc
        have hts := X.2.2.2.2.1
        have hsz : S.2.2.1 = H.size := hR.1
        have hrc' : cells + (S.2.2.1 + 1) ≤ R.cells + S.2.2.1 := hrc
        have hrs' : slots + (S.2.2.2 + n.toNatClampNeg) ≤ R.slots + S.2.2.2 := hrs
        have hn0 : ¬ n < 0 := by
          have := hn.1
          rw [Int32.le_iff_toInt_le] at this
          rw [Int32.lt_iff_toInt_lt]
          omega
        have hty : newarray.typeOf t = aT a := by
          cases hq : aT a <;> rw [hq] at ht <;> cases ht <;> rfl
        have hcb : componentBytes (aT a) ≤ 8 := by
          rw [← hty]
          cases hq : aT a <;> rw [hq] at ht <;> cases ht <;> decide
        refine va_newaK X.1 X.2.1 (by rw [hty]; exact hts _ (av_mem_ok hw)) rfl (av_dec_ok hc) rfl hn0 rfl (by rw [hty]; exact Nat.le_trans (Nat.mul_le_mul hn.2 hcb) (by decide)) (by omega) (by omega) hsz.symm fun H1 cA e1 z1 o1 hAr hNm => ?_
        rw [hsz] at e1 z1 o1
        rw [hty] at e1 hAr hNm
        refine g H1 _ ls _ _ (hR.new (t := .inr (a, n.toNatClampNeg)) ?_ z1 o1) (av_S.grow hS z1 o1) hl (by show cells + 1 + S.2.2.1 = cells + (S.2.2.1 + 1); omega) (by show slots + n.toNatClampNeg + S.2.2.2 = slots + (S.2.2.2 + n.toNatClampNeg); omega)
        refine ⟨cA, e1, hAr, ?_⟩
        cases hq : aT a <;> rw [hq] at ht hNm <;> cases ht <;> exact hNm
      · cases hc
    · cases hst
  · cases hst
theorem av_o38 (X : av_Cx Ts cl D ao base M p s m args meth c) {ln a b : Nat} {v : Int32} {q : List Nat} : av_ok p l e R s m args below meth c Q Ts cl fT fN aT ao mt D base M (38, ln, a, b, v, q) := by
  intro pc L K S cf ls H locs cells slots hc hst hR hS hl hrc hrs g
  simp only [av_step] at hst
  split at hst
  · rename_i n K'
    split at hst
    · rename_i hn
      cases hst
      simp only [av_chk] at hc
      split at hc
      · rename_i r hr
        simp only [Bool.and_eq_true, decide_eq_true_eq] at hc
        obtain ⟨⟨⟨⟨rfl, hc⟩, hty⟩, hw⟩, hao⟩ := hc
        have hts := X.2.2.2.2.1
        have hsz : S.2.2.1 = H.size := hR.1
        have hrc' : cells + (S.2.2.1 + 1) ≤ R.cells + S.2.2.1 := hrc
        have hrs' : slots + (S.2.2.2 + n.toNatClampNeg) ≤ R.slots + S.2.2.2 := hrs
        have hn0 : ¬ n < 0 := by
          have := hn.1
          rw [Int32.le_iff_toInt_le] at this
          rw [Int32.lt_iff_toInt_lt]
          omega
        refine W.anew X.1 X.2.1 X.2.2.2.1 (hts _ (av_mem_ok hw)) (va_AO.use (X.2.2.2.2.2.1.2 r.1 hao)) rfl (av_dec_ok hc) rfl hn0 (by have := hn.2; omega) (by omega) (by omega) fun cA kA comp f1 f2 f3 f4 => ?_
        generalize hH1 : H.push ({ cls := cA, slots := Array.replicate n.toNatClampNeg .null, vm := .none } : Cell) = H1
        have z1 : H1.size = H.size + 1 := by rw [← hH1, Array.size_push]
        have e1 : H1[H.size]? = some (arrV cA n.toNatClampNeg (fun _ => .null)) := by rw [← hH1, Array.getElem?_push_size, ← arrV_new]
        have o1 : ∀ q : Nat, q < H.size → H1[q]? = H[q]? := fun q hq => by rw [← hH1, Array.getElem?_push, if_neg (Nat.ne_of_lt hq)]
        have hAr : ArrOfT s cA (.object r.1) := fun N z => ⟨(fun k h => by cases h), kA, f2, comp, f3⟩
        rw [← hsz]
        refine g H1 _ ls _ _ (hR.new (t := .inr (a, n.toNatClampNeg)) ?_ z1 o1) (av_S.grow hS z1 o1) hl (by show cells + 1 + S.2.2.1 = cells + (S.2.2.1 + 1); omega) (by show slots + n.toNatClampNeg + S.2.2.2 = slots + (S.2.2.2 + n.toNatClampNeg); omega)
        show av_ar s H1 H.size n.toNatClampNeg (aT a) _
        rw [hty]
        exact ⟨cA, e1, hAr, kA, comp, f2, f3, f4, f1⟩
      · cases hc
    · cases hst
  · cases hst
end AVops
end
section
/-! A RUN OF THE SMALL MACHINE IS A RUN OF THE MACHINE -/
section AVsim
variable {fT : Nat → Nat → FieldType} {fN : Nat → Nat} {aT : Nat → FieldType} {mt : Nat → Option av_Mt} {ext : List Value → av_St → Option (Option Value × av_St)}
theorem av_step_grow {I : av_I} {pc : Nat} {L : av_Ls} {K : List Value} {S : av_St} {cf : av_Cf} (h : av_step fT fN aT I pc L K S = some cf) : S.2.2.1 ≤ cf.2.2.2.2.2.1 ∧ S.2.2.2 ≤ cf.2.2.2.2.2.2 := by
  unfold av_step at h
  split at h <;> (repeat' split at h) <;> first | (cases h; done) | (cases h; exact ⟨Nat.le_refl _, Nat.le_refl _⟩) | (cases h; exact ⟨Nat.le_succ _, Nat.le_add_right _ _⟩)
theorem av_run_grow : ∀ (n d y pc : Nat) (L : av_Ls) (K : List Value) (S : av_St) (r : Option Value) (S' : av_St), av_run fT fN aT ext mt n d y pc L K S = some (r, S') → S.2.2.1 ≤ S'.2.2.1 ∧ S.2.2.2 ≤ S'.2.2.2
  | 0, d, y, pc, L, K, S, r, S', h => by cases h
  | n + 1, d, y, pc, L, K, S, r, S', h => by
    unfold av_run at h
    split at h
    · cases h
    · split at h
      · cases h
      · split at h
        · split at h
          · split at h
            · split at h
              · cases h
              · rename_i v S1 h1
                have a1 := av_run_grow n _ _ _ _ _ _ _ _ h1
                have a2 := av_run_grow n _ _ _ _ _ _ _ _ h
                exact ⟨Nat.le_trans a1.1 a2.1, Nat.le_trans a1.2 a2.2⟩
            · cases h
          · cases h
        · split at h
          · split at h
            · exact av_run_grow n _ _ _ _ _ _ _ _ h
            · cases h
          · cases h
        · split at h
          · split at h
            · split at h
              · cases h
              · split at h
                · rename_i hz
                  have a2 := av_run_grow n _ _ _ _ _ _ _ _ h
                  exact ⟨Nat.le_trans hz.1 a2.1, Nat.le_trans hz.2 a2.2⟩
                · cases h
            · cases h
          · cases h
        · split at h
          · split at h
            · cases h; exact ⟨Nat.le_refl _, Nat.le_refl _⟩
            · cases h
          · cases h
        · split at h
          · split at h
            · cases h; exact ⟨Nat.le_refl _, Nat.le_refl _⟩
            · cases h
          · cases h
        · split at h
          · cases h
          · rename_i pc' L' K' S1 h1
            have a1 := av_step_grow h1
            have a2 := av_run_grow n _ _ _ _ _ _ _ _ h
            exact ⟨Nat.le_trans a1.1 a2.1, Nat.le_trans a1.2 a2.2⟩
end AVsim
theorem av_args_as : ∀ (as : List Value) (k n : Nat), (∀ v ∈ as, v.category = 1) → av_as k (as.map some ++ List.replicate n none) = lv_args k as
  | [], k, 0, _ => rfl
  | [], k, n + 1, h => by
    show av_as k (none :: List.replicate n none) = lv_args k []
    rw [av_as]
    exact av_args_as [] (k + 1) n h
  | v :: as, k, n, h => by
    have h1 : v.category = 1 := h v List.mem_cons_self
    have h2 := av_args_as as (k + 1) n (fun w hw => h w (List.mem_cons_of_mem _ hw))
    show av_as k (some v :: (as.map some ++ List.replicate n none)) = lv_args k (v :: as)
    rw [av_as, h2]
    simp [lv_args, h1]
theorem av_sl_len : ∀ (as : List Value), (∀ v ∈ as, v.category = 1) → (lg_sl as).length = as.length
  | [], _ => rfl
  | v :: as, h => by
    have h1 : v.category = 1 := h v List.mem_cons_self
    have h2 := av_sl_len as (fun w hw => h w (List.mem_cons_of_mem _ hw))
    unfold lg_sl at h2 ⊢
    rw [List.flatMap_cons, List.length_append, h2]
    simp [h1, Nat.add_comm]
theorem av_ent_lv {as : List Value} {n : Nat} (h : ∀ v ∈ as, v.category = 1) (hn : as.length ≤ n) : av_lv ((lg_sl as ++ List.replicate (n - (lg_sl as).length) Slot.unset).toArray) n (av_ent as n) := by
  refine ⟨?_, fun i v hv => ?_, ?_⟩
  · unfold av_ent
    rw [List.length_append, List.length_map, List.length_replicate]
    omega
  · unfold av_ent at hv
    rcases List.mem_append.mp (List.mem_of_getElem? hv) with q | q
    · obtain ⟨w, hw, e⟩ := List.mem_map.mp q
      have e : w = v := Option.some.inj e
      rw [← e]
      exact h w hw
    · have := List.eq_of_mem_replicate q
      cases this
  · unfold av_ent
    rw [av_args_as as 0 _ h]
    exact lv_entry as (by rw [av_sl_len as h]; exact hn)
def av_end (M : av_Mt) (pc : Nat) (r : Option Value) : Prop := match r with
  | none => decode M.2.1 pc = .ok (.return_, 1) ∧ M.2.2.2.1 = none
  | some v => ∃ ty, M.2.2.2.1 = some ty ∧ av_fits ty v = true ∧ ((av_isR v = true ∧ ((∃ n, ty = .object n) ∨ ∃ t, ty = .array t) ∧ decode M.2.1 pc = .ok (.areturn, 1)) ∨ ∃ x, v = .int x ∧ decode M.2.1 pc = .ok (.ireturn, 1))
/-- a method's contract, out of a run of the small machine -/
def av_Met (Ts : List Jvm.Cond) (cl : List vw_C) (aT : Nat → FieldType) (D : va_G) (ao : List String) (base : Nat) (l : Launch) (d : Nat) (M : av_Mt) (as : List Value) (S S' : av_St) (r : Option Value) : Prop :=
  Met l M.1 (.code M.1 M.2.1 M.2.2.1 M.2.2.2.1 :: Ts) ({ frames := d, cells := S'.2.2.1 - S.2.2.1, slots := S'.2.2.2 - S.2.2.2, locals := 33 * d }) (va_Pc as (fun U => base ≤ U.heap.size ∧ av_K cl D ao U ∧ av_R cl aT D base U U.heap S)) (fun _ st oc t => oc = .returned r ∧ av_R cl aT D base t t.heap S' ∧ va_F (fun q => base ≤ q) st t) (S'.2.2.1 - S.2.2.1) (S'.2.2.2 - S.2.2.2) (fun q => base ≤ q)
theorem av_blind {cl : List vw_C} {aT : Nat → FieldType} {D : va_G} {ao : List String} {base : Nat} {as : List Value} {S : av_St} : FrameBlind (va_Pc as (fun U => base ≤ U.heap.size ∧ av_K cl D ao U ∧ av_R cl aT D base U U.heap S)) := by
  intro a U g mk h
  obtain ⟨h1, h2, h3, h4⟩ := h
  exact ⟨h1, h2, av_K.moved (u := U) (U := U.calling g mk a) (Vm.Alike.refl U.vm) h3, av_R.moved (u := U) (U := U.calling g mk a) (Vm.Alike.refl U.vm) h4⟩
section AVsim2
variable {p : Program} {l : Launch} {e : Env} {R : Room} {s : State} {m : MethodId} {args : Array Value} {below : List Frame} {meth : Method} {c : Code} {H : Heap} {locs : List Loc} {cells slots : Nat} {Q : State → Prop}
variable {Ts : List Jvm.Cond} {cl : List vw_C} {D : va_G} {ao : List String} {base : Nat} {M : av_Mt} {fT : Nat → Nat → FieldType} {fN : Nat → Nat} {aT : Nat → FieldType} {mt : Nat → Option av_Mt} {ext : List Value → av_St → Option (Option Value × av_St)}
/-- behind a call -/
theorem av_behind {S1 : av_St} {r : Option Value} {mc ms pc : Nat} {ls : Array Slot} {K rest : List Value} (hr : va_Run p l e R s m args below meth c H locs cells slots mc ms (F0 m pc ls K) rest (fun st oc t => oc = .returned r ∧ av_R cl aT D base t t.heap S1 ∧ va_F (fun q => base ≤ q) st t) (fun q => base ≤ q)) (hS : va_S (fun q => base ≤ q) s.heap H locs)
    (kk : ∀ (H1 : Heap) (locs1 : List Loc), av_R cl aT D base s H1 S1 → va_S (fun q => base ≤ q) s.heap H1 locs1 → W p l e R s m args below meth c H1 locs1 (cells + mc) (slots + ms) Q (F0 m (pc + 3) ls (r.toList ++ rest))) : W p l e R s m args below meth c H locs cells slots Q (F0 m pc ls K) := by
  intro T hT X
  obtain ⟨v, st₀, t, T', L, h0, X', hL, e1, e2, ⟨hv, hb, hz, hk⟩, st⟩ := hr T hT X
  cases hv
  rw [h0] at hz hk
  have hal : s.vm.Alike t.vm := by rw [← e2]; exact X'.warmed.alike
  have hb' : av_R cl aT D base s T'.heap S1 := by rw [e1]; exact hb.moved hal.symm
  obtain ⟨t2, a1, b1⟩ := kk T'.heap (locs ++ L) hb'
    ⟨Nat.le_trans hS.1 (by rw [e1]; exact hz), fun q h1 h2 => by rw [e1, hk q (Nat.lt_of_lt_of_le h1 hS.1) h2]; exact hS.2.1 q h1 h2, fun q hq => by
      rcases List.mem_append.mp hq with h | h
      · exact hS.2.2 q h
      · exact hL q h⟩ T' rfl X'
  exact ⟨t2, st t2 a1, b1⟩
/-- what the proof of a method's run gives: from any place of it -/
def av_Sim (Ts : List Jvm.Cond) (cl : List vw_C) (fT : Nat → Nat → FieldType) (fN : Nat → Nat) (aT : Nat → FieldType) (ext : List Value → av_St → Option (Option Value × av_St)) (mt : Nat → Option av_Mt) (D : va_G) (ao : List String) (base : Nat) (l : Launch) (n : Nat) : Prop :=
  ∀ (d y pc : Nat) (L : av_Ls) (K : List Value) (S : av_St) (r : Option Value) (S' : av_St) (M : av_Mt), mt y = some M → av_run fT fN aT ext mt n d y pc L K S = some (r, S') →
    ∀ (p : Program) (e : Env) (R : Room) (s : State) (m : MethodId) (args : Array Value) (below : List Frame) (meth : Method) (c : Code) (Q : State → Prop) (z0 w0 : Nat), av_Cx Ts cl D ao base M p s m args meth c → d ≤ R.frames → 33 * d ≤ R.locals → S'.2.2.1 ≤ R.cells + z0 → S'.2.2.2 ≤ R.slots + w0 →
    (∀ (pc' : Nat) (H' : Heap) (locs' : List Loc) (ls' : Array Slot) (cells' slots' : Nat), av_end M pc' r → av_R cl aT D base s H' S' → va_S (fun q => base ≤ q) s.heap H' locs' → cells' + z0 = S'.2.2.1 → slots' + w0 = S'.2.2.2 → W p l e R s m args below meth c H' locs' cells' slots' Q (F0 m pc' ls' r.toList)) →
    ∀ (H : Heap) (locs : List Loc) (cells slots : Nat) (ls : Array Slot), av_R cl aT D base s H S → va_S (fun q => base ≤ q) s.heap H locs → av_lv ls M.2.2.1 L → cells + z0 = S.2.2.1 → slots + w0 = S.2.2.2 → W p l e R s m args below meth c H locs cells slots Q (F0 m pc ls K)
theorem av_metOf {n : Nat} (hsim : av_Sim Ts cl fT fN aT ext mt D ao base l n) {d y : Nat} {as : List Value} {S S' : av_St} {r : Option Value} {N : av_Mt} (hN : mt y = some N) (hrun : av_run fT fN aT ext mt n d y 0 (av_ent as N.2.2.1) [] S = some (r, S')) (hpl : plainFor N.1 = true) (hcat : ∀ v ∈ as, v.category = 1) (hlen : as.length ≤ N.2.2.1) (hT : .code N.1 N.2.1 N.2.2.1 N.2.2.2.1 ∈ Ts) : av_Met Ts cl aT D ao base l d N as S S' r := by
  have hgr := av_run_grow _ _ _ _ _ _ _ _ _ hrun
  refine va_MetF (cc := N.2.1) (maxL := N.2.2.1) (ret := N.2.2.2.1) hpl rfl ?_
  intro p e s m args below meth c s₁ B hml hv
  obtain ⟨rfl, hbase, hK, hR⟩ := hv
  have hx := B.exec
  have hb := B.bytes
  have hr := B.returns
  have hts := atoms_spec (ws := Jvm.Cond.code N.1 N.2.1 N.2.2.1 N.2.2.2.1 :: Ts) B.pre
  have hown : s.vm.findClass N.1.cls = some m.cls := findClass_of_methodNamed B.named
  have hlocks := B.notSynchronized
  have hX : av_Cx Ts cl D ao base N p s m as.toArray meth c := ⟨hx, hb, hml, hown, fun w hw => hts w (List.mem_cons_of_mem _ hw), hK, fun h => (name_of_methodNamed B.named B.method).1.trans h, hbase⟩
  rw [lg_entry_eq]
  refine hsim d y 0 _ _ S r S' N hN hrun p e _ s m as.toArray below meth c _ S.2.2.1 S.2.2.2 hX (Nat.le_refl _) (Nat.le_refl _) (by show S'.2.2.1 ≤ (S'.2.2.1 - S.2.2.1) + S.2.2.1; omega) (by show S'.2.2.2 ≤ (S'.2.2.2 - S.2.2.2) + S.2.2.2; omega) ?_ s.heap [] 0 0 _ hR va_S.rf (av_ent_lv hcat hlen) (Nat.zero_add _) (Nat.zero_add _)
  intro pc' H' locs' ls' cells' slots' hend hR' hS' hc hs
  have ec : cells' = S'.2.2.1 - S.2.2.1 := by omega
  have es : slots' = S'.2.2.2 - S.2.2.2 := by omega
  subst ec
  subst es
  have post : ∀ t : State, t.heap = H' → s.WarmedH t.vm → (r = r ∧ av_R cl aT D base t t.heap S' ∧ va_F (fun q => base ≤ q) s t) := fun t ht hW => ⟨rfl, by rw [ht]; exact hR'.moved hW.alike, hS'.F ht⟩
  cases r with
  | none =>
    exact W.vret hx hb (hr.trans hend.2) (fun t ht hW => ⟨rfl, (post t ht hW).2⟩) hS'.2.2 hend.1
  | some v =>
    obtain ⟨ty, h1, h2, h3⟩ := hend
    rcases h3 with ⟨q1, q2, q3⟩ | ⟨x, rfl, q3⟩
    · exact W.aret hx hb (hr.trans h1) q2 (av_isR_or q1) (fun t ht hW => ⟨rfl, (post t ht hW).2⟩) hS'.2.2 q3
    · exact W.zret hx hb (hr.trans h1) (av_fits_ok h2).1 (fun t ht hW => ⟨rfl, (post t ht hW).2⟩) hS'.2.2 q3
/-- what is to be known of the call that is not walked here -/
def av_Ext (Ts : List Jvm.Cond) (cl : List vw_C) (fT : Nat → Nat → FieldType) (aT : Nat → FieldType) (ext : List Value → av_St → Option (Option Value × av_St)) (mt : Nat → Option av_Mt) (D : va_G) (ao : List String) (base : Nat) (l : Launch) : Prop :=
  ∀ (M : av_Mt) (pc ln a na d : Nat) (v0 : Int32) (q : List Nat) (K : List Value) (S S1 : av_St) (r : Option Value), av_chk Ts cl fT aT ao mt M pc (45, ln, a, na, v0, q) = true → 8 ≤ d → na ≤ K.length → K.length ≤ na + 4 → ext (K.take na).reverse S = some (r, S1) →
    ∀ (p : Program) (e : Env) (R : Room) (s : State) (m : MethodId) (args : Array Value) (below : List Frame) (meth : Method) (c : Code) (Q : State → Prop), av_Cx Ts cl D ao base M p s m args meth c → d + 1 ≤ R.frames → 33 * (d + 1) ≤ R.locals →
    ∀ (H : Heap) (locs : List Loc) (cells slots : Nat) (ls : Array Slot), av_R cl aT D base s H S → va_S (fun q => base ≤ q) s.heap H locs → ls.size = M.2.2.1 → cells + (S1.2.2.1 - S.2.2.1) ≤ R.cells → slots + (S1.2.2.2 - S.2.2.2) ≤ R.slots →
    (∀ (H1 : Heap) (locs1 : List Loc), av_R cl aT D base s H1 S1 → va_S (fun q => base ≤ q) s.heap H1 locs1 → W p l e R s m args below meth c H1 locs1 (cells + (S1.2.2.1 - S.2.2.1)) (slots + (S1.2.2.2 - S.2.2.2)) Q (F0 m (pc + 3) ls (r.toList ++ K.drop na))) → W p l e R s m args below meth c H locs cells slots Q (F0 m pc ls K)
end AVsim2
end
section
section AVsim3
variable {p : Program} {l : Launch} {e : Env} {R : Room} {s : State} {m : MethodId} {args : Array Value} {below : List Frame} {meth : Method} {c : Code} {H : Heap} {locs : List Loc} {cells slots : Nat} {Q : State → Prop}
variable {Ts : List Jvm.Cond} {cl : List vw_C} {D : va_G} {ao : List String} {base : Nat} {M : av_Mt} {fT : Nat → Nat → FieldType} {fN : Nat → Nat} {aT : Nat → FieldType} {mt : Nat → Option av_Mt} {ext : List Value → av_St → Option (Option Value × av_St)}
theorem av_catsum : ∀ (st : List Value), (st.map fun v => v.category).sum ≤ 2 * st.length
  | [] => Nat.le_refl _
  | v :: st => by
    have h := av_catsum st
    rw [List.map_cons, List.sum_cons, List.length_cons]
    rcases lv_cat v with q | q <;> omega
theorem av_goodIn (G : ∀ w ∈ Ts, goodWord w = true) {w0 : Jvm.Cond} (h : w0 ∈ Ts) : GoodIn Ts (w0 :: Ts) := by
  intro w hw
  rcases List.mem_cons.mp hw with rfl | hw
  · exact ⟨h, good_of_word (G _ h)⟩
  · exact ⟨hw, good_of_word (G _ hw)⟩
theorem av_call (T : av_Tk Ts cl fT fN) (G : ∀ w ∈ Ts, goodWord w = true) (X : av_Cx Ts cl D ao base M p s m args meth c) {y pc na ln d : Nat} {q : List Nat} {v0 : Int32} {N : av_Mt} {K : List Value} {S S1 : av_St} {r : Option Value} {ls : Array Slot} (hN : mt y = some N) (hc : av_chk Ts cl fT aT ao mt M pc (40, ln, y, na, v0, q) = true)
    (hlen : na ≤ K.length) (hrest : K.length ≤ na + 4) (hrcv : av_rcv q S (K.take na).reverse = true) (hMet : plainFor N.1 = true → .code N.1 N.2.1 N.2.2.1 N.2.2.2.1 ∈ Ts → av_Met Ts cl aT D ao base l d N (K.take na).reverse S S1 r)
    (hRf : d + 1 ≤ R.frames) (hRl : 33 * (d + 1) ≤ R.locals) (hRc : cells + (S1.2.2.1 - S.2.2.1) ≤ R.cells) (hRs : slots + (S1.2.2.2 - S.2.2.2) ≤ R.slots) (hR : av_R cl aT D base s H S) (hS : va_S (fun q => base ≤ q) s.heap H locs) (hls : ls.size = M.2.2.1)
    (kk : ∀ (H1 : Heap) (locs1 : List Loc), av_R cl aT D base s H1 S1 → va_S (fun q => base ≤ q) s.heap H1 locs1 → W p l e R s m args below meth c H1 locs1 (cells + (S1.2.2.1 - S.2.2.1)) (slots + (S1.2.2.2 - S.2.2.2)) Q (F0 m (pc + 3) ls (r.toList ++ K.drop na))) : W p l e R s m args below meth c H locs cells slots Q (F0 m pc ls K) := by
  simp only [av_chk, hN, Bool.and_eq_true, decide_eq_true_eq] at hc
  obtain ⟨⟨⟨⟨⟨⟨⟨⟨rfl, w1⟩, w2⟩, w3⟩, w4⟩, w5⟩, w6⟩, w7⟩, hk⟩ := hc
  have hM := hMet w4 (av_mem_ok w3)
  have hts := X.2.2.2.2.1
  have hG := av_goodIn G (av_mem_ok w3)
  have hfix : CallFix p m c M.2.1 M.2.2.1 s args Ts M.1.cls := ⟨X.1, X.2.1, X.2.2.1, X.2.2.2.1, hts⟩
  have hroom : ({ frames := d, cells := S1.2.2.1 - S.2.2.1, slots := S1.2.2.2 - S.2.2.2, locals := 33 * d } : Room).frames + 1 ≤ R.frames ∧ 8 + (N.2.2.1 + 11) + ({ frames := d, cells := S1.2.2.1 - S.2.2.1, slots := S1.2.2.2 - S.2.2.2, locals := 33 * d } : Room).locals ≤ R.locals := ⟨hRf, by show 8 + (N.2.2.1 + 11) + 33 * d ≤ R.locals; omega⟩
  have hKe : K = (K.take na).reverse.reverse ++ K.drop na := by rw [List.reverse_reverse, List.take_append_drop]
  have hal : ((K.take na).reverse).length = na := by rw [List.length_reverse, List.length_take]; omega
  have hsum : ((K.drop na).map fun v => v.category).sum ≤ 8 := Nat.le_trans (av_catsum _) (by rw [List.length_drop]; omega)
  have pre : ∀ U : State, U.heap = H → s.WarmedH U.vm → va_Pc (K.take na).reverse (fun U => base ≤ U.heap.size ∧ av_K cl D ao U ∧ av_R cl aT D base U U.heap S) (K.take na).reverse.toArray U := fun U hU hW => ⟨rfl, by rw [hU]; exact hR.2.1, av_K.moved hW.alike X.2.2.2.2.2.1, by rw [hU]; exact hR.moved hW.alike⟩
  split at hk
  · simp only [Bool.and_eq_true, decide_eq_true_eq] at hk
    obtain ⟨⟨k1, k2⟩, k3⟩ := hk
    have cb := callB_of (R := R) na hts hG rfl rfl rfl (hts _ (av_mem_ok w2)) (hts _ (av_mem_ok w1)) ⟨w5, w6, k3⟩ hroom
    exact av_behind (va_runS hfix hM ⟨cb, hts _ (av_mem_ok k2)⟩ ⟨av_blind, pre⟩ rfl hal hls hKe (lv_room hsum) (av_dec_ok k1) ⟨hRc, hRs⟩) hS kk
  · rename_i hq
    simp only [Bool.and_eq_true, decide_eq_true_eq] at hk
    obtain ⟨⟨⟨⟨k1, k2⟩, k3⟩, k4⟩, k5⟩ := hk
    match q, hq, hrcv, k1, k5, w1 with
    | 1 :: ci :: q', _, hrcv, k1, k5, w1 =>
      generalize hasE : (K.take na).reverse = as at hrcv hM hKe hal pre
      match as, hrcv with
      | .ref b :: As, hrcv =>
        have hb : S.1 b = some (.inl ci) := of_decide_eq_true hrcv
        obtain ⟨hzb, r', hr', cell, q1, q2, q3, q4⟩ := hR.2.2.1 b ci hb
        have k5' : (cl[ci]?).map (fun r => r.1) = some N.1.cls := k5
        rw [hr'] at k5'
        have e5 : r'.1 = N.1.cls := Option.some.inj k5'
        have hpl : (parseMethodDescriptor N.1.desc).map (fun d => d.parameters.length) = some As.length := by
          cases hp : parseMethodDescriptor N.1.desc with
          | none => rw [hp] at k4; cases k4
          | some dd =>
            rw [hp] at k4
            have h4 : dd.parameters.length + 1 = na := Option.some.inj k4
            have h5 : As.length + 1 = na := hal
            show some dd.parameters.length = some As.length
            congr 1
            omega
        have cb := callB_of (R := R) As.length hts hG rfl rfl rfl (hts _ (av_mem_ok w2)) (hts _ (av_mem_ok w1)) ⟨w5, w6, hpl⟩ hroom
        have hrc : ∃ cellB : Cell, H[b]? = some cellB ∧ cellB.vm.isStatics = false ∧ s.vm.findClass N.1.cls = some cellB.cls := ⟨cell, q1, by rw [q3]; rfl, by rw [q2, ← e5]; exact (X.2.2.2.2.2.1.1 ci r' hr').2.1⟩
        refine av_behind (va_runV (C := N.1.cls) (As := As) (b := b) hfix hM ⟨cb, hts _ (av_mem_ok k2), hts _ (av_mem_ok k3)⟩ ⟨av_blind, hrc, pre⟩ rfl rfl hls ?_ (lv_room hsum) (av_dec_ok k1) ⟨hRc, hRs⟩) hS kk
        show K = As.reverse ++ .ref b :: K.drop na
        rw [List.reverse_cons, List.append_assoc] at hKe
        exact hKe
  · rename_i hq
    simp only [Bool.and_eq_true, decide_eq_true_eq] at hk
    obtain ⟨⟨⟨⟨k1, k2⟩, k3⟩, k6⟩, k4⟩ := hk
    match q, hq, hrcv, k1, w1 with
    | 2 :: q', _, hrcv, k1, w1 =>
      generalize hasE : (K.take na).reverse = as at hrcv hM hKe hal pre
      match as, hrcv with
      | .ref b :: As, hrcv =>
        have hpl : (parseMethodDescriptor N.1.desc).map (fun d => d.parameters.length) = some As.length := by
          cases hp : parseMethodDescriptor N.1.desc with
          | none => rw [hp] at k4; cases k4
          | some dd =>
            rw [hp] at k4
            have h4 : dd.parameters.length + 1 = na := Option.some.inj k4
            have h5 : As.length + 1 = na := hal
            show some dd.parameters.length = some As.length
            congr 1
            omega
        unfold av_Met at hM
        rw [k6] at hM hG
        have cb := callB_of (R := R) As.length hts hG rfl rfl rfl (hts _ (av_mem_ok w2)) (hts _ (av_mem_ok w1)) ⟨w5, w6, hpl⟩ hroom
        refine av_behind (va_runI (As := As) (b := b) hfix hM ⟨cb, k3, hts _ (av_mem_ok k2)⟩ ⟨av_blind, pre⟩ rfl rfl hls ?_ (lv_room hsum) (av_dec_ok k1) ⟨hRc, hRs⟩) hS kk
        show K = As.reverse ++ .ref b :: K.drop na
        rw [List.reverse_cons, List.append_assoc] at hKe
        exact hKe
  · cases hk
theorem av_one (T : av_Tk Ts cl fT fN) (X : av_Cx Ts cl D ao base M p s m args meth c) (I : av_I) : av_ok p l e R s m args below meth c Q Ts cl fT fN aT ao mt D base M I := by
  intro pc L K S cf ls H locs cells slots hc hst
  have hst0 := hst
  unfold av_step at hst
  split at hst
  · exact av_o0 X pc L K S cf ls H locs cells slots hc hst0
  · exact av_o1 X pc L K S cf ls H locs cells slots hc hst0
  · exact av_o2 X pc L K S cf ls H locs cells slots hc hst0
  · exact av_o3 X pc L K S cf ls H locs cells slots hc hst0
  · exact av_o4 X pc L K S cf ls H locs cells slots hc hst0
  · exact av_o5 X pc L K S cf ls H locs cells slots hc hst0
  · exact av_o6 X pc L K S cf ls H locs cells slots hc hst0
  · exact av_o7 X pc L K S cf ls H locs cells slots hc hst0
  · exact av_o8 X pc L K S cf ls H locs cells slots hc hst0
  · exact av_o9 X pc L K S cf ls H locs cells slots hc hst0
  · exact av_o10 X pc L K S cf ls H locs cells slots hc hst0
  · exact av_o11 X pc L K S cf ls H locs cells slots hc hst0
  · exact av_o12 X pc L K S cf ls H locs cells slots hc hst0
  · exact av_o13 X pc L K S cf ls H locs cells slots hc hst0
  · exact av_o14 X pc L K S cf ls H locs cells slots hc hst0
  · exact av_o15 X pc L K S cf ls H locs cells slots hc hst0
  · exact av_o16 X pc L K S cf ls H locs cells slots hc hst0
  · exact av_o17 X pc L K S cf ls H locs cells slots hc hst0
  · exact av_o18 X pc L K S cf ls H locs cells slots hc hst0
  · exact av_o19 X pc L K S cf ls H locs cells slots hc hst0
  · exact av_o20 X pc L K S cf ls H locs cells slots hc hst0
  · exact av_o21 X pc L K S cf ls H locs cells slots hc hst0
  · exact av_o22 X pc L K S cf ls H locs cells slots hc hst0
  · exact av_o23 X pc L K S cf ls H locs cells slots hc hst0
  · exact av_o24 X pc L K S cf ls H locs cells slots hc hst0
  · exact av_o30 T X pc L K S cf ls H locs cells slots hc hst0
  · exact av_o31 T X pc L K S cf ls H locs cells slots hc hst0
  · exact av_o32 X pc L K S cf ls H locs cells slots hc hst0
  · exact av_o33 X pc L K S cf ls H locs cells slots hc hst0
  · exact av_o34 X pc L K S cf ls H locs cells slots hc hst0
  · exact av_o35 X pc L K S cf ls H locs cells slots hc hst0
  · exact av_o36 T X pc L K S cf ls H locs cells slots hc hst0
  · exact av_o37 X pc L K S cf ls H locs cells slots hc hst0
  · exact av_o38 X pc L K S cf ls H locs cells slots hc hst0
  · cases hst
theorem av_sim (T : av_Tk Ts cl fT fN) (G : ∀ w ∈ Ts, goodWord w = true) (hall : ∀ (y : Nat) (M : av_Mt) (pc : Nat) (I : av_I), mt y = some M → M.2.2.2.2 pc = some I → av_chk Ts cl fT aT ao mt M pc I = true) (hext : av_Ext Ts cl fT aT ext mt D ao base l) : ∀ n, av_Sim Ts cl fT fN aT ext mt D ao base l n := by
  intro n
  induction n with
  | zero => intro d y pc L K S r S' M hM h; cases h
  | succ n ih =>
    intro d y pc L K S r S' M hM hrun p e R s m args below meth c Q z0 w0 X hRf hRl hRc hRs hfin H locs cells slots ls hR hS hl hc hs
    unfold av_run at hrun
    rw [hM] at hrun
    dsimp only at hrun
    split at hrun
    · cases hrun
    · rename_i I hI
      have hchk := hall y M pc I hM hI
      obtain ⟨op, ln, a, b, v, q⟩ := I
      split at hrun
      · rename_i hop
        have hop : op = 40 := hop
        subst hop
        split at hrun
        · rename_i d' N hN
          split at hrun
          · rename_i hcond
            obtain ⟨c1, c2, c3, c4, c5⟩ := hcond
            split at hrun
            · cases hrun
            · rename_i r1 S1 h1
              have g1 := av_run_grow _ _ _ _ _ _ _ _ _ h1
              have g2 := av_run_grow _ _ _ _ _ _ _ _ _ hrun
              have hal : ((K.take b).reverse).length = b := by rw [List.length_reverse, List.length_take]; have : b ≤ K.length := c1; omega
              refine av_call T G X hN hchk c1 c2 c5 (fun w4 w3 => av_metOf ih hN h1 w4 (fun v hv => c4 v (List.mem_reverse.mp hv)) (by rw [hal]; exact c3) w3) hRf hRl (by omega) (by omega) hR hS hl.2.2.1 (fun H1 locs1 hR1 hS1 => ?_)
              exact ih (d' + 1) y (pc + 3) L _ S1 r S' M hM hrun p e R s m args below meth c Q z0 w0 X hRf hRl hRc hRs hfin H1 locs1 _ _ ls hR1 hS1 hl (by omega) (by omega)
          · cases hrun
        · cases hrun
      · rename_i hop
        have hop : op = 41 := hop
        subst hop
        split at hrun
        · rename_i d' z K'
          split at hrun
          · rename_i hK'
            simp only [av_chk, Bool.and_eq_true, decide_eq_true_eq] at hchk
            obtain ⟨⟨⟨⟨rfl, w1⟩, w2⟩, w3⟩, w4⟩ := hchk
            have hts := X.2.2.2.2.1
            refine W.objInit X.1 X.2.1 X.2.2.2.1 (hts _ (av_mem_ok w2)) (hts _ (av_mem_ok w3)) (hts _ (av_mem_ok w4)) rfl (hl.2.2.1.trans X.2.2.1.symm) rfl (av_dec_ok w1) (by omega) ?_ (ih (d' + 1) y (pc + 3) L K' S r S' M hM hrun p e R s m args below meth c Q z0 w0 X hRf hRl hRc hRs hfin H locs cells slots ls hR hS hl hc hs)
            have h8 : 2 * (F0 m pc ls (Value.ref z :: K')).monitorRoom + (K'.map fun v => v.category).sum ≤ 8 := lv_room (Nat.le_trans (av_catsum _) (by omega))
            omega
          · cases hrun
        · cases hrun
      · rename_i hop
        have hop : op = 45 := hop
        subst hop
        split at hrun
        · rename_i d'
          split at hrun
          · rename_i hcond
            obtain ⟨c1, c2, c3⟩ := hcond
            split at hrun
            · cases hrun
            · rename_i r1 S1 h1
              split at hrun
              · rename_i hz
                have g2 := av_run_grow _ _ _ _ _ _ _ _ _ hrun
                refine hext M pc ln a b d' v q K S S1 r1 hchk c1 c2 c3 h1 p e R s m args below meth c Q X hRf hRl H locs cells slots ls hR hS hl.2.2.1 (by omega) (by omega) (fun H1 locs1 hR1 hS1 => ?_)
                exact ih (d' + 1) y (pc + 3) L _ S1 r S' M hM hrun p e R s m args below meth c Q z0 w0 X hRf hRl hRc hRs hfin H1 locs1 _ _ ls hR1 hS1 hl (by omega) (by omega)
              · cases hrun
          · cases hrun
        · cases hrun
      · rename_i hop
        have hop : op = 42 := hop
        subst hop
        split at hrun
        · split at hrun
          · rename_i hn
            cases hrun
            simp only [av_chk, Bool.and_eq_true, decide_eq_true_eq] at hchk
            obtain ⟨rfl, w1⟩ := hchk
            exact hfin pc H locs ls cells slots ⟨av_dec_ok w1, hn⟩ hR hS hc hs
          · cases hrun
        · cases hrun
      · rename_i hop
        have hop : op = 43 := hop
        subst hop
        split at hrun
        · rename_i w
          split at hrun
          · rename_i hw
            cases hrun
            simp only [av_chk, Bool.and_eq_true, decide_eq_true_eq] at hchk
            obtain ⟨rfl, w1⟩ := hchk
            unfold av_rok at hw
            refine hfin pc H locs ls cells slots ?_ hR hS hc hs
            cases hret : M.2.2.2.1 with
            | none => rw [hret] at hw; cases hw
            | some ty =>
              rw [hret] at hw w1
              refine ⟨ty, hret, hw, ?_⟩
              cases ty with
              | object C => exact Or.inl ⟨(by cases w <;> first | rfl | cases hw), Or.inl ⟨_, rfl⟩, av_dec_ok w1⟩
              | array C => exact Or.inl ⟨(by cases w <;> first | rfl | cases hw), Or.inr ⟨_, rfl⟩, av_dec_ok w1⟩
              | int => cases w <;> first | exact Or.inr ⟨_, rfl, av_dec_ok w1⟩ | cases hw
              | boolean => cases w <;> first | exact Or.inr ⟨_, rfl, av_dec_ok w1⟩ | cases hw
              | byte => cases w1
              | char => cases w1
              | double => cases w1
              | float => cases w1
              | long => cases w1
              | short => cases w1
          · cases hrun
        · cases hrun
      · split at hrun
        · cases hrun
        · rename_i pc' L' K' S1 h1
          have g1 := av_step_grow h1
          have g2 := av_run_grow _ _ _ _ _ _ _ _ _ hrun
          have g1' : S.2.2.1 ≤ S1.2.2.1 ∧ S.2.2.2 ≤ S1.2.2.2 := g1
          refine av_one T X (op, ln, a, b, v, q) pc L K S (pc', L', K', S1) ls H locs cells slots hchk h1 hR hS hl (by show cells + S1.2.2.1 ≤ R.cells + S.2.2.1; omega) (by show slots + S1.2.2.2 ≤ R.slots + S.2.2.2; omega) ?_
          intro H' locs' ls' cells' slots' hR' hS' hl' hc' hs'
          have hc'' : cells' + S.2.2.1 = cells + S1.2.2.1 := hc'
          have hs'' : slots' + S.2.2.2 = slots + S1.2.2.2 := hs'
          exact ih d y pc' L' K' S1 r S' M hM hrun p e R s m args below meth c Q z0 w0 X hRf hRl hRc hRs hfin H' locs' cells' slots' ls' hR' hS' hl' (by omega) (by omega)
end AVsim3
end
