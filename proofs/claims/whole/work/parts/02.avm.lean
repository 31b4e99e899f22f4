/-! THE SMALL MACHINE: memory is a table of kinds and a table of contents; methods are numbers; an instruction is a row of numbers. -/
abbrev av_Ty : Type := Nat ⊕ (Nat × Nat)
abbrev av_St : Type := (Nat → Option av_Ty) × (Nat → Nat → Value) × Nat × Nat
abbrev av_I : Type := Nat × Nat × Nat × Nat × Int32 × List Nat
abbrev av_Ls : Type := List (Option Value)
abbrev av_Cf : Type := Nat × av_Ls × List Value × av_St
abbrev av_Mt : Type := MethodName × ByteArray × Nat × Option FieldType × (Nat → Option av_I)
def av_isR : Value → Bool
  | .ref _ => true
  | .null => true
  | _ => false
theorem av_isR_or {v : Value} (h : av_isR v = true) : v = .null ∨ ∃ a, v = .ref a := by
  cases v <;> simp [av_isR] at h ⊢
theorem av_isR_cat {v : Value} (h : av_isR v = true) : v.category = 1 := by
  rcases av_isR_or h with rfl | ⟨a, rfl⟩ <;> rfl
def av_fits (ty : FieldType) (v : Value) : Bool := match ty, v with
  | .int, .int _ => true
  | .object _, .ref _ => true
  | .object _, .null => true
  | .array _, .ref _ => true
  | .array _, .null => true
  | .boolean, .int x => decide (x = 0 ∨ x = 1)
  | _, _ => false
theorem av_fits_ok {ty : FieldType} {v : Value} (h : av_fits ty v = true) : narrow ty v = v ∧ fits ty v = true := by
  unfold av_fits at h
  split at h
  · exact ⟨rfl, rfl⟩
  · exact ⟨rfl, rfl⟩
  · exact ⟨rfl, rfl⟩
  · exact ⟨rfl, rfl⟩
  · exact ⟨rfl, rfl⟩
  · rcases of_decide_eq_true h with rfl | rfl
    · exact ⟨rfl, rfl⟩
    · exact ⟨rfl, rfl⟩
  · cases h
def av_ld (L : av_Ls) (i : Nat) : Option Value := L.getD i none
def av_put (ct : Nat → Nat → Value) (a k : Nat) (v : Value) : Nat → Nat → Value := fun b => if b = a then updV (ct b) k v else ct b
def av_set (S : av_St) (a k : Nat) (v : Value) : av_St := (S.1, av_put S.2.1 a k v, S.2.2.1, S.2.2.2)
def av_new (S : av_St) (t : av_Ty) (f : Nat → Value) (w : Nat) : av_St := (fun b => if b = S.2.2.1 then some t else S.1 b, fun b => if b = S.2.2.1 then f else S.2.1 b, S.2.2.1 + 1, S.2.2.2 + w)
def av_bin (k : Nat) (x y : Int32) : Option Int32 := match k with
  | 0 => some (x + y)
  | 1 => some (x - y)
  | 2 => some (x * y)
  | 3 => if y = 0 then none else some (x / y)
  | 4 => if y = 0 then none else some (x - x / y * y)
  | 5 => some (x &&& y)
  | 6 => some (x ||| y)
  | 7 => some (x ^^^ y)
  | 8 => some (x <<< (y &&& 31))
  | 9 => some (x >>> (y &&& 31))
  | _ => none
def av_binI (k : Nat) : Instr := match k with
  | 0 => .iadd
  | 1 => .isub
  | 2 => .imul
  | 3 => .idiv
  | 4 => .irem
  | 5 => .iand
  | 6 => .ior
  | 7 => .ixor
  | 8 => .ishl
  | _ => .ishr
def av_cmp (k : Nat) (x y : Int32) : Bool := match k with
  | 0 => decide (x = y)
  | 1 => decide (¬ x = y)
  | 2 => decide (x < y)
  | 3 => decide (y ≤ x)
  | 4 => decide (y < x)
  | _ => decide (x ≤ y)
def av_ifI (k : Nat) (off : Int) : Instr := match k with
  | 0 => .ifCond .eq off
  | 1 => .ifCond .ne off
  | 2 => .ifCond .lt off
  | 3 => .ifCond .ge off
  | 4 => .ifCond .gt off
  | _ => .ifCond .le off
def av_icI (k : Nat) (off : Int) : Instr := match k with
  | 0 => .if_icmp .eq off
  | 1 => .if_icmp .ne off
  | 2 => .if_icmp .lt off
  | 3 => .if_icmp .ge off
  | 4 => .if_icmp .gt off
  | _ => .if_icmp .le off
def av_acI (k : Nat) (off : Int) : Instr := match k with
  | 0 => .if_acmp .eq off
  | _ => .if_acmp .ne off
/-- which array instructions: by the kind of the elements -/
def av_aldI (ty : FieldType) : Option Instr := match ty with
  | .int => some .iaload
  | .char => some .caload
  | .boolean => some .baload
  | .byte => some .baload
  | .long => some .laload
  | .object _ => some .aaload
  | _ => none
def av_astI (ty : FieldType) : Option Instr := match ty with
  | .int => some .iastore
  | .char => some .castore
  | .boolean => some .bastore
  | .byte => some .bastore
  | _ => none
def av_newI (ty : FieldType) : Option ArrayType := match ty with
  | .int => some .int
  | .char => some .char
  | .boolean => some .boolean
  | .byte => some .byte
  | .long => some .long
  | _ => none
def av_inb (i : Int32) (n : Nat) : Bool := decide (0 ≤ i) && decide (i.toNatClampNeg < n)
theorem av_inb_ok {i : Int32} {n : Nat} (h : av_inb i n = true) : vp_in i n := by
  unfold av_inb at h
  rw [Bool.and_eq_true, decide_eq_true_eq, decide_eq_true_eq] at h
  rintro (q | q)
  · have h1 := h.1
    rw [Int32.le_iff_toInt_le] at h1
    rw [Int32.lt_iff_toInt_lt] at q
    omega
  · omega
section AVrun
variable (fT : Nat → Nat → FieldType) (fN : Nat → Nat) (aT : Nat → FieldType)
def av_step (I : av_I) (pc : Nat) (L : av_Ls) (K : List Value) (S : av_St) : Option av_Cf :=
  match I with
  | (0, ln, a, _, _, _) => match av_ld L a with
    | some (.int x) => some (pc + ln, L, .int x :: K, S)
    | _ => none
  | (1, ln, a, _, _, _) => match av_ld L a with
    | some v => if av_isR v = true then some (pc + ln, L, v :: K, S) else none
    | none => none
  | (2, ln, a, _, _, _) => match K with
    | .int x :: K' => if a < L.length then some (pc + ln, L.set a (some (.int x)), K', S) else none
    | _ => none
  | (3, ln, a, _, _, _) => match K with
    | v :: K' => if av_isR v = true ∧ a < L.length then some (pc + ln, L.set a (some v), K', S) else none
    | [] => none
  | (4, ln, _, _, v, _) => some (pc + ln, L, .int v :: K, S)
  | (5, ln, _, _, _, _) => some (pc + ln, L, .null :: K, S)
  | (6, ln, a, _, v, _) => match av_ld L a with
    | some (.int x) => some (pc + ln, L.set a (some (.int (x + v))), K, S)
    | _ => none
  | (7, ln, k, _, _, _) => match K with
    | .int y :: .int x :: K' => match av_bin k x y with
      | some z => some (pc + ln, L, .int z :: K', S)
      | none => none
    | _ => none
  | (8, ln, _, _, _, _) => match K with
    | .int x :: K' => some (pc + ln, L, .int (x.toUInt32 % 65536).toInt32 :: K', S)
    | _ => none
  | (9, ln, _, _, _, _) => match K with
    | .int x :: K' => some (pc + ln, L, .int (-x) :: K', S)
    | _ => none
  | (10, ln, _, _, _, _) => match K with
    | v :: K' => if v.category = 1 then some (pc + ln, L, v :: v :: K', S) else none
    | [] => none
  | (11, ln, _, _, _, _) => match K with
    | v :: K' => if v.category = 1 then some (pc + ln, L, K', S) else none
    | [] => none
  | (12, ln, _, _, _, _) => match K with
    | v :: w :: K' => if v.category = 1 ∧ w.category = 1 then some (pc + ln, L, v :: w :: v :: K', S) else none
    | _ => none
  | (13, ln, _, _, _, _) => match K with
    | v :: w :: K' => if v.category = 1 ∧ w.category = 1 then some (pc + ln, L, v :: w :: v :: w :: K', S) else none
    | _ => none
  | (14, ln, _, _, _, _) => match K with
    | v :: w :: z :: K' => if v.category = 1 ∧ w.category = 1 ∧ z.category = 1 then some (pc + ln, L, v :: w :: z :: v :: K', S) else none
    | _ => none
  | (15, ln, k, t, _, _) => match K with
    | .int x :: K' => some (if av_cmp k x 0 = true then t else pc + ln, L, K', S)
    | _ => none
  | (16, ln, k, t, _, _) => match K with
    | .int y :: .int x :: K' => some (if av_cmp k x y = true then t else pc + ln, L, K', S)
    | _ => none
  | (17, ln, k, t, _, _) => match K with
    | w :: v :: K' => if av_isR v = true ∧ av_isR w = true then some (if (v = w) = (k = 0) then t else pc + ln, L, K', S) else none
    | _ => none
  | (18, ln, _, t, _, _) => match K with
    | .null :: K' => some (t, L, K', S)
    | .ref _ :: K' => some (pc + ln, L, K', S)
    | _ => none
  | (19, ln, _, t, _, _) => match K with
    | .null :: K' => some (pc + ln, L, K', S)
    | .ref _ :: K' => some (t, L, K', S)
    | _ => none
  | (20, _, _, t, _, _) => some (t, L, K, S)
  | (21, _, _, t, lo, ts) => match K with
    | .int x :: K' => if x.toInt < lo.toInt then some (t, L, K', S) else some (ts.getD (x.toInt - lo.toInt).toNat t, L, K', S)
    | _ => none
  | (22, ln, _, _, _, _) => match K with
    | .int x :: K' => some (pc + ln, L, .int x.toInt8.toInt32 :: K', S)
    | _ => none
  | (23, ln, _, _, _, _) => match K with
    | .int x :: K' => some (pc + ln, L, .long x.toInt64 :: K', S)
    | _ => none
  | (24, ln, _, _, _, _) => match K with
    | .long y :: .long x :: K' => some (pc + ln, L, .int (lg_cmp x y) :: K', S)
    | _ => none
  | (30, ln, ci, k, _, _) => match K with
    | .ref a :: K' => if S.1 a = some (.inl ci) then some (pc + ln, L, S.2.1 a k :: K', S) else none
    | _ => none
  | (31, ln, ci, k, _, _) => match K with
    | v :: .ref a :: K' => if S.1 a = some (.inl ci) ∧ av_fits (fT ci k) v = true then some (pc + ln, L, K', av_set S a k v) else none
    | _ => none
  | (32, ln, _, _, _, _) => match K with
    | .ref a :: K' => match S.1 a with
      | some (.inr q) => some (pc + ln, L, .int (Int32.ofNat q.2) :: K', S)
      | _ => none
    | _ => none
  | (33, ln, j, _, _, _) => match K with
    | .int i :: .ref a :: K' => match S.1 a with
      | some (.inr q) => if (q.1 = j ∨ q.1 = j + 50) ∧ av_inb i q.2 = true then some (pc + ln, L, S.2.1 a i.toNatClampNeg :: K', S) else none
      | _ => none
    | _ => none
  | (34, ln, j, _, _, _) => match K with
    | .int x :: .int i :: .ref a :: K' => match S.1 a with
      | some (.inr q) => if q.1 = j ∧ av_inb i q.2 = true then some (pc + ln, L, K', av_set S a i.toNatClampNeg (narrow (aT j) (.int x))) else none
      | _ => none
    | _ => none
  | (35, ln, j, ci, _, _) => match K with
    | .null :: .int i :: .ref a :: K' => match S.1 a with
      | some (.inr q) => if q.1 = j ∧ av_inb i q.2 = true then some (pc + ln, L, K', av_set S a i.toNatClampNeg .null) else none
      | _ => none
    | .ref v :: .int i :: .ref a :: K' => match S.1 a with
      | some (.inr q) => if q.1 = j ∧ av_inb i q.2 = true ∧ S.1 v = some (.inl ci) then some (pc + ln, L, K', av_set S a i.toNatClampNeg (.ref v)) else none
      | _ => none
    | _ => none
  | (36, ln, ci, _, _, _) => some (pc + ln, L, .ref S.2.2.1 :: K, av_new S (.inl ci) (fun k => defaultValue (fT ci k)) (fN ci))
  | (37, ln, j, _, _, _) => match K with
    | .int n :: K' => if 0 ≤ n ∧ n.toNatClampNeg ≤ 65536 then some (pc + ln, L, .ref S.2.2.1 :: K', av_new S (.inr (j, n.toNatClampNeg)) (fun _ => defaultValue (aT j)) n.toNatClampNeg) else none
    | _ => none
  | (38, ln, j, _, _, _) => match K with
    | .int n :: K' => if 0 ≤ n ∧ n.toNatClampNeg ≤ 65536 then some (pc + ln, L, .ref S.2.2.1 :: K', av_new S (.inr (j, n.toNatClampNeg)) (fun _ => .null) n.toNatClampNeg) else none
    | _ => none
  | _ => none
def av_ent (as : List Value) (n : Nat) : av_Ls := as.map some ++ List.replicate (n - as.length) none
def av_rok (ret : Option FieldType) (v : Value) : Bool := match ret with
  | some ty => av_fits ty v
  | none => false
def av_rcv (q : List Nat) (S : av_St) (as : List Value) : Bool := match q, as with
  | 0 :: _, _ => true
  | 1 :: ci :: _, .ref b :: _ => decide (S.1 b = some (.inl ci))
  | 2 :: _, .ref _ :: _ => true
  | _, _ => false
/-- a run: fuel, how deep calls may go, method, place, locals, stack, state -/
def av_run (ext : List Value → av_St → Option (Option Value × av_St)) (mt : Nat → Option av_Mt) : Nat → Nat → Nat → Nat → av_Ls → List Value → av_St → Option (Option Value × av_St)
  | 0, _, _, _, _, _, _ => none
  | n + 1, d, y, pc, L, K, S => match mt y with
    | none => none
    | some M => match M.2.2.2.2 pc with
      | none => none
      | some I => match I.1 with
        | 40 => match d, mt I.2.2.1 with
          | d' + 1, some M' =>
            if I.2.2.2.1 ≤ K.length ∧ K.length ≤ I.2.2.2.1 + 4 ∧ I.2.2.2.1 ≤ M'.2.2.1 ∧ (∀ v ∈ K.take I.2.2.2.1, v.category = 1) ∧ av_rcv I.2.2.2.2.2 S (K.take I.2.2.2.1).reverse = true then
              match av_run ext mt n d' I.2.2.1 0 (av_ent (K.take I.2.2.2.1).reverse M'.2.2.1) [] S with
              | none => none
              | some (v, S1) => av_run ext mt n (d' + 1) y (pc + 3) L (v.toList ++ K.drop I.2.2.2.1) S1
            else none
          | _, _ => none
        | 41 => match d, K with
          | d' + 1, .ref _ :: K' => if K'.length ≤ 4 then av_run ext mt n (d' + 1) y (pc + 3) L K' S else none
          | _, _ => none
        | 45 => match d with
          | d' + 1 => if 8 ≤ d' ∧ I.2.2.2.1 ≤ K.length ∧ K.length ≤ I.2.2.2.1 + 4 then
              match ext (K.take I.2.2.2.1).reverse S with
              | none => none
              | some (v, S1) => if S.2.2.1 ≤ S1.2.2.1 ∧ S.2.2.2 ≤ S1.2.2.2 then av_run ext mt n (d' + 1) y (pc + 3) L (v.toList ++ K.drop I.2.2.2.1) S1 else none
            else none
          | 0 => none
        | 42 => match K with
          | [] => if M.2.2.2.1 = none then some (none, S) else none
          | _ => none
        | 43 => match K with
          | [v] => if av_rok M.2.2.2.1 v = true then some (some v, S) else none
          | _ => none
        | _ => match av_step fT fN aT I pc L K S with
          | none => none
          | some (pc', L', K', S') => av_run ext mt n d y pc' L' K' S'
end AVrun
