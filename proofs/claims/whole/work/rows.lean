section
-- ===== PART A: goes FIRST, ahead of the names: the tables' words, and 'selects' of the private methods out of them =====
/-- a private method of a class that the tables say can be made, by its rows of tables_1 -/
def lw_okq (q : MethodName × Nat) : Prop := (q.1.cls ≠ "java/lang/invoke/MethodHandle" ∧ q.1.cls ≠ "java/lang/invoke/VarHandle") ∧ Cond.instantiable q.1.cls q.2 ∈ tables_1 ∧ Cond.privateMethod q.1 ∈ tables_1 ∧ Cond.instanceMethod q.1 ∈ tables_1
theorem lw_p0 : lw_okq (⟨"StructureMap", "findFile", "(I)LStructureMap$SizedFile;"⟩, 11) := ⟨⟨by decide +kernel, by decide +kernel⟩, List.mem_of_getElem? (i := 19) (by decide +kernel), List.mem_of_getElem? (i := 202) (by decide +kernel), List.mem_of_getElem? (i := 203) (by decide +kernel)⟩
theorem lw_p1 : lw_okq (⟨"StructureMap", "findTree", "(I)LStructureMap$Tree;"⟩, 11) := ⟨⟨by decide +kernel, by decide +kernel⟩, List.mem_of_getElem? (i := 19) (by decide +kernel), List.mem_of_getElem? (i := 286) (by decide +kernel), List.mem_of_getElem? (i := 287) (by decide +kernel)⟩
theorem lw_p2 : lw_okq (⟨"StructureMap", "findParent", "(LStructureMap$Tree;I)LStructureMap$Division;"⟩, 11) := ⟨⟨by decide +kernel, by decide +kernel⟩, List.mem_of_getElem? (i := 19) (by decide +kernel), List.mem_of_getElem? (i := 290) (by decide +kernel), List.mem_of_getElem? (i := 291) (by decide +kernel)⟩
theorem lw_p3 : lw_okq (⟨"StructureMap", "findDivision", "(I)LStructureMap$Division;"⟩, 11) := ⟨⟨by decide +kernel, by decide +kernel⟩, List.mem_of_getElem? (i := 19) (by decide +kernel), List.mem_of_getElem? (i := 294) (by decide +kernel), List.mem_of_getElem? (i := 295) (by decide +kernel)⟩
theorem lw_p4 : lw_okq (⟨"StructureMap", "addFaultsOfDivision", "(LStructureMap$Division;)V"⟩, 11) := ⟨⟨by decide +kernel, by decide +kernel⟩, List.mem_of_getElem? (i := 19) (by decide +kernel), List.mem_of_getElem? (i := 434) (by decide +kernel), List.mem_of_getElem? (i := 435) (by decide +kernel)⟩
theorem lw_p5 : lw_okq (⟨"StructureMap", "addFaultsOfFile", "(LStructureMap$SizedFile;)V"⟩, 11) := ⟨⟨by decide +kernel, by decide +kernel⟩, List.mem_of_getElem? (i := 19) (by decide +kernel), List.mem_of_getElem? (i := 450) (by decide +kernel), List.mem_of_getElem? (i := 451) (by decide +kernel)⟩
theorem lw_p6 : lw_okq (⟨"java/lang/Throwable", "fillInStackTrace", "(I)Ljava/lang/Throwable;"⟩, 6) := ⟨⟨by decide +kernel, by decide +kernel⟩, List.mem_of_getElem? (i := 554) (by decide +kernel), List.mem_of_getElem? (i := 552) (by decide +kernel), List.mem_of_getElem? (i := 553) (by decide +kernel)⟩
theorem lw_p7 : lw_okq (⟨"StructureMapModel", "isFile", "(I)Z"⟩, 34) := ⟨⟨by decide +kernel, by decide +kernel⟩, List.mem_of_getElem? (i := 579) (by decide +kernel), List.mem_of_getElem? (i := 705) (by decide +kernel), List.mem_of_getElem? (i := 706) (by decide +kernel)⟩
theorem lw_p8 : lw_okq (⟨"StructureMapModel", "isMap", "(I)Z"⟩, 34) := ⟨⟨by decide +kernel, by decide +kernel⟩, List.mem_of_getElem? (i := 579) (by decide +kernel), List.mem_of_getElem? (i := 717) (by decide +kernel), List.mem_of_getElem? (i := 718) (by decide +kernel)⟩
theorem lw_p9 : lw_okq (⟨"StructureMapModel", "isDivision", "(I)Z"⟩, 34) := ⟨⟨by decide +kernel, by decide +kernel⟩, List.mem_of_getElem? (i := 579) (by decide +kernel), List.mem_of_getElem? (i := 721) (by decide +kernel), List.mem_of_getElem? (i := 722) (by decide +kernel)⟩
theorem lw_p10 : lw_okq (⟨"StructureMapModel", "children", "(I)I"⟩, 34) := ⟨⟨by decide +kernel, by decide +kernel⟩, List.mem_of_getElem? (i := 579) (by decide +kernel), List.mem_of_getElem? (i := 733) (by decide +kernel), List.mem_of_getElem? (i := 734) (by decide +kernel)⟩
theorem lw_p11 : lw_okq (⟨"StructureMapModel", "comesBack", "(II)Z"⟩, 34) := ⟨⟨by decide +kernel, by decide +kernel⟩, List.mem_of_getElem? (i := 579) (by decide +kernel), List.mem_of_getElem? (i := 737) (by decide +kernel), List.mem_of_getElem? (i := 738) (by decide +kernel)⟩
theorem lw_p12 : lw_okq (⟨"StructureMapModel", "reach", "(I)V"⟩, 34) := ⟨⟨by decide +kernel, by decide +kernel⟩, List.mem_of_getElem? (i := 579) (by decide +kernel), List.mem_of_getElem? (i := 741) (by decide +kernel), List.mem_of_getElem? (i := 742) (by decide +kernel)⟩
theorem lw_p13 : lw_okq (⟨"StructureMapModel", "isUnder", "(II)Z"⟩, 34) := ⟨⟨by decide +kernel, by decide +kernel⟩, List.mem_of_getElem? (i := 579) (by decide +kernel), List.mem_of_getElem? (i := 749) (by decide +kernel), List.mem_of_getElem? (i := 750) (by decide +kernel)⟩
theorem lw_p14 : lw_okq (⟨"StructureMapModel", "go", "(I)V"⟩, 34) := ⟨⟨by decide +kernel, by decide +kernel⟩, List.mem_of_getElem? (i := 579) (by decide +kernel), List.mem_of_getElem? (i := 757) (by decide +kernel), List.mem_of_getElem? (i := 758) (by decide +kernel)⟩
theorem lw_p15 : lw_okq (⟨"StructureMapModel", "lay", "(II)V"⟩, 34) := ⟨⟨by decide +kernel, by decide +kernel⟩, List.mem_of_getElem? (i := 579) (by decide +kernel), List.mem_of_getElem? (i := 761) (by decide +kernel), List.mem_of_getElem? (i := 762) (by decide +kernel)⟩
def lw_privs_1 : List (MethodName × Nat) := [(⟨"StructureMap", "findFile", "(I)LStructureMap$SizedFile;"⟩, 11), (⟨"StructureMap", "findTree", "(I)LStructureMap$Tree;"⟩, 11), (⟨"StructureMap", "findParent", "(LStructureMap$Tree;I)LStructureMap$Division;"⟩, 11), (⟨"StructureMap", "findDivision", "(I)LStructureMap$Division;"⟩, 11), (⟨"StructureMap", "addFaultsOfDivision", "(LStructureMap$Division;)V"⟩, 11), (⟨"StructureMap", "addFaultsOfFile", "(LStructureMap$SizedFile;)V"⟩, 11), (⟨"java/lang/Throwable", "fillInStackTrace", "(I)Ljava/lang/Throwable;"⟩, 6), (⟨"StructureMapModel", "isFile", "(I)Z"⟩, 34), (⟨"StructureMapModel", "isMap", "(I)Z"⟩, 34), (⟨"StructureMapModel", "isDivision", "(I)Z"⟩, 34), (⟨"StructureMapModel", "children", "(I)I"⟩, 34), (⟨"StructureMapModel", "comesBack", "(II)Z"⟩, 34), (⟨"StructureMapModel", "reach", "(I)V"⟩, 34), (⟨"StructureMapModel", "isUnder", "(II)Z"⟩, 34), (⟨"StructureMapModel", "go", "(I)V"⟩, 34), (⟨"StructureMapModel", "lay", "(II)V"⟩, 34)]
theorem lw_r1 : ∀ q ∈ lw_privs_1, lw_okq q := List.forall_mem_cons.mpr ⟨lw_p0, List.forall_mem_cons.mpr ⟨lw_p1, List.forall_mem_cons.mpr ⟨lw_p2, List.forall_mem_cons.mpr ⟨lw_p3, List.forall_mem_cons.mpr ⟨lw_p4, List.forall_mem_cons.mpr ⟨lw_p5, List.forall_mem_cons.mpr ⟨lw_p6, List.forall_mem_cons.mpr ⟨lw_p7, List.forall_mem_cons.mpr ⟨lw_p8, List.forall_mem_cons.mpr ⟨lw_p9, List.forall_mem_cons.mpr ⟨lw_p10, List.forall_mem_cons.mpr ⟨lw_p11, List.forall_mem_cons.mpr ⟨lw_p12, List.forall_mem_cons.mpr ⟨lw_p13, List.forall_mem_cons.mpr ⟨lw_p14, List.forall_mem_cons.mpr ⟨lw_p15, fun _ h => absurd h List.not_mem_nil⟩⟩⟩⟩⟩⟩⟩⟩⟩⟩⟩⟩⟩⟩⟩⟩
theorem lw_p16 : lw_okq (⟨"StructureMapModel", "depth", "(I)I"⟩, 34) := ⟨⟨by decide +kernel, by decide +kernel⟩, List.mem_of_getElem? (i := 579) (by decide +kernel), List.mem_of_getElem? (i := 765) (by decide +kernel), List.mem_of_getElem? (i := 766) (by decide +kernel)⟩
theorem lw_p17 : lw_okq (⟨"StructureMapModel", "goes", "(I[I)I"⟩, 34) := ⟨⟨by decide +kernel, by decide +kernel⟩, List.mem_of_getElem? (i := 579) (by decide +kernel), List.mem_of_getElem? (i := 773) (by decide +kernel), List.mem_of_getElem? (i := 774) (by decide +kernel)⟩
theorem lw_p18 : lw_okq (⟨"StructureMapModel", "checkDivision", "(I)V"⟩, 34) := ⟨⟨by decide +kernel, by decide +kernel⟩, List.mem_of_getElem? (i := 579) (by decide +kernel), List.mem_of_getElem? (i := 785) (by decide +kernel), List.mem_of_getElem? (i := 786) (by decide +kernel)⟩
theorem lw_p19 : lw_okq (⟨"StructureMapModel", "blame", "(II)V"⟩, 34) := ⟨⟨by decide +kernel, by decide +kernel⟩, List.mem_of_getElem? (i := 579) (by decide +kernel), List.mem_of_getElem? (i := 789) (by decide +kernel), List.mem_of_getElem? (i := 790) (by decide +kernel)⟩
theorem lw_p20 : lw_okq (⟨"StructureMapModel", "checkFile", "(I)V"⟩, 34) := ⟨⟨by decide +kernel, by decide +kernel⟩, List.mem_of_getElem? (i := 579) (by decide +kernel), List.mem_of_getElem? (i := 793) (by decide +kernel), List.mem_of_getElem? (i := 794) (by decide +kernel)⟩
theorem lw_p21 : lw_okq (⟨"StructureMapModel", "put", "(I)V"⟩, 34) := ⟨⟨by decide +kernel, by decide +kernel⟩, List.mem_of_getElem? (i := 579) (by decide +kernel), List.mem_of_getElem? (i := 805) (by decide +kernel), List.mem_of_getElem? (i := 806) (by decide +kernel)⟩
def lw_privs_2 : List (MethodName × Nat) := [(⟨"StructureMapModel", "depth", "(I)I"⟩, 34), (⟨"StructureMapModel", "goes", "(I[I)I"⟩, 34), (⟨"StructureMapModel", "checkDivision", "(I)V"⟩, 34), (⟨"StructureMapModel", "blame", "(II)V"⟩, 34), (⟨"StructureMapModel", "checkFile", "(I)V"⟩, 34), (⟨"StructureMapModel", "put", "(I)V"⟩, 34)]
theorem lw_r2 : ∀ q ∈ lw_privs_2, lw_okq q := List.forall_mem_cons.mpr ⟨lw_p16, List.forall_mem_cons.mpr ⟨lw_p17, List.forall_mem_cons.mpr ⟨lw_p18, List.forall_mem_cons.mpr ⟨lw_p19, List.forall_mem_cons.mpr ⟨lw_p20, List.forall_mem_cons.mpr ⟨lw_p21, fun _ h => absurd h List.not_mem_nil⟩⟩⟩⟩⟩⟩
def lw_privs : List (MethodName × Nat) := lw_privs_1 ++ (lw_privs_2)
def lw_tbl : List Cond := k2_sels lw_privs ++ tables_1
theorem lw_privs_ok : ∀ q ∈ lw_privs, lw_okq q := by
  show ∀ q ∈ lw_privs_1 ++ (lw_privs_2), lw_okq q
  exact List.forall_mem_append.mpr ⟨lw_r1, lw_r2⟩
end
section
/-! THE SMALL MACHINE: memory is a table of kinds and a table of contents; methods are numbers; an instruction is a row of numbers. -/
abbrev av_Ty : Type := Nat ⊕ (Nat × Nat)
abbrev av_St : Type := (Nat → Option av_Ty) × (Nat → Nat → Value) × Nat × Nat
abbrev av_I : Type := Nat × Nat × Nat × Nat × Int32 × List Nat
abbrev av_Ls : Type := List (Option Value)
abbrev av_Cf : Type := Nat × av_Ls × List Value × av_St
abbrev av_Mt : Type := MethodName × ByteArray × Nat × Option FieldType × (Nat → Option av_I)
def av_isR : Value → Bool
  | .ref _ => true
  | .null => true
  | _ => false
theorem av_isR_or {v : Value} (h : av_isR v = true) : v = .null ∨ ∃ a, v = .ref a := by
  cases v <;> simp [av_isR] at h ⊢
theorem av_isR_cat {v : Value} (h : av_isR v = true) : v.category = 1 := by
  rcases av_isR_or h with rfl | ⟨a, rfl⟩ <;> rfl
def av_fits (ty : FieldType) (v : Value) : Bool := match ty, v with
  | .int, .int _ => true
  | .object _, .ref _ => true
  | .object _, .null => true
  | .array _, .ref _ => true
  | .array _, .null => true
  | .boolean, .int x => decide (x = 0 ∨ x = 1)
  | _, _ => false
theorem av_fits_ok {ty : FieldType} {v : Value} (h : av_fits ty v = true) : narrow ty v = v ∧ fits ty v = true := by
  unfold av_fits at h
  split at h
  · exact ⟨rfl, rfl⟩
  · exact ⟨rfl, rfl⟩
  · exact ⟨rfl, rfl⟩
  · exact ⟨rfl, rfl⟩
  · exact ⟨rfl, rfl⟩
  · rcases of_decide_eq_true h with rfl | rfl
    · exact ⟨rfl, rfl⟩
    · exact ⟨rfl, rfl⟩
  · cases h
def av_ld (L : av_Ls) (i : Nat) : Option Value := L.getD i none
def av_put (ct : Nat → Nat → Value) (a k : Nat) (v : Value) : Nat → Nat → Value := fun b => if b = a then updV (ct b) k v else ct b
def av_set (S : av_St) (a k : Nat) (v : Value) : av_St := (S.1, av_put S.2.1 a k v, S.2.2.1, S.2.2.2)
def av_new (S : av_St) (t : av_Ty) (f : Nat → Value) (w : Nat) : av_St := (fun b => if b = S.2.2.1 then some t else S.1 b, fun b => if b = S.2.2.1 then f else S.2.1 b, S.2.2.1 + 1, S.2.2.2 + w)
def av_bin (k : Nat) (x y : Int32) : Option Int32 := match k with
  | 0 => some (x + y)
  | 1 => some (x - y)
  | 2 => some (x * y)
  | 3 => if y = 0 then none else some (x / y)
  | 4 => if y = 0 then none else some (x - x / y * y)
  | 5 => some (x &&& y)
  | 6 => some (x ||| y)
  | 7 => some (x ^^^ y)
  | 8 => some (x <<< (y &&& 31))
  | 9 => some (x >>> (y &&& 31))
  | _ => none
def av_binI (k : Nat) : Instr := match k with
  | 0 => .iadd
  | 1 => .isub
  | 2 => .imul
  | 3 => .idiv
  | 4 => .irem
  | 5 => .iand
  | 6 => .ior
  | 7 => .ixor
  | 8 => .ishl
  | _ => .ishr
def av_cmp (k : Nat) (x y : Int32) : Bool := match k with
  | 0 => decide (x = y)
  | 1 => decide (¬ x = y)
  | 2 => decide (x < y)
  | 3 => decide (y ≤ x)
  | 4 => decide (y < x)
  | _ => decide (x ≤ y)
def av_ifI (k : Nat) (off : Int) : Instr := match k with
  | 0 => .ifCond .eq off
  | 1 => .ifCond .ne off
  | 2 => .ifCond .lt off
  | 3 => .ifCond .ge off
  | 4 => .ifCond .gt off
  | _ => .ifCond .le off
def av_icI (k : Nat) (off : Int) : Instr := match k with
  | 0 => .if_icmp .eq off
  | 1 => .if_icmp .ne off
  | 2 => .if_icmp .lt off
  | 3 => .if_icmp .ge off
  | 4 => .if_icmp .gt off
  | _ => .if_icmp .le off
def av_acI (k : Nat) (off : Int) : Instr := match k with
  | 0 => .if_acmp .eq off
  | _ => .if_acmp .ne off
/-- which array instructions: by the kind of the elements -/
def av_aldI (ty : FieldType) : Option Instr := match ty with
  | .int => some .iaload
  | .char => some .caload
  | .boolean => some .baload
  | .byte => some .baload
  | .long => some .laload
  | .object _ => some .aaload
  | _ => none
def av_astI (ty : FieldType) : Option Instr := match ty with
  | .int => some .iastore
  | .char => some .castore
  | .boolean => some .bastore
  | .byte => some .bastore
  | _ => none
def av_newI (ty : FieldType) : Option ArrayType := match ty with
  | .int => some .int
  | .char => some .char
  | .boolean => some .boolean
  | .byte => some .byte
  | .long => some .long
  | _ => none
def av_inb (i : Int32) (n : Nat) : Bool := decide (0 ≤ i) && decide (i.toNatClampNeg < n)
theorem av_inb_ok {i : Int32} {n : Nat} (h : av_inb i n = true) : vp_in i n := by
  unfold av_inb at h
  rw [Bool.and_eq_true, decide_eq_true_eq, decide_eq_true_eq] at h
  rintro (q | q)
  · have h1 := h.1
    rw [Int32.le_iff_toInt_le] at h1
    rw [Int32.lt_iff_toInt_lt] at q
    omega
  · omega
section AVrun
variable (fT : Nat → Nat → FieldType) (fN : Nat → Nat) (aT : Nat → FieldType)
def av_step (I : av_I) (pc : Nat) (L : av_Ls) (K : List Value) (S : av_St) : Option av_Cf :=
  match I with
  | (0, ln, a, _, _, _) => match av_ld L a with
    | some (.int x) => some (pc + ln, L, .int x :: K, S)
    | _ => none
  | (1, ln, a, _, _, _) => match av_ld L a with
    | some v => if av_isR v = true then some (pc + ln, L, v :: K, S) else none
    | none => none
  | (2, ln, a, _, _, _) => match K with
    | .int x :: K' => if a < L.length then some (pc + ln, L.set a (some (.int x)), K', S) else none
    | _ => none
  | (3, ln, a, _, _, _) => match K with
    | v :: K' => if av_isR v = true ∧ a < L.length then some (pc + ln, L.set a (some v), K', S) else none
    | [] => none
  | (4, ln, _, _, v, _) => some (pc + ln, L, .int v :: K, S)
  | (5, ln, _, _, _, _) => some (pc + ln, L, .null :: K, S)
  | (6, ln, a, _, v, _) => match av_ld L a with
    | some (.int x) => some (pc + ln, L.set a (some (.int (x + v))), K, S)
    | _ => none
  | (7, ln, k, _, _, _) => match K with
    | .int y :: .int x :: K' => match av_bin k x y with
      | some z => some (pc + ln, L, .int z :: K', S)
      | none => none
    | _ => none
  | (8, ln, _, _, _, _) => match K with
    | .int x :: K' => some (pc + ln, L, .int (x.toUInt32 % 65536).toInt32 :: K', S)
    | _ => none
  | (9, ln, _, _, _, _) => match K with
    | .int x :: K' => some (pc + ln, L, .int (-x) :: K', S)
    | _ => none
  | (10, ln, _, _, _, _) => match K with
    | v :: K' => if v.category = 1 then some (pc + ln, L, v :: v :: K', S) else none
    | [] => none
  | (11, ln, _, _, _, _) => match K with
    | v :: K' => if v.category = 1 then some (pc + ln, L, K', S) else none
    | [] => none
  | (12, ln, _, _, _, _) => match K with
    | v :: w :: K' => if v.category = 1 ∧ w.category = 1 then some (pc + ln, L, v :: w :: v :: K', S) else none
    | _ => none
  | (13, ln, _, _, _, _) => match K with
    | v :: w :: K' => if v.category = 1 ∧ w.category = 1 then some (pc + ln, L, v :: w :: v :: w :: K', S) else none
    | _ => none
  | (14, ln, _, _, _, _) => match K with
    | v :: w :: z :: K' => if v.category = 1 ∧ w.category = 1 ∧ z.category = 1 then some (pc + ln, L, v :: w :: z :: v :: K', S) else none
    | _ => none
  | (15, ln, k, t, _, _) => match K with
    | .int x :: K' => some (if av_cmp k x 0 = true then t else pc + ln, L, K', S)
    | _ => none
  | (16, ln, k, t, _, _) => match K with
    | .int y :: .int x :: K' => some (if av_cmp k x y = true then t else pc + ln, L, K', S)
    | _ => none
  | (17, ln, k, t, _, _) => match K with
    | w :: v :: K' => if av_isR v = true ∧ av_isR w = true then some (if (v = w) = (k = 0) then t else pc + ln, L, K', S) else none
    | _ => none
  | (18, ln, _, t, _, _) => match K with
    | .null :: K' => some (t, L, K', S)
    | .ref _ :: K' => some (pc + ln, L, K', S)
    | _ => none
  | (19, ln, _, t, _, _) => match K with
    | .null :: K' => some (pc + ln, L, K', S)
    | .ref _ :: K' => some (t, L, K', S)
    | _ => none
  | (20, _, _, t, _, _) => some (t, L, K, S)
  | (21, _, _, t, lo, ts) => match K with
    | .int x :: K' => if x.toInt < lo.toInt then some (t, L, K', S) else some (ts.getD (x.toInt - lo.toInt).toNat t, L, K', S)
    | _ => none
  | (22, ln, _, _, _, _) => match K with
    | .int x :: K' => some (pc + ln, L, .int x.toInt8.toInt32 :: K', S)
    | _ => none
  | (23, ln, _, _, _, _) => match K with
    | .int x :: K' => some (pc + ln, L, .long x.toInt64 :: K', S)
    | _ => none
  | (24, ln, _, _, _, _) => match K with
    | .long y :: .long x :: K' => some (pc + ln, L, .int (lg_cmp x y) :: K', S)
    | _ => none
  | (30, ln, ci, k, _, _) => match K with
    | .ref a :: K' => if S.1 a = some (.inl ci) then some (pc + ln, L, S.2.1 a k :: K', S) else none
    | _ => none
  | (31, ln, ci, k, _, _) => match K with
    | v :: .ref a :: K' => if S.1 a = some (.inl ci) ∧ av_fits (fT ci k) v = true then some (pc + ln, L, K', av_set S a k v) else none
    | _ => none
  | (32, ln, _, _, _, _) => match K with
    | .ref a :: K' => match S.1 a with
      | some (.inr q) => some (pc + ln, L, .int (Int32.ofNat q.2) :: K', S)
      | _ => none
    | _ => none
  | (33, ln, j, _, _, _) => match K with
    | .int i :: .ref a :: K' => match S.1 a with
      | some (.inr q) => if (q.1 = j ∨ q.1 = j + 50) ∧ av_inb i q.2 = true then some (pc + ln, L, S.2.1 a i.toNatClampNeg :: K', S) else none
      | _ => none
    | _ => none
  | (34, ln, j, _, _, _) => match K with
    | .int x :: .int i :: .ref a :: K' => match S.1 a with
      | some (.inr q) => if q.1 = j ∧ av_inb i q.2 = true then some (pc + ln, L, K', av_set S a i.toNatClampNeg (narrow (aT j) (.int x))) else none
      | _ => none
    | _ => none
  | (35, ln, j, ci, _, _) => match K with
    | .null :: .int i :: .ref a :: K' => match S.1 a with
      | some (.inr q) => if q.1 = j ∧ av_inb i q.2 = true then some (pc + ln, L, K', av_set S a i.toNatClampNeg .null) else none
      | _ => none
    | .ref v :: .int i :: .ref a :: K' => match S.1 a with
      | some (.inr q) => if q.1 = j ∧ av_inb i q.2 = true ∧ S.1 v = some (.inl ci) then some (pc + ln, L, K', av_set S a i.toNatClampNeg (.ref v)) else none
      | _ => none
    | _ => none
  | (36, ln, ci, _, _, _) => some (pc + ln, L, .ref S.2.2.1 :: K, av_new S (.inl ci) (fun k => defaultValue (fT ci k)) (fN ci))
  | (37, ln, j, _, _, _) => match K with
    | .int n :: K' => if 0 ≤ n ∧ n.toNatClampNeg ≤ 65536 then some (pc + ln, L, .ref S.2.2.1 :: K', av_new S (.inr (j, n.toNatClampNeg)) (fun _ => defaultValue (aT j)) n.toNatClampNeg) else none
    | _ => none
  | (38, ln, j, _, _, _) => match K with
    | .int n :: K' => if 0 ≤ n ∧ n.toNatClampNeg ≤ 65536 then some (pc + ln, L, .ref S.2.2.1 :: K', av_new S (.inr (j, n.toNatClampNeg)) (fun _ => .null) n.toNatClampNeg) else none
    | _ => none
  | _ => none
def av_ent (as : List Value) (n : Nat) : av_Ls := as.map some ++ List.replicate (n - as.length) none
def av_rok (ret : Option FieldType) (v : Value) : Bool := match ret with
  | some ty => av_fits ty v
  | none => false
def av_rcv (q : List Nat) (S : av_St) (as : List Value) : Bool := match q, as with
  | 0 :: _, _ => true
  | 1 :: ci :: _, .ref b :: _ => decide (S.1 b = some (.inl ci))
  | 2 :: _, .ref _ :: _ => true
  | _, _ => false
/-- a run: fuel, how deep calls may go, method, place, locals, stack, state -/
def av_run (ext : List Value → av_St → Option (Option Value × av_St)) (mt : Nat → Option av_Mt) : Nat → Nat → Nat → Nat → av_Ls → List Value → av_St → Option (Option Value × av_St)
  | 0, _, _, _, _, _, _ => none
  | n + 1, d, y, pc, L, K, S => match mt y with
    | none => none
    | some M => match M.2.2.2.2 pc with
      | none => none
      | some I => match I.1 with
        | 40 => match d, mt I.2.2.1 with
          | d' + 1, some M' =>
            if I.2.2.2.1 ≤ K.length ∧ K.length ≤ I.2.2.2.1 + 4 ∧ I.2.2.2.1 ≤ M'.2.2.1 ∧ (∀ v ∈ K.take I.2.2.2.1, v.category = 1) ∧ av_rcv I.2.2.2.2.2 S (K.take I.2.2.2.1).reverse = true then
              match av_run ext mt n d' I.2.2.1 0 (av_ent (K.take I.2.2.2.1).reverse M'.2.2.1) [] S with
              | none => none
              | some (v, S1) => av_run ext mt n (d' + 1) y (pc + 3) L (v.toList ++ K.drop I.2.2.2.1) S1
            else none
          | _, _ => none
        | 41 => match d, K with
          | d' + 1, .ref _ :: K' => if K'.length ≤ 4 then av_run ext mt n (d' + 1) y (pc + 3) L K' S else none
          | _, _ => none
        | 45 => match d with
          | d' + 1 => if 8 ≤ d' ∧ I.2.2.2.1 ≤ K.length ∧ K.length ≤ I.2.2.2.1 + 4 then
              match ext (K.take I.2.2.2.1).reverse S with
              | none => none
              | some (v, S1) => if S.2.2.1 ≤ S1.2.2.1 ∧ S.2.2.2 ≤ S1.2.2.2 then av_run ext mt n (d' + 1) y (pc + 3) L (v.toList ++ K.drop I.2.2.2.1) S1 else none
            else none
          | 0 => none
        | 42 => match K with
          | [] => if M.2.2.2.1 = none then some (none, S) else none
          | _ => none
        | 43 => match K with
          | [v] => if av_rok M.2.2.2.1 v = true then some (some v, S) else none
          | _ => none
        | _ => match av_step fT fN aT I pc L K S with
          | none => none
          | some (pc', L', K', S') => av_run ext mt n d y pc' L' K' S'
end AVrun
end
section
/-! THE SMALL MACHINE IS THE MACHINE: what a small state is in the heap -/
def av_K (cl : List vw_C) (D : va_G) (ao : List String) (U : State) : Prop := (∀ (c : Nat) (q : vw_C), cl[c]? = some q → u_Kn U q.1 q.2.1 q.2.2 (D.1 c) (D.2 c)) ∧ ∀ C ∈ ao, va_AO C U
theorem av_K.moved {cl : List vw_C} {D : va_G} {ao : List String} {u U : State} (hvm : u.vm.Alike U.vm) (h : av_K cl D ao u) : av_K cl D ao U := ⟨fun c q hq => u_Kn_moved hvm (h.1 c q hq), fun C hC => va_AO.moved hvm (h.2 C hC)⟩
def av_ob (cl : List vw_C) (D : va_G) (H : Heap) (a ci : Nat) (f : Nat → Value) : Prop := ∃ r : vw_C, cl[ci]? = some r ∧ t_OB a (D.1 ci) r.2.2 (D.2 ci) H f
def av_ar (U : State) (H : Heap) (a n : Nat) (ty : FieldType) (f : Nat → Value) : Prop := ∃ cA : ClassId, H[a]? = some (arrV cA n f) ∧ ArrOfT U cA ty ∧ va_RA U cA ty
def av_R (cl : List vw_C) (aT : Nat → FieldType) (D : va_G) (base : Nat) (U : State) (H : Heap) (S : av_St) : Prop :=
  S.2.2.1 = H.size ∧ base ≤ H.size ∧ (∀ a ci : Nat, S.1 a = some (.inl ci) → base ≤ a ∧ av_ob cl D H a ci (S.2.1 a)) ∧ ∀ a j n : Nat, S.1 a = some (.inr (j, n)) → (j < 50 → base ≤ a) ∧ av_ar U H a n (aT j) (S.2.1 a)
theorem av_ob.kept {cl : List vw_C} {D : va_G} {H H1 : Heap} {a ci : Nat} {f : Nat → Value} (h : av_ob cl D H a ci f) (hq : H1[a]? = H[a]?) : av_ob cl D H1 a ci f := by
  obtain ⟨r, h1, h2⟩ := h
  exact ⟨r, h1, h2.kept hq⟩
theorem av_ob.lt {cl : List vw_C} {D : va_G} {H : Heap} {a ci : Nat} {f : Nat → Value} (h : av_ob cl D H a ci f) : a < H.size := by
  obtain ⟨r, h1, cell, h2, -⟩ := h
  exact (Array.getElem?_eq_some_iff.mp h2).1
theorem av_ar.kept {U : State} {H H1 : Heap} {a n : Nat} {ty : FieldType} {f : Nat → Value} (h : av_ar U H a n ty f) (hq : H1[a]? = H[a]?) : av_ar U H1 a n ty f := by
  obtain ⟨cA, h1, h2⟩ := h
  exact ⟨cA, hq.trans h1, h2⟩
theorem av_ar.lt {U : State} {H : Heap} {a n : Nat} {ty : FieldType} {f : Nat → Value} (h : av_ar U H a n ty f) : a < H.size := by
  obtain ⟨cA, h1, -⟩ := h
  exact (Array.getElem?_eq_some_iff.mp h1).1
theorem av_ar.moved {u U : State} {H : Heap} {a n : Nat} {ty : FieldType} {f : Nat → Value} (hvm : u.vm.Alike U.vm) (h : av_ar u H a n ty f) : av_ar U H a n ty f := by
  obtain ⟨cA, h1, h2, h3⟩ := h
  exact ⟨cA, h1, arrOfT_moved hvm h2, h3.moved hvm⟩
theorem av_R.moved {cl : List vw_C} {aT : Nat → FieldType} {D : va_G} {base : Nat} {u U : State} {H : Heap} {S : av_St} (hvm : u.vm.Alike U.vm) (h : av_R cl aT D base u H S) : av_R cl aT D base U H S :=
  ⟨h.1, h.2.1, h.2.2.1, fun a j n q => ⟨(h.2.2.2 a j n q).1, (h.2.2.2 a j n q).2.moved hvm⟩⟩
theorem av_put_eq (ct : Nat → Nat → Value) (a k : Nat) (v : Value) : av_put ct a k v a = updV (ct a) k v := if_pos rfl
theorem av_put_ne (ct : Nat → Nat → Value) {a b : Nat} (k : Nat) (v : Value) (h : b ≠ a) : av_put ct a k v b = ct b := if_neg h
/-- a cell is written: an object's -/
theorem av_R.seto {cl : List vw_C} {aT : Nat → FieldType} {D : va_G} {base : Nat} {U : State} {H H1 : Heap} {S : av_St} {a k ci : Nat} {v : Value} (h : av_R cl aT D base U H S) (ht : S.1 a = some (.inl ci)) (ho : av_ob cl D H1 a ci (updV (S.2.1 a) k v)) (z : H1.size = H.size) (oq : ∀ q, q ≠ a → H1[q]? = H[q]?) : av_R cl aT D base U H1 (av_set S a k v) := by
  refine ⟨h.1.trans z.symm, by rw [z]; exact h.2.1, fun b cj hb => ?_, fun b j n hb => ?_⟩
  · have hb' : S.1 b = some (.inl cj) := hb
    refine ⟨(h.2.2.1 b cj hb').1, ?_⟩
    by_cases e : b = a
    · subst e
      have e2 : cj = ci := by rw [ht] at hb'; cases hb'; rfl
      subst e2
      show av_ob cl D H1 b cj (av_put S.2.1 b k v b)
      rw [av_put_eq]
      exact ho
    · show av_ob cl D H1 b cj (av_put S.2.1 a k v b)
      rw [av_put_ne _ _ _ e]
      exact (h.2.2.1 b cj hb').2.kept (oq b e)
  · have hb' : S.1 b = some (.inr (j, n)) := hb
    refine ⟨(h.2.2.2 b j n hb').1, ?_⟩
    have e : b ≠ a := fun e => by subst e; rw [ht] at hb'; cases hb'
    show av_ar U H1 b n (aT j) (av_put S.2.1 a k v b)
    rw [av_put_ne _ _ _ e]
    exact (h.2.2.2 b j n hb').2.kept (oq b e)
/-- a cell is written: an array's -/
theorem av_R.seta {cl : List vw_C} {aT : Nat → FieldType} {D : va_G} {base : Nat} {U : State} {H H1 : Heap} {S : av_St} {a k j0 n0 : Nat} {v : Value} (h : av_R cl aT D base U H S) (ht : S.1 a = some (.inr (j0, n0))) (ho : av_ar U H1 a n0 (aT j0) (updV (S.2.1 a) k v)) (z : H1.size = H.size) (oq : ∀ q, q ≠ a → H1[q]? = H[q]?) : av_R cl aT D base U H1 (av_set S a k v) := by
  refine ⟨h.1.trans z.symm, by rw [z]; exact h.2.1, fun b cj hb => ?_, fun b j n hb => ?_⟩
  · have hb' : S.1 b = some (.inl cj) := hb
    refine ⟨(h.2.2.1 b cj hb').1, ?_⟩
    have e : b ≠ a := fun e => by subst e; rw [ht] at hb'; cases hb'
    show av_ob cl D H1 b cj (av_put S.2.1 a k v b)
    rw [av_put_ne _ _ _ e]
    exact (h.2.2.1 b cj hb').2.kept (oq b e)
  · have hb' : S.1 b = some (.inr (j, n)) := hb
    refine ⟨(h.2.2.2 b j n hb').1, ?_⟩
    by_cases e : b = a
    · subst e
      have e2 : (j, n) = (j0, n0) := by rw [ht] at hb'; cases hb'; rfl
      cases e2
      show av_ar U H1 b n0 (aT j0) (av_put S.2.1 b k v b)
      rw [av_put_eq]
      exact ho
    · show av_ar U H1 b n (aT j) (av_put S.2.1 a k v b)
      rw [av_put_ne _ _ _ e]
      exact (h.2.2.2 b j n hb').2.kept (oq b e)
/-- a cell is made -/
theorem av_R.new {cl : List vw_C} {aT : Nat → FieldType} {D : va_G} {base : Nat} {U : State} {H H1 : Heap} {S : av_St} {t : av_Ty} {f : Nat → Value} {w : Nat} (h : av_R cl aT D base U H S) (ho : match t with | .inl ci => av_ob cl D H1 H.size ci f | .inr q => av_ar U H1 H.size q.2 (aT q.1) f) (z : H1.size = H.size + 1) (oq : ∀ q, q < H.size → H1[q]? = H[q]?) : av_R cl aT D base U H1 (av_new S t f w) := by
  have hs : S.2.2.1 = H.size := h.1
  refine ⟨by show S.2.2.1 + 1 = H1.size; rw [hs, z], by rw [z]; exact Nat.le_succ_of_le h.2.1, fun b cj hb => ?_, fun b j n hb => ?_⟩
  · have hb' : (if b = S.2.2.1 then some t else S.1 b) = some (.inl cj) := hb
    show base ≤ b ∧ av_ob cl D H1 b cj (if b = S.2.2.1 then f else S.2.1 b)
    by_cases e : b = S.2.2.1
    · rw [if_pos e] at hb' ⊢
      cases hb'
      rw [e, hs]
      exact ⟨h.2.1, ho⟩
    · rw [if_neg e] at hb' ⊢
      have := h.2.2.1 b cj hb'
      exact ⟨this.1, this.2.kept (oq b this.2.lt)⟩
  · have hb' : (if b = S.2.2.1 then some t else S.1 b) = some (.inr (j, n)) := hb
    show (j < 50 → base ≤ b) ∧ av_ar U H1 b n (aT j) (if b = S.2.2.1 then f else S.2.1 b)
    by_cases e : b = S.2.2.1
    · rw [if_pos e] at hb' ⊢
      cases hb'
      rw [e, hs]
      exact ⟨fun _ => h.2.1, ho⟩
    · rw [if_neg e] at hb' ⊢
      have := h.2.2.2 b j n hb'
      exact ⟨this.1, this.2.kept (oq b this.2.lt)⟩
/-- the locals -/
def av_as : Nat → av_Ls → List (Nat × Value)
  | _, [] => []
  | k, none :: L => av_as (k + 1) L
  | k, some v :: L => (k, v) :: av_as (k + 1) L
theorem av_as_mem : ∀ (L : av_Ls) (k i : Nat) (v : Value), (i, v) ∈ av_as k L ↔ k ≤ i ∧ L[i - k]? = some (some v)
  | [], k, i, v => by simp [av_as]
  | none :: L, k, i, v => by
    rw [av_as, av_as_mem L (k + 1) i v]
    constructor
    · rintro ⟨h1, h2⟩
      refine ⟨by omega, ?_⟩
      rw [show i - k = (i - (k + 1)) + 1 by omega, List.getElem?_cons_succ]
      exact h2
    · rintro ⟨h1, h2⟩
      by_cases e : i = k
      · subst e
        rw [Nat.sub_self, List.getElem?_cons_zero] at h2
        cases h2
      · refine ⟨by omega, ?_⟩
        rw [show i - k = (i - (k + 1)) + 1 by omega, List.getElem?_cons_succ] at h2
        exact h2
  | some w :: L, k, i, v => by
    rw [av_as, List.mem_cons, av_as_mem L (k + 1) i v]
    constructor
    · rintro (h | ⟨h1, h2⟩)
      · cases h
        refine ⟨Nat.le_refl _, ?_⟩
        rw [Nat.sub_self, List.getElem?_cons_zero]
      · refine ⟨by omega, ?_⟩
        rw [show i - k = (i - (k + 1)) + 1 by omega, List.getElem?_cons_succ]
        exact h2
    · rintro ⟨h1, h2⟩
      by_cases e : i = k
      · subst e
        rw [Nat.sub_self, List.getElem?_cons_zero] at h2
        cases h2
        exact Or.inl rfl
      · refine Or.inr ⟨by omega, ?_⟩
        rw [show i - k = (i - (k + 1)) + 1 by omega, List.getElem?_cons_succ] at h2
        exact h2
def av_lv (ls : Array Slot) (n : Nat) (L : av_Ls) : Prop := L.length = n ∧ (∀ (i : Nat) (v : Value), L[i]? = some (some v) → v.category = 1) ∧ lv_has ls n (av_as 0 L)
theorem av_lv.at {ls : Array Slot} {n : Nat} {L : av_Ls} (h : av_lv ls n L) {i : Nat} {v : Value} (hv : av_ld L i = some v) : ls[i]? = some (.val v) := by
  refine h.2.2.2.2 (i, v) ((av_as_mem L 0 i v).mpr ⟨Nat.zero_le _, ?_⟩)
  unfold av_ld at hv
  rw [List.getD_eq_getElem?_getD] at hv
  rw [Nat.sub_zero]
  cases hq : L[i]? with
  | none => rw [hq] at hv; cases hv
  | some o => rw [hq] at hv; exact congrArg some hv
theorem av_lv.put {ls ls' : Array Slot} {n : Nat} {L : av_Ls} {i : Nat} {v : Value} (h : av_lv ls n L) (hi : i < L.length) (hc : v.category = 1) (h' : lv_has ls' n ((i, v) :: (av_as 0 L).filter (fun q => !(q.1 == i) && !(q.1 + 1 == i && q.2.category == 2)))) : av_lv ls' n (L.set i (some v)) := by
  refine ⟨by rw [List.length_set]; exact h.1, fun j w hj => ?_, h'.1, h'.2.1, fun q hq => ?_⟩
  · by_cases e : j = i
    · subst e
      rw [List.getElem?_set_self hi] at hj
      cases hj
      exact hc
    · rw [List.getElem?_set_ne (Ne.symm e)] at hj
      exact h.2.1 j w hj
  · obtain ⟨j, w⟩ := q
    have h1 := ((av_as_mem _ 0 j w).mp hq).2
    rw [Nat.sub_zero] at h1
    by_cases e : j = i
    · subst e
      rw [List.getElem?_set_self hi] at h1
      cases h1
      exact h'.2.2 (j, v) List.mem_cons_self
    · rw [List.getElem?_set_ne (Ne.symm e)] at h1
      refine h'.2.2 (j, w) (List.mem_cons_of_mem _ (List.mem_filter.mpr ⟨(av_as_mem L 0 j w).mpr ⟨Nat.zero_le _, by rw [Nat.sub_zero]; exact h1⟩, ?_⟩))
      have hw : w.category = 1 := h.2.1 j w h1
      simp [e, hw]
end
section
/-! ONE INSTRUCTION OF THE SMALL MACHINE IS ONE OF THE MACHINE -/
def av_dec (M : av_Mt) (pc : Nat) (i : Instr) (ln : Nat) : Bool := decide (decode M.2.1 pc = .ok (i, ln))
theorem av_dec_ok {M : av_Mt} {pc : Nat} {i : Instr} {ln : Nat} (h : av_dec M pc i ln = true) : decode M.2.1 pc = .ok (i, ln) := of_decide_eq_true h
def av_fin (a : Nat) : Fin 4 := match a with
  | 0 => 0
  | 1 => 1
  | 2 => 2
  | _ => 3
theorem av_fin_ok {a : Nat} (h : a < 4) : (av_fin a : Nat) = a := by
  match a, h with
  | 0, _ => rfl
  | 1, _ => rfl
  | 2, _ => rfl
  | 3, _ => rfl
def av_mem (Ts : List Jvm.Cond) (w : Jvm.Cond) : Bool := decide (w ∈ Ts)
theorem av_mem_ok {Ts : List Jvm.Cond} {w : Jvm.Cond} (h : av_mem Ts w = true) : w ∈ Ts := of_decide_eq_true h
def av_off (pc t : Nat) : Int := (t : Int) - (pc : Int)
theorem av_off_ok (pc t : Nat) : (pc : Int) + av_off pc t = (t : Int) := by unfold av_off; omega
/-- is this row the instruction at this place, and do the tables know what it names -/
def av_chk (Ts : List Jvm.Cond) (cl : List vw_C) (fT : Nat → Nat → FieldType) (aT : Nat → FieldType) (ao : List String) (mt : Nat → Option av_Mt) (M : av_Mt) (pc : Nat) (I : av_I) : Bool := match I with
  | (0, ln, a, _, _, _) => if ln = 1 then decide (a < 4) && av_dec M pc (.iload_n (av_fin a)) 1 else decide (ln = 2) && av_dec M pc (.iload a) 2
  | (1, ln, a, _, _, _) => if ln = 1 then decide (a < 4) && av_dec M pc (.aload_n (av_fin a)) 1 else decide (ln = 2) && av_dec M pc (.aload a) 2
  | (2, ln, a, _, _, _) => if ln = 1 then decide (a < 4) && av_dec M pc (.istore_n (av_fin a)) 1 else decide (ln = 2) && av_dec M pc (.istore a) 2
  | (3, ln, a, _, _, _) => if ln = 1 then decide (a < 4) && av_dec M pc (.astore_n (av_fin a)) 1 else decide (ln = 2) && av_dec M pc (.astore a) 2
  | (4, ln, k, idx, v, _) => match k with
    | 0 => decide (ln = 1) && av_dec M pc (.iconst v.toInt) 1
    | 1 => decide (ln = 2) && av_dec M pc (.bipush v.toInt) 2 && decide ((Int8.ofInt v.toInt).toInt32 = v)
    | 2 => decide (ln = 3) && av_dec M pc (.sipush v.toInt) 3 && decide ((Int16.ofInt v.toInt).toInt32 = v)
    | _ => decide (ln = 2) && av_dec M pc (.ldc idx) 2 && av_mem Ts (.constant M.1.cls idx v)
  | (5, ln, _, _, _, _) => decide (ln = 1) && av_dec M pc .aconst_null 1
  | (6, ln, a, _, v, _) => decide (ln = 3) && av_dec M pc (.iinc a v.toInt) 3
  | (7, ln, k, _, _, _) => decide (ln = 1) && decide (k < 10) && av_dec M pc (av_binI k) 1
  | (8, ln, _, _, _, _) => decide (ln = 1) && av_dec M pc .i2c 1
  | (9, ln, _, _, _, _) => decide (ln = 1) && av_dec M pc .ineg 1
  | (10, ln, _, _, _, _) => decide (ln = 1) && av_dec M pc .dup 1
  | (11, ln, _, _, _, _) => decide (ln = 1) && av_dec M pc .pop 1
  | (12, ln, _, _, _, _) => decide (ln = 1) && av_dec M pc .dup_x1 1
  | (13, ln, _, _, _, _) => decide (ln = 1) && av_dec M pc .dup2 1
  | (14, ln, _, _, _, _) => decide (ln = 1) && av_dec M pc .dup_x2 1
  | (15, ln, k, t, _, _) => decide (ln = 3) && decide (k < 6) && av_dec M pc (av_ifI k (av_off pc t)) 3
  | (16, ln, k, t, _, _) => decide (ln = 3) && decide (k < 6) && av_dec M pc (av_icI k (av_off pc t)) 3
  | (17, ln, k, t, _, _) => decide (ln = 3) && decide (k < 2) && av_dec M pc (av_acI k (av_off pc t)) 3
  | (18, ln, _, t, _, _) => decide (ln = 3) && av_dec M pc (.ifnull (av_off pc t)) 3
  | (19, ln, _, t, _, _) => decide (ln = 3) && av_dec M pc (.ifnonnull (av_off pc t)) 3
  | (20, ln, _, t, _, _) => decide (ln = 3) && av_dec M pc (.goto (av_off pc t)) 3
  | (21, ln, _, t, lo, ts) => av_dec M pc (.tableswitch (av_off pc t) lo.toInt (lo.toInt + (ts.length : Int) - 1) (ts.map (av_off pc)).toArray) ln
  | (22, ln, _, _, _, _) => decide (ln = 1) && av_dec M pc .i2b 1
  | (23, ln, _, _, _, _) => decide (ln = 1) && av_dec M pc .i2l 1
  | (24, ln, _, _, _, _) => decide (ln = 1) && av_dec M pc .lcmp 1
  | (30, ln, ci, k, _, q) => match cl[ci]? with
    | some r => decide (ln = 3) && av_dec M pc (.getfield (q.getD 0 0)) 3 && decide (k < r.2.2) && av_mem Ts (.fieldLink M.1.cls (q.getD 0 0) (r.2.1 k).1 (r.2.1 k).2.1 (r.2.1 k).2.2.1)
    | none => false
  | (31, ln, ci, k, _, q) => match cl[ci]? with
    | some r => decide (ln = 3) && av_dec M pc (.putfield (q.getD 0 0)) 3 && decide (k < r.2.2) && av_mem Ts (.fieldLink M.1.cls (q.getD 0 0) (r.2.1 k).1 (r.2.1 k).2.1 (r.2.1 k).2.2.1) && ((r.2.1 k).2.2.2 == false || (decide (M.1.name = "<init>") && decide ((r.2.1 k).1 = M.1.cls)))
    | none => false
  | (32, ln, _, _, _, _) => decide (ln = 1) && av_dec M pc .arraylength 1
  | (33, ln, j, _, _, _) => match av_aldI (aT j) with
    | some i => decide (ln = 1) && av_dec M pc i 1 && decide (aT (j + 50) = aT j)
    | none => false
  | (34, ln, j, _, _, _) => match av_astI (aT j) with
    | some i => decide (ln = 1) && av_dec M pc i 1 && decide (j < 50)
    | none => false
  | (35, ln, j, ci, _, _) => match cl[ci]? with
    | some r => decide (ln = 1) && av_dec M pc .aastore 1 && decide (j < 50) && decide (aT j = .object r.1)
    | none => false
  | (36, ln, ci, _, _, q) => match cl[ci]? with
    | some r => decide (ln = 3) && av_dec M pc (.new (q.getD 0 0)) 3 && av_mem Ts (.classLink M.1.cls (q.getD 0 0) r.1) && av_mem Ts (.instantiable r.1 r.2.2) && av_mem Ts (.initialized r.1)
    | none => false
  | (37, ln, j, _, _, _) => match av_newI (aT j) with
    | some t => decide (ln = 2) && av_dec M pc (.newarray t) 2 && av_mem Ts (.arrayClass (aT j))
    | none => false
  | (38, ln, j, ci, _, q) => match cl[ci]? with
    | some r => decide (ln = 3) && av_dec M pc (.anewarray (q.getD 0 0)) 3 && decide (aT j = .object r.1) && av_mem Ts (.classLink M.1.cls (q.getD 0 0) r.1) && decide (r.1 ∈ ao)
    | none => false
  | (40, ln, y, na, _, q) => match mt y with
    | some N => decide (ln = 3) && av_mem Ts (.methodLink M.1.cls (q.getD 2 0) N.1) && av_mem Ts (.initialized N.1.cls) && av_mem Ts (.code N.1 N.2.1 N.2.2.1 N.2.2.2.1) && plainFor N.1 && decide (N.1.cls ≠ "java/lang/invoke/MethodHandle") && decide (N.1.cls ≠ "java/lang/invoke/VarHandle") && decide (N.2.2.1 ≤ 14) && (match q.getD 0 9 with
      | 0 => av_dec M pc (.invokestatic (q.getD 2 0)) 3 && av_mem Ts (.static N.1) && decide ((parseMethodDescriptor N.1.desc).map (fun d => d.parameters.length) = some na)
      | 1 => av_dec M pc (.invokevirtual (q.getD 2 0)) 3 && av_mem Ts (.instanceMethod N.1) && av_mem Ts (.selects N.1.cls N.1 N.1) && decide ((parseMethodDescriptor N.1.desc).map (fun d => d.parameters.length + 1) = some na) && decide ((cl[q.getD 1 0]?).map (fun r => r.1) = some N.1.cls)
      | 2 => av_dec M pc (.invokespecial (q.getD 2 0)) 3 && av_mem Ts (.instanceMethod N.1) && decide (N.1.name = "<init>") && decide (N.2.2.2.1 = none) && decide ((parseMethodDescriptor N.1.desc).map (fun d => d.parameters.length + 1) = some na)
      | _ => false)
    | none => false
  | (41, ln, _, _, _, q) => decide (ln = 3) && av_dec M pc (.invokespecial (q.getD 0 0)) 3 && av_mem Ts (.methodLink M.1.cls (q.getD 0 0) Lib.objectInit) && av_mem Ts (.instanceMethod Lib.objectInit) && av_mem Ts (.code Lib.objectInit ⟨#[0xb1]⟩ 1 none)
  | (45, ln, _, _, _, q) => decide (ln = 3) && av_dec M pc (.invokestatic (q.getD 0 0)) 3
  | (42, ln, _, _, _, _) => decide (ln = 1) && av_dec M pc .return_ 1
  | (43, ln, k, _, _, _) => decide (ln = 1) && (match M.2.2.2.1 with
    | some (.object _) => av_dec M pc .areturn 1
    | some (.array _) => av_dec M pc .areturn 1
    | some .int => av_dec M pc .ireturn 1
    | some .boolean => av_dec M pc .ireturn 1
    | _ => false)
  | _ => false
/-- what the tables say of the classes -/
def av_Tk (Ts : List Jvm.Cond) (cl : List vw_C) (fT : Nat → Nat → FieldType) (fN : Nat → Nat) : Prop := ∀ (ci : Nat) (q : vw_C), cl[ci]? = some q → (∀ w ∈ u_ws q.1 q.2.1 q.2.2, w ∈ Ts) ∧ (∀ k, k < q.2.2 → parseFieldDescriptor (q.2.1 k).2.2.1 = some (fT ci k)) ∧ (∀ a, a < q.2.2 → ∀ b, b < q.2.2 → a ≠ b → (q.2.1 a).2.1 ≠ (q.2.1 b).2.1) ∧ fN ci = q.2.2
/-- where a method is being walked -/
def av_Cx (Ts : List Jvm.Cond) (cl : List vw_C) (D : va_G) (ao : List String) (base : Nat) (M : av_Mt) (p : Program) (s : State) (m : MethodId) (args : Array Value) (meth : Method) (c : Code) : Prop :=
  p.tables.exec = Jvm.exec ∧ c.code = M.2.1 ∧ c.maxLocals = M.2.2.1 ∧ s.vm.findClass M.1.cls = some m.cls ∧ (∀ w ∈ Ts, w.before args s = true) ∧ av_K cl D ao s ∧ (M.1.name = "<init>" → meth.name = "<init>") ∧ base ≤ s.heap.size
section AVops
variable {p : Program} {l : Launch} {e : Env} {R : Room} {s : State} {m : MethodId} {args : Array Value} {below : List Frame} {meth : Method} {c : Code} {H : Heap} {locs : List Loc} {cells slots : Nat} {Q : State → Prop}
variable {Ts : List Jvm.Cond} {cl : List vw_C} {D : va_G} {ao : List String} {base : Nat} {M : av_Mt} {fT : Nat → Nat → FieldType} {fN : Nat → Nat} {aT : Nat → FieldType} {mt : Nat → Option av_Mt}
variable {pc pc' : Nat} {L L' : av_Ls} {K K' : List Value} {S S' : av_St} {ls : Array Slot}
/-- what is to be shown of the rest -/
def av_go (p : Program) (l : Launch) (e : Env) (R : Room) (s : State) (m : MethodId) (args : Array Value) (below : List Frame) (meth : Method) (c : Code) (Q : State → Prop) (cl : List vw_C) (aT : Nat → FieldType) (D : va_G) (base nL cells slots : Nat) (S : av_St) (cf : av_Cf) : Prop :=
  ∀ (H' : Heap) (locs' : List Loc) (ls' : Array Slot) (cells' slots' : Nat), av_R cl aT D base s H' cf.2.2.2 → va_S (fun q => base ≤ q) s.heap H' locs' → av_lv ls' nL cf.2.1 → cells' + S.2.2.1 = cells + cf.2.2.2.2.2.1 → slots' + S.2.2.2 = slots + cf.2.2.2.2.2.2 → W p l e R s m args below meth c H' locs' cells' slots' Q (F0 m cf.1 ls' cf.2.2.1)
abbrev av_ok (p : Program) (l : Launch) (e : Env) (R : Room) (s : State) (m : MethodId) (args : Array Value) (below : List Frame) (meth : Method) (c : Code) (Q : State → Prop) (Ts : List Jvm.Cond) (cl : List vw_C) (fT : Nat → Nat → FieldType) (fN : Nat → Nat) (aT : Nat → FieldType) (ao : List String) (mt : Nat → Option av_Mt) (D : va_G) (base : Nat) (M : av_Mt) (I : av_I) : Prop :=
  ∀ (pc : Nat) (L : av_Ls) (K : List Value) (S : av_St) (cf : av_Cf) (ls : Array Slot) (H : Heap) (locs : List Loc) (cells slots : Nat), av_chk Ts cl fT aT ao mt M pc I = true → av_step fT fN aT I pc L K S = some cf → av_R cl aT D base s H S → va_S (fun q => base ≤ q) s.heap H locs → av_lv ls M.2.2.1 L → cells + cf.2.2.2.2.2.1 ≤ R.cells + S.2.2.1 → slots + cf.2.2.2.2.2.2 ≤ R.slots + S.2.2.2 → av_go p l e R s m args below meth c Q cl aT D base M.2.2.1 cells slots S cf → W p l e R s m args below meth c H locs cells slots Q (F0 m pc ls K)
theorem av_stay {cells slots nL : Nat} {cf : av_Cf} (g : av_go p l e R s m args below meth c Q cl aT D base nL cells slots S cf) (hs : cf.2.2.2 = S) (hR : av_R cl aT D base s H S) (hS : va_S (fun q => base ≤ q) s.heap H locs) (hl : av_lv ls nL cf.2.1) : W p l e R s m args below meth c H locs cells slots Q (F0 m cf.1 ls cf.2.2.1) :=
  g H locs ls cells slots (by rw [hs]; exact hR) hS hl (by rw [hs]) (by rw [hs])
theorem av_o0 (X : av_Cx Ts cl D ao base M p s m args meth c) {ln a b : Nat} {v : Int32} {q : List Nat} : av_ok p l e R s m args below meth c Q Ts cl fT fN aT ao mt D base M (0, ln, a, b, v, q) := by
  intro pc L K S cf ls H locs cells slots hc hst hR hS hl _ _ g
  simp only [av_step] at hst
  split at hst
  · rename_i x hx
    cases hst
    simp only [av_chk] at hc
    split at hc
    · rename_i h1
      subst h1
      rw [Bool.and_eq_true, decide_eq_true_eq] at hc
      exact lv_iload_n X.1 X.2.1 (av_dec_ok hc.2) (av_fin_ok hc.1) (hl.at hx) (av_stay g rfl hR hS hl)
    · rw [Bool.and_eq_true, decide_eq_true_eq] at hc
      obtain ⟨rfl, hc⟩ := hc
      exact lv_iload X.1 X.2.1 (av_dec_ok hc) (hl.at hx) (av_stay g rfl hR hS hl)
  · cases hst
theorem av_o1 (X : av_Cx Ts cl D ao base M p s m args meth c) {ln a b : Nat} {v : Int32} {q : List Nat} : av_ok p l e R s m args below meth c Q Ts cl fT fN aT ao mt D base M (1, ln, a, b, v, q) := by
  intro pc L K S cf ls H locs cells slots hc hst hR hS hl _ _ g
  simp only [av_step] at hst
  split at hst
  · rename_i w hx
    split at hst
    · rename_i hw
      cases hst
      simp only [av_chk] at hc
      split at hc
      · rename_i h1
        subst h1
        rw [Bool.and_eq_true, decide_eq_true_eq] at hc
        rcases av_isR_or hw with rfl | ⟨z, rfl⟩
        · exact lv_aload_nN X.1 X.2.1 (av_dec_ok hc.2) (av_fin_ok hc.1) (hl.at hx) (av_stay g rfl hR hS hl)
        · exact lv_aload_n X.1 X.2.1 (av_dec_ok hc.2) (av_fin_ok hc.1) (hl.at hx) (av_stay g rfl hR hS hl)
      · rw [Bool.and_eq_true, decide_eq_true_eq] at hc
        obtain ⟨rfl, hc⟩ := hc
        rcases av_isR_or hw with rfl | ⟨z, rfl⟩
        · exact lv_aloadN X.1 X.2.1 (av_dec_ok hc) (hl.at hx) (av_stay g rfl hR hS hl)
        · exact lv_aload X.1 X.2.1 (av_dec_ok hc) (hl.at hx) (av_stay g rfl hR hS hl)
    · cases hst
  · cases hst
theorem av_o2 (X : av_Cx Ts cl D ao base M p s m args meth c) {ln a b : Nat} {v : Int32} {q : List Nat} : av_ok p l e R s m args below meth c Q Ts cl fT fN aT ao mt D base M (2, ln, a, b, v, q) := by
  intro pc L K S cf ls H locs cells slots hc hst hR hS hl _ _ g
  simp only [av_step] at hst
  split at hst
  · rename_i x K'
    split at hst
    · rename_i ha
      cases hst
      have ha' : a < M.2.2.1 := by rw [← hl.1]; exact ha
      simp only [av_chk] at hc
      split at hc
      · rename_i h1
        subst h1
        rw [Bool.and_eq_true, decide_eq_true_eq] at hc
        exact lv_istore_n X.1 X.2.1 (av_dec_ok hc.2) (av_fin_ok hc.1) hl.2.2 ha' rfl (fun ls' hl' => av_stay g rfl hR hS (hl.put ha rfl hl'))
      · rw [Bool.and_eq_true, decide_eq_true_eq] at hc
        obtain ⟨rfl, hc⟩ := hc
        exact lv_istore X.1 X.2.1 (av_dec_ok hc) hl.2.2 ha' rfl (fun ls' hl' => av_stay g rfl hR hS (hl.put ha rfl hl'))
    · cases hst
  · cases hst
theorem av_o3 (X : av_Cx Ts cl D ao base M p s m args meth c) {ln a b : Nat} {v : Int32} {q : List Nat} : av_ok p l e R s m args below meth c Q Ts cl fT fN aT ao mt D base M (3, ln, a, b, v, q) := by
  intro pc L K S cf ls H locs cells slots hc hst hR hS hl _ _ g
  simp only [av_step] at hst
  split at hst
  · rename_i w K'
    split at hst
    · rename_i ha
      obtain ⟨hw, ha⟩ := ha
      cases hst
      have ha' : a < M.2.2.1 := by rw [← hl.1]; exact ha
      simp only [av_chk] at hc
      split at hc
      · rename_i h1
        subst h1
        rw [Bool.and_eq_true, decide_eq_true_eq] at hc
        rcases av_isR_or hw with rfl | ⟨z, rfl⟩
        · exact lv_astore_nN X.1 X.2.1 (av_dec_ok hc.2) (av_fin_ok hc.1) hl.2.2 ha' rfl (fun ls' hl' => av_stay g rfl hR hS (hl.put ha rfl hl'))
        · exact lv_astore_n X.1 X.2.1 (av_dec_ok hc.2) (av_fin_ok hc.1) hl.2.2 ha' rfl (fun ls' hl' => av_stay g rfl hR hS (hl.put ha rfl hl'))
      · rw [Bool.and_eq_true, decide_eq_true_eq] at hc
        obtain ⟨rfl, hc⟩ := hc
        rcases av_isR_or hw with rfl | ⟨z, rfl⟩
        · exact lv_astoreN X.1 X.2.1 (av_dec_ok hc) hl.2.2 ha' rfl (fun ls' hl' => av_stay g rfl hR hS (hl.put ha rfl hl'))
        · exact lv_astore X.1 X.2.1 (av_dec_ok hc) hl.2.2 ha' rfl (fun ls' hl' => av_stay g rfl hR hS (hl.put ha rfl hl'))
    · cases hst
  · cases hst
theorem av_o4 (X : av_Cx Ts cl D ao base M p s m args meth c) {ln a b : Nat} {v : Int32} {q : List Nat} : av_ok p l e R s m args below meth c Q Ts cl fT fN aT ao mt D base M (4, ln, a, b, v, q) := by
  intro pc L K S cf ls H locs cells slots hc hst hR hS hl _ _ g
  simp only [av_step] at hst
  cases hst
  simp only [av_chk] at hc
  split at hc
  · rw [Bool.and_eq_true, decide_eq_true_eq] at hc
    obtain ⟨rfl, hc⟩ := hc
    exact lv_iconst X.1 X.2.1 (av_dec_ok hc) (Int32.ofInt_toInt _) (av_stay g rfl hR hS hl)
  · rw [Bool.and_eq_true, Bool.and_eq_true, decide_eq_true_eq, decide_eq_true_eq] at hc
    obtain ⟨⟨rfl, hc⟩, hv⟩ := hc
    exact lv_bipush X.1 X.2.1 (av_dec_ok hc) hv (av_stay g rfl hR hS hl)
  · rw [Bool.and_eq_true, Bool.and_eq_true, decide_eq_true_eq, decide_eq_true_eq] at hc
    obtain ⟨⟨rfl, hc⟩, hv⟩ := hc
    exact lv_sipush X.1 X.2.1 (av_dec_ok hc) hv (av_stay g rfl hR hS hl)
  · rw [Bool.and_eq_true, Bool.and_eq_true, decide_eq_true_eq] at hc
    obtain ⟨⟨rfl, hc⟩, hv⟩ := hc
    exact lv_ldc X.1 X.2.1 X.2.2.2.1 (X.2.2.2.2.1 _ (av_mem_ok hv)) (av_dec_ok hc) (av_stay g rfl hR hS hl)
theorem av_o5 (X : av_Cx Ts cl D ao base M p s m args meth c) {ln a b : Nat} {v : Int32} {q : List Nat} : av_ok p l e R s m args below meth c Q Ts cl fT fN aT ao mt D base M (5, ln, a, b, v, q) := by
  intro pc L K S cf ls H locs cells slots hc hst hR hS hl _ _ g
  simp only [av_step] at hst
  cases hst
  simp only [av_chk] at hc
  rw [Bool.and_eq_true, decide_eq_true_eq] at hc
  obtain ⟨rfl, hc⟩ := hc
  exact lv_null X.1 X.2.1 (av_dec_ok hc) (av_stay g rfl hR hS hl)
theorem av_ld_mem {L : av_Ls} {a : Nat} {v : Value} (h : av_ld L a = some v) : ∃ k : Nat, (av_as 0 L)[k]? = some (a, v) := by
  have h1 : (a, v) ∈ av_as 0 L := by
    refine (av_as_mem L 0 a v).mpr ⟨Nat.zero_le _, ?_⟩
    unfold av_ld at h
    rw [List.getD_eq_getElem?_getD] at h
    rw [Nat.sub_zero]
    cases hq : L[a]? with
    | none => rw [hq] at h; cases h
    | some o => rw [hq] at h; exact congrArg some h
  exact List.getElem?_of_mem h1
theorem av_ld_lt {L : av_Ls} {a : Nat} {v : Value} (h : av_ld L a = some v) : a < L.length := by
  unfold av_ld at h
  rw [List.getD_eq_getElem?_getD] at h
  cases hq : L[a]? with
  | none => rw [hq] at h; cases h
  | some o => exact (List.getElem?_eq_some_iff.mp hq).1
theorem av_o6 (X : av_Cx Ts cl D ao base M p s m args meth c) {ln a b : Nat} {v : Int32} {q : List Nat} : av_ok p l e R s m args below meth c Q Ts cl fT fN aT ao mt D base M (6, ln, a, b, v, q) := by
  intro pc L K S cf ls H locs cells slots hc hst hR hS hl _ _ g
  simp only [av_step] at hst
  split at hst
  · rename_i x hx
    cases hst
    simp only [av_chk] at hc
    rw [Bool.and_eq_true, decide_eq_true_eq] at hc
    obtain ⟨rfl, hc⟩ := hc
    obtain ⟨k, hk⟩ := av_ld_mem hx
    have ha := av_ld_lt hx
    exact lv_iinc X.1 X.2.1 (av_dec_ok hc) hl.2.2 hk (by rw [Int32.ofInt_toInt]) (by rw [← hl.1]; exact ha) rfl (fun ls' hl' => av_stay g rfl hR hS (hl.put ha rfl hl'))
  · cases hst
theorem av_o7 (X : av_Cx Ts cl D ao base M p s m args meth c) {ln a b : Nat} {v : Int32} {q : List Nat} : av_ok p l e R s m args below meth c Q Ts cl fT fN aT ao mt D base M (7, ln, a, b, v, q) := by
  intro pc L K S cf ls H locs cells slots hc hst hR hS hl _ _ g
  simp only [av_step] at hst
  split at hst
  · rename_i y x K'
    split at hst
    · rename_i z hz
      cases hst
      simp only [av_chk] at hc
      rw [Bool.and_eq_true, Bool.and_eq_true, decide_eq_true_eq, decide_eq_true_eq] at hc
      obtain ⟨⟨rfl, ha⟩, hc⟩ := hc
      have hd := av_dec_ok hc
      have g' := av_stay g rfl hR hS hl
      match a, ha, hz, hd with
      | 0, _, hz, hd => cases hz; exact lv_iadd X.1 X.2.1 hd g'
      | 1, _, hz, hd => cases hz; exact lv_isub X.1 X.2.1 hd g'
      | 2, _, hz, hd => cases hz; exact lv_imul X.1 X.2.1 hd g'
      | 3, _, hz, hd =>
        simp only [av_bin] at hz
        split at hz
        · cases hz
        · rename_i hn; cases hz; exact lv_idiv X.1 X.2.1 hd hn g'
      | 4, _, hz, hd =>
        simp only [av_bin] at hz
        split at hz
        · cases hz
        · rename_i hn; cases hz; exact lv_irem X.1 X.2.1 hd hn g'
      | 5, _, hz, hd => cases hz; exact lv_iand X.1 X.2.1 hd g'
      | 6, _, hz, hd => cases hz; exact lv_ior X.1 X.2.1 hd g'
      | 7, _, hz, hd => cases hz; exact lv_ixor X.1 X.2.1 hd g'
      | 8, _, hz, hd => cases hz; exact lv_ishl X.1 X.2.1 hd g'
      | 9, _, hz, hd => cases hz; exact lv_ishr X.1 X.2.1 hd g'
      | n + 10, ha, _, _ => exact absurd ha (by omega)
    · cases hst
  · cases hst
theorem av_o8 (X : av_Cx Ts cl D ao base M p s m args meth c) {ln a b : Nat} {v : Int32} {q : List Nat} : av_ok p l e R s m args below meth c Q Ts cl fT fN aT ao mt D base M (8, ln, a, b, v, q) := by
  intro pc L K S cf ls H locs cells slots hc hst hR hS hl _ _ g
  simp only [av_step] at hst
  split at hst
  · cases hst
    simp only [av_chk] at hc
    rw [Bool.and_eq_true, decide_eq_true_eq] at hc
    obtain ⟨rfl, hc⟩ := hc
    exact lv_i2c X.1 X.2.1 (av_dec_ok hc) rfl (av_stay g rfl hR hS hl)
  · cases hst
theorem av_o9 (X : av_Cx Ts cl D ao base M p s m args meth c) {ln a b : Nat} {v : Int32} {q : List Nat} : av_ok p l e R s m args below meth c Q Ts cl fT fN aT ao mt D base M (9, ln, a, b, v, q) := by
  intro pc L K S cf ls H locs cells slots hc hst hR hS hl _ _ g
  simp only [av_step] at hst
  split at hst
  · cases hst
    simp only [av_chk] at hc
    rw [Bool.and_eq_true, decide_eq_true_eq] at hc
    obtain ⟨rfl, hc⟩ := hc
    exact lv_ineg X.1 X.2.1 (av_dec_ok hc) (av_stay g rfl hR hS hl)
  · cases hst
theorem av_o10 (X : av_Cx Ts cl D ao base M p s m args meth c) {ln a b : Nat} {v : Int32} {q : List Nat} : av_ok p l e R s m args below meth c Q Ts cl fT fN aT ao mt D base M (10, ln, a, b, v, q) := by
  intro pc L K S cf ls H locs cells slots hc hst hR hS hl _ _ g
  simp only [av_step] at hst
  split at hst
  · split at hst
    · rename_i hw
      cases hst
      simp only [av_chk] at hc
      rw [Bool.and_eq_true, decide_eq_true_eq] at hc
      obtain ⟨rfl, hc⟩ := hc
      exact lv_dup X.1 X.2.1 (av_dec_ok hc) hw (av_stay g rfl hR hS hl)
    · cases hst
  · cases hst
theorem av_o11 (X : av_Cx Ts cl D ao base M p s m args meth c) {ln a b : Nat} {v : Int32} {q : List Nat} : av_ok p l e R s m args below meth c Q Ts cl fT fN aT ao mt D base M (11, ln, a, b, v, q) := by
  intro pc L K S cf ls H locs cells slots hc hst hR hS hl _ _ g
  simp only [av_step] at hst
  split at hst
  · split at hst
    · rename_i hw
      cases hst
      simp only [av_chk] at hc
      rw [Bool.and_eq_true, decide_eq_true_eq] at hc
      obtain ⟨rfl, hc⟩ := hc
      exact lv_pop X.1 X.2.1 (av_dec_ok hc) hw (av_stay g rfl hR hS hl)
    · cases hst
  · cases hst
theorem av_o12 (X : av_Cx Ts cl D ao base M p s m args meth c) {ln a b : Nat} {v : Int32} {q : List Nat} : av_ok p l e R s m args below meth c Q Ts cl fT fN aT ao mt D base M (12, ln, a, b, v, q) := by
  intro pc L K S cf ls H locs cells slots hc hst hR hS hl _ _ g
  simp only [av_step] at hst
  split at hst
  · split at hst
    · rename_i hw
      cases hst
      simp only [av_chk] at hc
      rw [Bool.and_eq_true, decide_eq_true_eq] at hc
      obtain ⟨rfl, hc⟩ := hc
      exact lv_dup_x1 X.1 X.2.1 (av_dec_ok hc) hw.1 hw.2 (av_stay g rfl hR hS hl)
    · cases hst
  · cases hst
theorem av_o13 (X : av_Cx Ts cl D ao base M p s m args meth c) {ln a b : Nat} {v : Int32} {q : List Nat} : av_ok p l e R s m args below meth c Q Ts cl fT fN aT ao mt D base M (13, ln, a, b, v, q) := by
  intro pc L K S cf ls H locs cells slots hc hst hR hS hl _ _ g
  simp only [av_step] at hst
  split at hst
  · split at hst
    · rename_i hw
      cases hst
      simp only [av_chk] at hc
      rw [Bool.and_eq_true, decide_eq_true_eq] at hc
      obtain ⟨rfl, hc⟩ := hc
      exact lv_dup2_11 X.1 X.2.1 (av_dec_ok hc) hw.1 hw.2 (av_stay g rfl hR hS hl)
    · cases hst
  · cases hst
theorem av_o14 (X : av_Cx Ts cl D ao base M p s m args meth c) {ln a b : Nat} {v : Int32} {q : List Nat} : av_ok p l e R s m args below meth c Q Ts cl fT fN aT ao mt D base M (14, ln, a, b, v, q) := by
  intro pc L K S cf ls H locs cells slots hc hst hR hS hl _ _ g
  simp only [av_step] at hst
  split at hst
  · split at hst
    · rename_i hw
      cases hst
      simp only [av_chk] at hc
      rw [Bool.and_eq_true, decide_eq_true_eq] at hc
      obtain ⟨rfl, hc⟩ := hc
      exact lv_dup_x2 X.1 X.2.1 (av_dec_ok hc) hw.1 hw.2.1 hw.2.2 (av_stay g rfl hR hS hl)
    · cases hst
  · cases hst
theorem av_o15 (X : av_Cx Ts cl D ao base M p s m args meth c) {ln a b : Nat} {v : Int32} {q : List Nat} : av_ok p l e R s m args below meth c Q Ts cl fT fN aT ao mt D base M (15, ln, a, b, v, q) := by
  intro pc L K S cf ls H locs cells slots hc hst hR hS hl _ _ g
  simp only [av_step] at hst
  split at hst
  · cases hst
    simp only [av_chk] at hc
    rw [Bool.and_eq_true, Bool.and_eq_true, decide_eq_true_eq, decide_eq_true_eq] at hc
    obtain ⟨⟨rfl, ha⟩, hc⟩ := hc
    have hd := av_dec_ok hc
    have g' := av_stay g rfl hR hS hl
    match a, ha, hd, g' with
    | 0, _, hd, g' => exact lv_if_eq X.1 X.2.1 hd (av_off_ok _ _) (fun h => by rw [if_pos (show av_cmp 0 _ _ = true from decide_eq_true h)] at g'; exact g') (fun h => by rw [if_neg (fun z : av_cmp 0 _ _ = true => h (of_decide_eq_true z))] at g'; exact g')
    | 1, _, hd, g' => exact lv_if_ne X.1 X.2.1 hd (av_off_ok _ _) (fun h => by rw [if_pos (show av_cmp 1 _ _ = true from decide_eq_true h)] at g'; exact g') (fun h => by rw [if_neg (fun z : av_cmp 1 _ _ = true => (of_decide_eq_true z) h)] at g'; exact g')
    | 2, _, hd, g' => exact lv_if_lt X.1 X.2.1 hd (av_off_ok _ _) (fun h => by rw [if_pos (show av_cmp 2 _ _ = true from decide_eq_true h)] at g'; exact g') (fun h => by rw [if_neg (fun z : av_cmp 2 _ _ = true => h (of_decide_eq_true z))] at g'; exact g')
    | 3, _, hd, g' => exact lv_if_ge X.1 X.2.1 hd (av_off_ok _ _) (fun h => by rw [if_pos (show av_cmp 3 _ _ = true from decide_eq_true h)] at g'; exact g') (fun h => by rw [if_neg (fun z : av_cmp 3 _ _ = true => h (of_decide_eq_true z))] at g'; exact g')
    | 4, _, hd, g' => exact lv_if_gt X.1 X.2.1 hd (av_off_ok _ _) (fun h => by rw [if_pos (show av_cmp 4 _ _ = true from decide_eq_true h)] at g'; exact g') (fun h => by rw [if_neg (fun z : av_cmp 4 _ _ = true => h (of_decide_eq_true z))] at g'; exact g')
    | 5, _, hd, g' => exact lv_if_le X.1 X.2.1 hd (av_off_ok _ _) (fun h => by rw [if_pos (show av_cmp 5 _ _ = true from decide_eq_true h)] at g'; exact g') (fun h => by rw [if_neg (fun z : av_cmp 5 _ _ = true => h (of_decide_eq_true z))] at g'; exact g')
    | n + 6, ha, _, _ => exact absurd ha (by omega)
  · cases hst
theorem av_o16 (X : av_Cx Ts cl D ao base M p s m args meth c) {ln a b : Nat} {v : Int32} {q : List Nat} : av_ok p l e R s m args below meth c Q Ts cl fT fN aT ao mt D base M (16, ln, a, b, v, q) := by
  intro pc L K S cf ls H locs cells slots hc hst hR hS hl _ _ g
  simp only [av_step] at hst
  split at hst
  · cases hst
    simp only [av_chk] at hc
    rw [Bool.and_eq_true, Bool.and_eq_true, decide_eq_true_eq, decide_eq_true_eq] at hc
    obtain ⟨⟨rfl, ha⟩, hc⟩ := hc
    have hd := av_dec_ok hc
    have g' := av_stay g rfl hR hS hl
    match a, ha, hd, g' with
    | 0, _, hd, g' => exact lv_icmp_eq X.1 X.2.1 hd (av_off_ok _ _) (fun h => by rw [if_pos (show av_cmp 0 _ _ = true from decide_eq_true h)] at g'; exact g') (fun h => by rw [if_neg (fun z : av_cmp 0 _ _ = true => h (of_decide_eq_true z))] at g'; exact g')
    | 1, _, hd, g' => exact lv_icmp_ne X.1 X.2.1 hd (av_off_ok _ _) (fun h => by rw [if_pos (show av_cmp 1 _ _ = true from decide_eq_true h)] at g'; exact g') (fun h => by rw [if_neg (fun z : av_cmp 1 _ _ = true => (of_decide_eq_true z) h)] at g'; exact g')
    | 2, _, hd, g' => exact lv_icmp_lt X.1 X.2.1 hd (av_off_ok _ _) (fun h => by rw [if_pos (show av_cmp 2 _ _ = true from decide_eq_true h)] at g'; exact g') (fun h => by rw [if_neg (fun z : av_cmp 2 _ _ = true => h (of_decide_eq_true z))] at g'; exact g')
    | 3, _, hd, g' => exact lv_icmp_ge X.1 X.2.1 hd (av_off_ok _ _) (fun h => by rw [if_pos (show av_cmp 3 _ _ = true from decide_eq_true h)] at g'; exact g') (fun h => by rw [if_neg (fun z : av_cmp 3 _ _ = true => h (of_decide_eq_true z))] at g'; exact g')
    | 4, _, hd, g' => exact lv_icmp_gt X.1 X.2.1 hd (av_off_ok _ _) (fun h => by rw [if_pos (show av_cmp 4 _ _ = true from decide_eq_true h)] at g'; exact g') (fun h => by rw [if_neg (fun z : av_cmp 4 _ _ = true => h (of_decide_eq_true z))] at g'; exact g')
    | 5, _, hd, g' => exact lv_icmp_le X.1 X.2.1 hd (av_off_ok _ _) (fun h => by rw [if_pos (show av_cmp 5 _ _ = true from decide_eq_true h)] at g'; exact g') (fun h => by rw [if_neg (fun z : av_cmp 5 _ _ = true => h (of_decide_eq_true z))] at g'; exact g')
    | n + 6, ha, _, _ => exact absurd ha (by omega)
  · cases hst
theorem av_rf {v : Value} (h : av_isR v = true) : ∃ r, v = va_rf r := by
  rcases av_isR_or h with rfl | ⟨a, rfl⟩
  · exact ⟨none, rfl⟩
  · exact ⟨some a, rfl⟩
theorem av_rf_inj {r t : Option Nat} : va_rf r = va_rf t ↔ r = t := by
  cases r <;> cases t <;> simp [va_rf]
theorem av_o17 (X : av_Cx Ts cl D ao base M p s m args meth c) {ln a b : Nat} {v : Int32} {q : List Nat} : av_ok p l e R s m args below meth c Q Ts cl fT fN aT ao mt D base M (17, ln, a, b, v, q) := by
  intro pc L K S cf ls H locs cells slots hc hst hR hS hl _ _ g
  simp only [av_step] at hst
  split at hst
  · rename_i w u K'
    split at hst
    · rename_i hw
      cases hst
      simp only [av_chk] at hc
      rw [Bool.and_eq_true, Bool.and_eq_true, decide_eq_true_eq, decide_eq_true_eq] at hc
      obtain ⟨⟨rfl, ha⟩, hc⟩ := hc
      have hd := av_dec_ok hc
      have g' := av_stay g rfl hR hS hl
      obtain ⟨r1, rfl⟩ := av_rf hw.1
      obtain ⟨r2, rfl⟩ := av_rf hw.2
      match a, ha, hd, g' with
      | 0, _, hd, g' => exact lv_acmp_eq X.1 X.2.1 hd (av_off_ok _ _) (fun h => by rw [if_pos (by simp [av_rf_inj, h])] at g'; exact g') (fun h => by rw [if_neg (by simp [av_rf_inj, h])] at g'; exact g')
      | 1, _, hd, g' => exact lv_acmp_ne X.1 X.2.1 hd (av_off_ok _ _) (fun h => by rw [if_pos (by simp [av_rf_inj, h])] at g'; exact g') (fun h => by rw [if_neg (by simp [av_rf_inj, h])] at g'; exact g')
      | n + 2, ha, _, _ => exact absurd ha (by omega)
    · cases hst
  · cases hst
theorem av_o18 (X : av_Cx Ts cl D ao base M p s m args meth c) {ln a b : Nat} {v : Int32} {q : List Nat} : av_ok p l e R s m args below meth c Q Ts cl fT fN aT ao mt D base M (18, ln, a, b, v, q) := by
  intro pc L K S cf ls H locs cells slots hc hst hR hS hl _ _ g
  simp only [av_step] at hst
  simp only [av_chk] at hc
  rw [Bool.and_eq_true, decide_eq_true_eq] at hc
  obtain ⟨rfl, hc⟩ := hc
  split at hst
  · cases hst
    exact lv_ifnullN X.1 X.2.1 (av_dec_ok hc) (av_off_ok _ _) (av_stay g rfl hR hS hl)
  · cases hst
    exact lv_ifnull X.1 X.2.1 (av_dec_ok hc) (av_stay g rfl hR hS hl)
  · cases hst
theorem av_o19 (X : av_Cx Ts cl D ao base M p s m args meth c) {ln a b : Nat} {v : Int32} {q : List Nat} : av_ok p l e R s m args below meth c Q Ts cl fT fN aT ao mt D base M (19, ln, a, b, v, q) := by
  intro pc L K S cf ls H locs cells slots hc hst hR hS hl _ _ g
  simp only [av_step] at hst
  simp only [av_chk] at hc
  rw [Bool.and_eq_true, decide_eq_true_eq] at hc
  obtain ⟨rfl, hc⟩ := hc
  split at hst
  · cases hst
    exact lv_ifnonnullN X.1 X.2.1 (av_dec_ok hc) (av_stay g rfl hR hS hl)
  · cases hst
    exact lv_ifnonnull X.1 X.2.1 (av_dec_ok hc) (av_off_ok _ _) (av_stay g rfl hR hS hl)
  · cases hst
theorem av_o20 (X : av_Cx Ts cl D ao base M p s m args meth c) {ln a b : Nat} {v : Int32} {q : List Nat} : av_ok p l e R s m args below meth c Q Ts cl fT fN aT ao mt D base M (20, ln, a, b, v, q) := by
  intro pc L K S cf ls H locs cells slots hc hst hR hS hl _ _ g
  simp only [av_step] at hst
  cases hst
  simp only [av_chk] at hc
  rw [Bool.and_eq_true, decide_eq_true_eq] at hc
  obtain ⟨rfl, hc⟩ := hc
  exact lv_goto X.1 X.2.1 (av_dec_ok hc) (av_off_ok _ _) (av_stay g rfl hR hS hl)
theorem av_o21 (X : av_Cx Ts cl D ao base M p s m args meth c) {ln a b : Nat} {v : Int32} {q : List Nat} : av_ok p l e R s m args below meth c Q Ts cl fT fN aT ao mt D base M (21, ln, a, b, v, q) := by
  intro pc L K S cf ls H locs cells slots hc hst hR hS hl _ _ g
  simp only [av_step] at hst
  simp only [av_chk] at hc
  have hd := av_dec_ok hc
  split at hst
  · rename_i x K'
    split at hst
    · rename_i hx
      cases hst
      exact lv_tableOut X.1 X.2.1 hd (Or.inl hx) (av_off_ok _ _) (av_stay g rfl hR hS hl)
    · rename_i hx
      cases hst
      by_cases hh : v.toInt + (q.length : Int) - 1 < x.toInt
      · have e : q.getD (x.toInt - v.toInt).toNat b = b := by
          rw [List.getD_eq_getElem?_getD, List.getElem?_eq_none (by omega)]
          rfl
        have g' := av_stay g rfl hR hS hl
        dsimp only at g'
        rw [e] at g'
        exact lv_tableOut X.1 X.2.1 hd (Or.inr hh) (av_off_ok _ _) g'
      · have hlt : (x.toInt - v.toInt).toNat < q.length := by omega
        have e : q[(x.toInt - v.toInt).toNat]? = some (q.getD (x.toInt - v.toInt).toNat b) := by
          rw [List.getD_eq_getElem?_getD, List.getElem?_eq_getElem hlt]
          rfl
        refine lv_tableIn X.1 X.2.1 hd hx hh (off := av_off pc (q.getD (x.toInt - v.toInt).toNat b)) ?_ (av_off_ok _ _) (av_stay g rfl hR hS hl)
        rw [List.getElem?_toArray, List.getElem?_map, e]
        rfl
  · cases hst
theorem av_o22 (X : av_Cx Ts cl D ao base M p s m args meth c) {ln a b : Nat} {v : Int32} {q : List Nat} : av_ok p l e R s m args below meth c Q Ts cl fT fN aT ao mt D base M (22, ln, a, b, v, q) := by
  intro pc L K S cf ls H locs cells slots hc hst hR hS hl _ _ g
  simp only [av_step] at hst
  split at hst
  · cases hst
    simp only [av_chk] at hc
    rw [Bool.and_eq_true, decide_eq_true_eq] at hc
    obtain ⟨rfl, hc⟩ := hc
    exact lv_i2b X.1 X.2.1 (av_dec_ok hc) rfl (av_stay g rfl hR hS hl)
  · cases hst
theorem av_o23 (X : av_Cx Ts cl D ao base M p s m args meth c) {ln a b : Nat} {v : Int32} {q : List Nat} : av_ok p l e R s m args below meth c Q Ts cl fT fN aT ao mt D base M (23, ln, a, b, v, q) := by
  intro pc L K S cf ls H locs cells slots hc hst hR hS hl _ _ g
  simp only [av_step] at hst
  split at hst
  · cases hst
    simp only [av_chk] at hc
    rw [Bool.and_eq_true, decide_eq_true_eq] at hc
    obtain ⟨rfl, hc⟩ := hc
    exact lv_i2l X.1 X.2.1 (av_dec_ok hc) rfl (av_stay g rfl hR hS hl)
  · cases hst
theorem av_o24 (X : av_Cx Ts cl D ao base M p s m args meth c) {ln a b : Nat} {v : Int32} {q : List Nat} : av_ok p l e R s m args below meth c Q Ts cl fT fN aT ao mt D base M (24, ln, a, b, v, q) := by
  intro pc L K S cf ls H locs cells slots hc hst hR hS hl _ _ g
  simp only [av_step] at hst
  split at hst
  · cases hst
    simp only [av_chk] at hc
    rw [Bool.and_eq_true, decide_eq_true_eq] at hc
    obtain ⟨rfl, hc⟩ := hc
    exact W.lcmp X.1 X.2.1 (av_dec_ok hc) (av_stay g rfl hR hS hl)
  · cases hst
theorem av_o30 (T : av_Tk Ts cl fT fN) (X : av_Cx Ts cl D ao base M p s m args meth c) {ln a b : Nat} {v : Int32} {q : List Nat} : av_ok p l e R s m args below meth c Q Ts cl fT fN aT ao mt D base M (30, ln, a, b, v, q) := by
  intro pc L K S cf ls H locs cells slots hc hst hR hS hl _ _ g
  simp only [av_step] at hst
  split at hst
  · rename_i z K'
    split at hst
    · rename_i hz
      cases hst
      simp only [av_chk] at hc
      split at hc
      · rename_i r hr
        simp only [Bool.and_eq_true, decide_eq_true_eq] at hc
        obtain ⟨⟨⟨rfl, hc⟩, hk⟩, hw⟩ := hc
        obtain ⟨-, r', hr', cell, q1, q2, q3, q4⟩ := hR.2.2.1 z a hz
        have e1 : r' = r := Option.some.inj (hr'.symm.trans hr)
        subst e1
        obtain ⟨hSl, hfc, kC, hkC, hkind⟩ := X.2.2.2.2.2.1.1 a _ hr
        obtain ⟨cf, kf, fi, f, hi, hsl⟩ := hSl b hk
        refine W.getf X.1 X.2.1 X.2.2.2.1 (X.2.2.2.2.1 _ (av_mem_ok hw)) hi (u_facts hfc hkC (u_lays X.2.2.2.2.1 (T a _ hr).1 hk) hi).1 q1 (by rw [q3]; exact fun h => by cases h) (v := S.2.1 z b) ?_ rfl rfl (av_dec_ok hc) (av_stay g rfl hR hS hl)
        rw [hsl]
        exact q4 b hk
      · cases hc
    · cases hst
  · cases hst
theorem av_apart (T : av_Tk Ts cl fT fN) (X : av_Cx Ts cl D ao base M p s m args meth c) {ci : Nat} {r : vw_C} (hr : cl[ci]? = some r) : ∀ x y, x < r.2.2 → y < r.2.2 → x ≠ y → (D.2 ci) x ≠ (D.2 ci) y := by
  obtain ⟨C, Tb, N⟩ := r
  exact va_apart (own := M.1.cls) (tys := []) X.2.2.2.2.1 (T ci _ hr).1 (fT ci) (T ci _ hr).2.1 (T ci _ hr).2.2.1 (show va_K D cl [] s from ⟨X.2.2.2.2.2.1.1, fun k q h => by simp at h⟩) hr
theorem av_o31 (T : av_Tk Ts cl fT fN) (X : av_Cx Ts cl D ao base M p s m args meth c) {ln a b : Nat} {v : Int32} {q : List Nat} : av_ok p l e R s m args below meth c Q Ts cl fT fN aT ao mt D base M (31, ln, a, b, v, q) := by
  intro pc L K S cf ls H locs cells slots hc hst hR hS hl _ _ g
  simp only [av_step] at hst
  split at hst
  · rename_i w z K'
    split at hst
    · rename_i hz
      obtain ⟨hz, hw⟩ := hz
      cases hst
      simp only [av_chk] at hc
      split at hc
      · rename_i r hr
        simp only [Bool.and_eq_true, decide_eq_true_eq] at hc
        obtain ⟨⟨⟨⟨rfl, hc⟩, hk⟩, hwd⟩, hfin⟩ := hc
        have hap := av_apart T X hr
        obtain ⟨hzb, r', hr', cell, q1, q2, q3, q4⟩ := hR.2.2.1 z a hz
        have e1 : r' = r := Option.some.inj (hr'.symm.trans hr)
        subst e1
        obtain ⟨hSl, hfc, kC, hkC, hkind⟩ := X.2.2.2.2.2.1.1 a _ hr
        obtain ⟨cf, kf, fi, f, hi, hsl⟩ := hSl b hk
        have hts := X.2.2.2.2.1
        have hin := (T a _ hr).1
        have hst := (u_facts hfc hkC (u_lays hts hin hk) hi).1
        have hd := (T a _ hr).2.1 b hk
        obtain ⟨f1, f2⟩ := av_fits_ok hw
        have go : ∀ H' : Heap, H'[z]? = some (cell.setSlot f.slot w) → H'.size = H.size → (∀ q, q ≠ z → H'[q]? = H[q]?) → W p l e R s m args below meth c H' (locs ++ [⟨z, f.slot⟩]) cells slots Q (F0 m (pc + 3) ls K') := by
          intro H' e1 e2 e3
          rw [hsl] at e1
          exact g H' _ ls cells slots (hR.seto hz ⟨r', hr', _, e1, q2, q3, t_set q4 hap hk w⟩ e2 e3) (hS.put e2 e3 hzb) hl rfl rfl
        by_cases hff : (r'.2.1 b).2.2.2 = false
        · have hlay := hts _ (hin _ (u_in_lay hk))
          unfold u_lay at hlay
          rw [if_neg (by rw [hff]; decide)] at hlay
          have h6 := u_store hfc hkC hkind hlay hi hd f1 f2
          exact W.putK X.1 X.2.1 (f := f) ⟨X.2.2.2.1, hts _ (av_mem_ok hwd), ⟨_, _, _, hi⟩, hst⟩ (by rw [q2]; exact h6) q1 q3 (by rw [hsl]; exact k2_hasslot (q4 b hk)) rfl rfl (av_dec_ok hc) go
        · have hff' : (r'.2.1 b).2.2.2 = true := by simpa using hff
          have hfin' : M.1.name = "<init>" ∧ (r'.2.1 b).1 = M.1.cls := by
            simpa [hff'] using hfin
          have hlay := hts _ (hin _ (u_in_lay hk))
          unfold u_lay at hlay
          rw [if_pos hff'] at hlay
          have hcf : m.cls = cf := by
            obtain ⟨_, _, c', _, _, _, -, -, hf', -, -, -, hown2, -⟩ := Cond.laysFinal_spec hlay
            have e1 : c' = cf := by have := hi.symm.trans hf'; simp at this; exact this.1.symm
            rw [hfin'.2] at hown2
            rw [← e1]; exact Option.some.inj (X.2.2.2.1.symm.trans hown2)
          have h6 := u_fits hfc hkC hkind (Or.inr hlay) hi hd f1 f2
          exact W.putFinK X.1 X.2.1 X.2.2.2.1 (hts _ (av_mem_ok hwd)) hi hst hcf (X.2.2.2.2.2.2.1 hfin'.1) (by rw [q2]; exact h6) q1 q3 (by rw [hsl]; exact k2_hasslot (q4 b hk)) rfl rfl (av_dec_ok hc) go
      · cases hc
    · cases hst
  · cases hst
theorem av_o32 (X : av_Cx Ts cl D ao base M p s m args meth c) {ln a b : Nat} {v : Int32} {q : List Nat} : av_ok p l e R s m args below meth c Q Ts cl fT fN aT ao mt D base M (32, ln, a, b, v, q) := by
  intro pc L K S cf ls H locs cells slots hc hst hR hS hl _ _ g
  simp only [av_step] at hst
  split at hst
  · rename_i z K'
    split at hst
    · rename_i t ht
      obtain ⟨j, n⟩ := t
      cases hst
      simp only [av_chk] at hc
      rw [Bool.and_eq_true, decide_eq_true_eq] at hc
      obtain ⟨rfl, hc⟩ := hc
      obtain ⟨-, cA, h1, h2, h3⟩ := hR.2.2.2 z j n ht
      exact W.alen (n := Int32.ofNat n) X.1 X.2.1 h1 (h2 n (S.2.1 z)) (by rw [arrV_size] <;> rfl) rfl rfl (av_dec_ok hc) (av_stay g rfl hR hS hl)
    · cases hst
  · cases hst
theorem av_o33 (X : av_Cx Ts cl D ao base M p s m args meth c) {ln a b : Nat} {v : Int32} {q : List Nat} : av_ok p l e R s m args below meth c Q Ts cl fT fN aT ao mt D base M (33, ln, a, b, v, q) := by
  intro pc L K S cf ls H locs cells slots hc hst hR hS hl _ _ g
  simp only [av_step] at hst
  split at hst
  · rename_i i z K'
    split at hst
    · rename_i t ht
      obtain ⟨j, n⟩ := t
      split at hst
      · rename_i hij
        obtain ⟨hj, hin⟩ := hij
        cases hst
        have hin := av_inb_ok hin
        have hlt : i.toNatClampNeg < n := Nat.not_le.mp fun q => hin (Or.inr q)
        obtain ⟨-, cA, h1, h2, h3⟩ := hR.2.2.2 z j n ht
        have g' := av_stay g rfl hR hS hl
        have hin' : ¬ (i < 0 ∨ (arrV cA n (S.2.1 z)).slots.size ≤ i.toNatClampNeg) := by rw [arrV_size]; exact hin
        have hv : (arrV cA n (S.2.1 z)).slots[i.toNatClampNeg]? = some (S.2.1 z i.toNatClampNeg) := arrV_read _ _ hlt
        have hkn : (arrV cA n (S.2.1 z)).vm ≠ .unknown := fun h => by cases h
        simp only [av_chk] at hc
        split at hc
        · rename_i ins hins
          simp only [Bool.and_eq_true, decide_eq_true_eq] at hc
          obtain ⟨⟨rfl, hc⟩, h50⟩ := hc
          have hd := av_dec_ok hc
          have hT : aT j = aT a := by
            rcases hj with h | h
            · have h : j = a := h
              rw [h]
            · have h : j = a + 50 := h
              rw [h]
              exact h50
          rw [hT] at h2
          have h2' := h2 n (S.2.1 z)
          cases hty : aT a with
          | int =>
            rw [hty] at hins h2'
            cases hins
            exact W.iald X.1 X.2.1 h1 h2' hkn hin' hv rfl rfl hd g'
          | char =>
            rw [hty] at hins h2'
            cases hins
            exact W.cald X.1 X.2.1 h1 h2' hkn hin' hv rfl rfl hd g'
          | boolean =>
            rw [hty] at hins h2'
            cases hins
            exact W.zald X.1 X.2.1 h1 h2' hkn hin' hv rfl rfl hd g'
          | object C =>
            rw [hty] at hins h2'
            cases hins
            exact W.aald X.1 X.2.1 h1 h2' rfl hkn hin' hv rfl rfl hd g'
          | byte =>
            rw [hty] at hins h2'
            cases hins
            exact W.bald X.1 X.2.1 h1 h2' hkn hin' hv rfl rfl hd g'
          | double => rw [hty] at hins; cases hins
          | float => rw [hty] at hins; cases hins
          | long =>
            rw [hty] at hins h2'
            cases hins
            exact W.lald X.1 X.2.1 h1 h2' hkn hin' hv rfl rfl hd g'
          | short => rw [hty] at hins; cases hins
          | array _ => rw [hty] at hins; cases hins
        · cases hc
      · cases hst
    · cases hst
  · cases hst
theorem av_o34 (X : av_Cx Ts cl D ao base M p s m args meth c) {ln a b : Nat} {v : Int32} {q : List Nat} : av_ok p l e R s m args below meth c Q Ts cl fT fN aT ao mt D base M (34, ln, a, b, v, q) := by
  intro pc L K S cf ls H locs cells slots hc hst hR hS hl _ _ g
  simp only [av_step] at hst
  split at hst
  · rename_i x i z K'
    split at hst
    · rename_i t ht
      obtain ⟨j, n⟩ := t
      split at hst
      · rename_i hij
        obtain ⟨hj, hin⟩ := hij
        have hj : j = a := hj
        subst hj
        cases hst
        have hin := av_inb_ok hin
        obtain ⟨hzb, cA, h1, h2, h3⟩ := hR.2.2.2 z j n ht
        have h2' := h2 n (S.2.1 z)
        have hin' : ¬ (i < 0 ∨ (arrV cA n (S.2.1 z)).slots.size ≤ i.toNatClampNeg) := by rw [arrV_size]; exact hin
        have hkn : (arrV cA n (S.2.1 z)).vm ≠ .unknown := fun h => by cases h
        simp only [av_chk] at hc
        split at hc
        · rename_i ins hins
          simp only [Bool.and_eq_true, decide_eq_true_eq] at hc
          obtain ⟨⟨rfl, hc⟩, h50⟩ := hc
          have hd := av_dec_ok hc
          have go : ∀ H' : Heap, H'[z]? = some ((arrV cA n (S.2.1 z)).setSlot i.toNatClampNeg (narrow (aT j) (.int x))) → H'.size = H.size → (∀ q, q ≠ z → H'[q]? = H[q]?) → W p l e R s m args below meth c H' (locs ++ [⟨z, i.toNatClampNeg⟩]) cells slots Q (F0 m (pc + 1) ls K') := by
            intro H' e1 e2 e3
            rw [arrV_store] at e1
            exact g H' _ ls cells slots (hR.seta ht ⟨cA, e1, h2, h3⟩ e2 e3) (hS.put e2 e3 (hzb h50)) hl rfl rfl
          cases hty : aT j with
          | int =>
            rw [hty] at hins h2' go
            cases hins
            exact W.iast X.1 X.2.1 h1 h2' hkn hin' rfl rfl hd go
          | char =>
            rw [hty] at hins h2' go
            cases hins
            exact W.cast X.1 X.2.1 h1 h2' hkn hin' rfl rfl hd go
          | boolean =>
            rw [hty] at hins h2' go
            cases hins
            exact W.zast X.1 X.2.1 h1 h2' hkn hin' rfl rfl hd go
          | object C => rw [hty] at hins; cases hins
          | byte =>
            rw [hty] at hins h2' go
            cases hins
            exact W.bast X.1 X.2.1 h1 h2' hkn hin' rfl rfl hd go
          | double => rw [hty] at hins; cases hins
          | float => rw [hty] at hins; cases hins
          | long => rw [hty] at hins; cases hins
          | short => rw [hty] at hins; cases hins
          | array _ => rw [hty] at hins; cases hins
        · cases hc
      · cases hst
    · cases hst
  · cases hst
theorem av_o35 (X : av_Cx Ts cl D ao base M p s m args meth c) {ln a b : Nat} {v : Int32} {q : List Nat} : av_ok p l e R s m args below meth c Q Ts cl fT fN aT ao mt D base M (35, ln, a, b, v, q) := by
  intro pc L K S cf ls H locs cells slots hc hst hR hS hl _ _ g
  simp only [av_chk] at hc
  split at hc
  · rename_i r hr
    simp only [Bool.and_eq_true, decide_eq_true_eq] at hc
    obtain ⟨⟨⟨rfl, hc⟩, h50⟩, hty⟩ := hc
    have hd := av_dec_ok hc
    simp only [av_step] at hst
    split at hst
    · rename_i i z K'
      split at hst
      · rename_i t ht
        obtain ⟨j, n⟩ := t
        split at hst
        · rename_i hij
          obtain ⟨hj, hin⟩ := hij
          have hj : j = a := hj
          subst hj
          cases hst
          have hin := av_inb_ok hin
          obtain ⟨hzb, cA, h1, h2, h3⟩ := hR.2.2.2 z j n ht
          have h2' := h2 n (S.2.1 z)
          rw [hty] at h2'
          have hin' : ¬ (i < 0 ∨ (arrV cA n (S.2.1 z)).slots.size ≤ i.toNatClampNeg) := by rw [arrV_size]; exact hin
          have hkn : (arrV cA n (S.2.1 z)).vm ≠ .unknown := fun h => by cases h
          refine va_WaastN X.1 X.2.1 h1 h2' hkn hin' rfl rfl hd (fun H' e1 e2 e3 => ?_)
          rw [arrV_store] at e1
          exact g H' _ ls cells slots (hR.seta ht ⟨cA, e1, h2, h3⟩ e2 e3) (hS.put e2 e3 (hzb h50)) hl rfl rfl
        · cases hst
      · cases hst
    · rename_i w i z K'
      split at hst
      · rename_i t ht
        obtain ⟨j, n⟩ := t
        split at hst
        · rename_i hij
          obtain ⟨hj, hin, hw⟩ := hij
          have hj : j = a := hj
          subst hj
          cases hst
          have hin := av_inb_ok hin
          have hlt : i.toNatClampNeg < n := Nat.not_le.mp fun q => hin (Or.inr q)
          have h0 : ¬ i < 0 := fun q => hin (Or.inl q)
          obtain ⟨hzb, cA, h1, h2, h3⟩ := hR.2.2.2 z j n ht
          obtain ⟨-, r', hr', cellV, g1, g2, g3, -⟩ := hR.2.2.1 w b hw
          have hcls := (X.2.2.2.2.2.1.1 b r hr).2
          have h3' := h3
          rw [hty] at h3'
          obtain ⟨kA, comp, k1, k2, k3, -⟩ := h3'
          have hcomp : comp = D.1 b := Option.some.inj (k3.symm.trans hcls.1)
          subst hcomp
          obtain ⟨kC, hkC, -⟩ := hcls.2
          refine W.aast X.1 X.2.1 h1 (fun q h => by cases h) (fun h => by cases h) k1 k2 rfl hkC ⟨h0, by rw [arrV_size]; exact hlt⟩ g1 (fun q h => by rw [g3] at h; cases h) (by rw [g2]; exact hkC) (by rw [g2]; exact va_assign hcls) rfl rfl hd (fun H' e1 e2 e3 => ?_)
          rw [arrV_store] at e1
          exact g H' _ ls cells slots (hR.seta ht ⟨cA, e1, h2, h3⟩ e2 e3) (hS.put e2 e3 (hzb h50)) hl rfl rfl
        · cases hst
      · cases hst
    · cases hst
  · cases hc
theorem av_S.grow {A : Nat → Prop} {H0 H H1 : Heap} {locs : List Loc} (h : va_S A H0 H locs) (z : H1.size = H.size + 1) (oq : ∀ q, q < H.size → H1[q]? = H[q]?) : va_S A H0 H1 locs :=
  ⟨Nat.le_trans h.1 (by omega), fun x h1 h2 => (oq x (Nat.lt_of_lt_of_le h1 h.1)).trans (h.2.1 x h1 h2), h.2.2⟩
theorem av_o36 (T : av_Tk Ts cl fT fN) (X : av_Cx Ts cl D ao base M p s m args meth c) {ln a b : Nat} {v : Int32} {q : List Nat} : av_ok p l e R s m args below meth c Q Ts cl fT fN aT ao mt D base M (36, ln, a, b, v, q) := by
  intro pc L K S cf ls H locs cells slots hc hst hR hS hl hrc hrs g
  simp only [av_step] at hst
  cases hst
  simp only [av_chk] at hc
  split at hc
  · rename_i r hr
    simp only [Bool.and_eq_true, decide_eq_true_eq] at hc
    obtain ⟨⟨⟨⟨rfl, hc⟩, hw1⟩, hw2⟩, hw3⟩ := hc
    have hts := X.2.2.2.2.1
    have hKn := X.2.2.2.2.2.1.1 a r hr
    have hN : fN a = r.2.2 := (T a r hr).2.2.2
    have hrc' : cells + (S.2.2.1 + 1) ≤ R.cells + S.2.2.1 := hrc
    have hrs' : slots + (S.2.2.2 + fN a) ≤ R.slots + S.2.2.2 := hrs
    have hsz : S.2.2.1 = H.size := hR.1
    refine W.newcK X.1 X.2.1 X.2.2.2.1 (hts _ (av_mem_ok hw1)) (hts _ (av_mem_ok hw2)) (hts _ (av_mem_ok hw3)) rfl (av_dec_ok hc) (by omega) (by omega) hKn.2.1 hsz.symm fun H1 kC hkC e1 z1 o1 => ?_
    rw [hsz] at e1 z1 o1
    refine g H1 _ ls _ _ (hR.new (t := .inl a) ?_ z1 o1) (av_S.grow hS z1 o1) hl (by show cells + 1 + S.2.2.1 = cells + (S.2.2.1 + 1); omega) (by show slots + r.2.2 + S.2.2.2 = slots + (S.2.2.2 + fN a); omega)
    exact ⟨r, hr, u_born (fT a) hts (T a r hr).1 hKn hkC e1 (T a r hr).2.1⟩
  · cases hc
theorem av_o37 (X : av_Cx Ts cl D ao base M p s m args meth c) {ln a b : Nat} {v : Int32} {q : List Nat} : av_ok p l e R s m args below meth c Q Ts cl fT fN aT ao mt D base M (37, ln, a, b, v, q) := by
  intro pc L K S cf ls H locs cells slots hc hst hR hS hl hrc hrs g
  simp only [av_step] at hst
  split at hst
  · rename_i n K'
    split at hst
    · rename_i hn
      cases hst
      simp only [av_chk] at hc
      split at hc
      · rename_i t ht
        simp only [Bool.and_eq_true, decide_eq_true_eq] at hc
        obtain ⟨⟨rfl, hc⟩, hw⟩ := hc
        have hts := X.2.2.2.2.1
        have hsz : S.2.2.1 = H.size := hR.1
        have hrc' : cells + (S.2.2.1 + 1) ≤ R.cells + S.2.2.1 := hrc
        have hrs' : slots + (S.2.2.2 + n.toNatClampNeg) ≤ R.slots + S.2.2.2 := hrs
        have hn0 : ¬ n < 0 := by
          have := hn.1
          rw [Int32.le_iff_toInt_le] at this
          rw [Int32.lt_iff_toInt_lt]
          omega
        have hty : newarray.typeOf t = aT a := by
          cases hq : aT a <;> rw [hq] at ht <;> cases ht <;> rfl
        have hcb : componentBytes (aT a) ≤ 8 := by
          rw [← hty]
          cases hq : aT a <;> rw [hq] at ht <;> cases ht <;> decide
        refine va_newaK X.1 X.2.1 (by rw [hty]; exact hts _ (av_mem_ok hw)) rfl (av_dec_ok hc) rfl hn0 rfl (by rw [hty]; exact Nat.le_trans (Nat.mul_le_mul hn.2 hcb) (by decide)) (by omega) (by omega) hsz.symm fun H1 cA e1 z1 o1 hAr hNm => ?_
        rw [hsz] at e1 z1 o1
        rw [hty] at e1 hAr hNm
        refine g H1 _ ls _ _ (hR.new (t := .inr (a, n.toNatClampNeg)) ?_ z1 o1) (av_S.grow hS z1 o1) hl (by show cells + 1 + S.2.2.1 = cells + (S.2.2.1 + 1); omega) (by show slots + n.toNatClampNeg + S.2.2.2 = slots + (S.2.2.2 + n.toNatClampNeg); omega)
        refine ⟨cA, e1, hAr, ?_⟩
        cases hq : aT a <;> rw [hq] at ht hNm <;> cases ht <;> exact hNm
      · cases hc
    · cases hst
  · cases hst
theorem av_o38 (X : av_Cx Ts cl D ao base M p s m args meth c) {ln a b : Nat} {v : Int32} {q : List Nat} : av_ok p l e R s m args below meth c Q Ts cl fT fN aT ao mt D base M (38, ln, a, b, v, q) := by
  intro pc L K S cf ls H locs cells slots hc hst hR hS hl hrc hrs g
  simp only [av_step] at hst
  split at hst
  · rename_i n K'
    split at hst
    · rename_i hn
      cases hst
      simp only [av_chk] at hc
      split at hc
      · rename_i r hr
        simp only [Bool.and_eq_true, decide_eq_true_eq] at hc
        obtain ⟨⟨⟨⟨rfl, hc⟩, hty⟩, hw⟩, hao⟩ := hc
        have hts := X.2.2.2.2.1
        have hsz : S.2.2.1 = H.size := hR.1
        have hrc' : cells + (S.2.2.1 + 1) ≤ R.cells + S.2.2.1 := hrc
        have hrs' : slots + (S.2.2.2 + n.toNatClampNeg) ≤ R.slots + S.2.2.2 := hrs
        have hn0 : ¬ n < 0 := by
          have := hn.1
          rw [Int32.le_iff_toInt_le] at this
          rw [Int32.lt_iff_toInt_lt]
          omega
        refine W.anew X.1 X.2.1 X.2.2.2.1 (hts _ (av_mem_ok hw)) (va_AO.use (X.2.2.2.2.2.1.2 r.1 hao)) rfl (av_dec_ok hc) rfl hn0 (by have := hn.2; omega) (by omega) (by omega) fun cA kA comp f1 f2 f3 f4 => ?_
        generalize hH1 : H.push ({ cls := cA, slots := Array.replicate n.toNatClampNeg .null, vm := .none } : Cell) = H1
        have z1 : H1.size = H.size + 1 := by rw [← hH1, Array.size_push]
        have e1 : H1[H.size]? = some (arrV cA n.toNatClampNeg (fun _ => .null)) := by rw [← hH1, Array.getElem?_push_size, ← arrV_new]
        have o1 : ∀ q : Nat, q < H.size → H1[q]? = H[q]? := fun q hq => by rw [← hH1, Array.getElem?_push, if_neg (Nat.ne_of_lt hq)]
        have hAr : ArrOfT s cA (.object r.1) := fun N z => ⟨(fun k h => by cases h), kA, f2, comp, f3⟩
        rw [← hsz]
        refine g H1 _ ls _ _ (hR.new (t := .inr (a, n.toNatClampNeg)) ?_ z1 o1) (av_S.grow hS z1 o1) hl (by show cells + 1 + S.2.2.1 = cells + (S.2.2.1 + 1); omega) (by show slots + n.toNatClampNeg + S.2.2.2 = slots + (S.2.2.2 + n.toNatClampNeg); omega)
        show av_ar s H1 H.size n.toNatClampNeg (aT a) _
        rw [hty]
        exact ⟨cA, e1, hAr, kA, comp, f2, f3, f4, f1⟩
      · cases hc
    · cases hst
  · cases hst
end AVops
end
section
/-! A RUN OF THE SMALL MACHINE IS A RUN OF THE MACHINE -/
section AVsim
variable {fT : Nat → Nat → FieldType} {fN : Nat → Nat} {aT : Nat → FieldType} {mt : Nat → Option av_Mt} {ext : List Value → av_St → Option (Option Value × av_St)}
theorem av_step_grow {I : av_I} {pc : Nat} {L : av_Ls} {K : List Value} {S : av_St} {cf : av_Cf} (h : av_step fT fN aT I pc L K S = some cf) : S.2.2.1 ≤ cf.2.2.2.2.2.1 ∧ S.2.2.2 ≤ cf.2.2.2.2.2.2 := by
  unfold av_step at h
  split at h <;> (repeat' split at h) <;> first | (cases h; done) | (cases h; exact ⟨Nat.le_refl _, Nat.le_refl _⟩) | (cases h; exact ⟨Nat.le_succ _, Nat.le_add_right _ _⟩)
theorem av_run_grow : ∀ (n d y pc : Nat) (L : av_Ls) (K : List Value) (S : av_St) (r : Option Value) (S' : av_St), av_run fT fN aT ext mt n d y pc L K S = some (r, S') → S.2.2.1 ≤ S'.2.2.1 ∧ S.2.2.2 ≤ S'.2.2.2
  | 0, d, y, pc, L, K, S, r, S', h => by cases h
  | n + 1, d, y, pc, L, K, S, r, S', h => by
    unfold av_run at h
    split at h
    · cases h
    · split at h
      · cases h
      · split at h
        · split at h
          · split at h
            · split at h
              · cases h
              · rename_i v S1 h1
                have a1 := av_run_grow n _ _ _ _ _ _ _ _ h1
                have a2 := av_run_grow n _ _ _ _ _ _ _ _ h
                exact ⟨Nat.le_trans a1.1 a2.1, Nat.le_trans a1.2 a2.2⟩
            · cases h
          · cases h
        · split at h
          · split at h
            · exact av_run_grow n _ _ _ _ _ _ _ _ h
            · cases h
          · cases h
        · split at h
          · split at h
            · split at h
              · cases h
              · split at h
                · rename_i hz
                  have a2 := av_run_grow n _ _ _ _ _ _ _ _ h
                  exact ⟨Nat.le_trans hz.1 a2.1, Nat.le_trans hz.2 a2.2⟩
                · cases h
            · cases h
          · cases h
        · split at h
          · split at h
            · cases h; exact ⟨Nat.le_refl _, Nat.le_refl _⟩
            · cases h
          · cases h
        · split at h
          · split at h
            · cases h; exact ⟨Nat.le_refl _, Nat.le_refl _⟩
            · cases h
          · cases h
        · split at h
          · cases h
          · rename_i pc' L' K' S1 h1
            have a1 := av_step_grow h1
            have a2 := av_run_grow n _ _ _ _ _ _ _ _ h
            exact ⟨Nat.le_trans a1.1 a2.1, Nat.le_trans a1.2 a2.2⟩
end AVsim
theorem av_args_as : ∀ (as : List Value) (k n : Nat), (∀ v ∈ as, v.category = 1) → av_as k (as.map some ++ List.replicate n none) = lv_args k as
  | [], k, 0, _ => rfl
  | [], k, n + 1, h => by
    show av_as k (none :: List.replicate n none) = lv_args k []
    rw [av_as]
    exact av_args_as [] (k + 1) n h
  | v :: as, k, n, h => by
    have h1 : v.category = 1 := h v List.mem_cons_self
    have h2 := av_args_as as (k + 1) n (fun w hw => h w (List.mem_cons_of_mem _ hw))
    show av_as k (some v :: (as.map some ++ List.replicate n none)) = lv_args k (v :: as)
    rw [av_as, h2]
    simp [lv_args, h1]
theorem av_sl_len : ∀ (as : List Value), (∀ v ∈ as, v.category = 1) → (lg_sl as).length = as.length
  | [], _ => rfl
  | v :: as, h => by
    have h1 : v.category = 1 := h v List.mem_cons_self
    have h2 := av_sl_len as (fun w hw => h w (List.mem_cons_of_mem _ hw))
    unfold lg_sl at h2 ⊢
    rw [List.flatMap_cons, List.length_append, h2]
    simp [h1, Nat.add_comm]
theorem av_ent_lv {as : List Value} {n : Nat} (h : ∀ v ∈ as, v.category = 1) (hn : as.length ≤ n) : av_lv ((lg_sl as ++ List.replicate (n - (lg_sl as).length) Slot.unset).toArray) n (av_ent as n) := by
  refine ⟨?_, fun i v hv => ?_, ?_⟩
  · unfold av_ent
    rw [List.length_append, List.length_map, List.length_replicate]
    omega
  · unfold av_ent at hv
    rcases List.mem_append.mp (List.mem_of_getElem? hv) with q | q
    · obtain ⟨w, hw, e⟩ := List.mem_map.mp q
      have e : w = v := Option.some.inj e
      rw [← e]
      exact h w hw
    · have := List.eq_of_mem_replicate q
      cases this
  · unfold av_ent
    rw [av_args_as as 0 _ h]
    exact lv_entry as (by rw [av_sl_len as h]; exact hn)
def av_end (M : av_Mt) (pc : Nat) (r : Option Value) : Prop := match r with
  | none => decode M.2.1 pc = .ok (.return_, 1) ∧ M.2.2.2.1 = none
  | some v => ∃ ty, M.2.2.2.1 = some ty ∧ av_fits ty v = true ∧ ((av_isR v = true ∧ ((∃ n, ty = .object n) ∨ ∃ t, ty = .array t) ∧ decode M.2.1 pc = .ok (.areturn, 1)) ∨ ∃ x, v = .int x ∧ decode M.2.1 pc = .ok (.ireturn, 1))
/-- a method's contract, out of a run of the small machine -/
def av_Met (Ts : List Jvm.Cond) (cl : List vw_C) (aT : Nat → FieldType) (D : va_G) (ao : List String) (base : Nat) (l : Launch) (d : Nat) (M : av_Mt) (as : List Value) (S S' : av_St) (r : Option Value) : Prop :=
  Met l M.1 (.code M.1 M.2.1 M.2.2.1 M.2.2.2.1 :: Ts) ({ frames := d, cells := S'.2.2.1 - S.2.2.1, slots := S'.2.2.2 - S.2.2.2, locals := 33 * d }) (va_Pc as (fun U => base ≤ U.heap.size ∧ av_K cl D ao U ∧ av_R cl aT D base U U.heap S)) (fun _ st oc t => oc = .returned r ∧ av_R cl aT D base t t.heap S' ∧ va_F (fun q => base ≤ q) st t) (S'.2.2.1 - S.2.2.1) (S'.2.2.2 - S.2.2.2) (fun q => base ≤ q)
theorem av_blind {cl : List vw_C} {aT : Nat → FieldType} {D : va_G} {ao : List String} {base : Nat} {as : List Value} {S : av_St} : FrameBlind (va_Pc as (fun U => base ≤ U.heap.size ∧ av_K cl D ao U ∧ av_R cl aT D base U U.heap S)) := by
  intro a U g mk h
  obtain ⟨h1, h2, h3, h4⟩ := h
  exact ⟨h1, h2, av_K.moved (u := U) (U := U.calling g mk a) (Vm.Alike.refl U.vm) h3, av_R.moved (u := U) (U := U.calling g mk a) (Vm.Alike.refl U.vm) h4⟩
section AVsim2
variable {p : Program} {l : Launch} {e : Env} {R : Room} {s : State} {m : MethodId} {args : Array Value} {below : List Frame} {meth : Method} {c : Code} {H : Heap} {locs : List Loc} {cells slots : Nat} {Q : State → Prop}
variable {Ts : List Jvm.Cond} {cl : List vw_C} {D : va_G} {ao : List String} {base : Nat} {M : av_Mt} {fT : Nat → Nat → FieldType} {fN : Nat → Nat} {aT : Nat → FieldType} {mt : Nat → Option av_Mt} {ext : List Value → av_St → Option (Option Value × av_St)}
/-- behind a call -/
theorem av_behind {S1 : av_St} {r : Option Value} {mc ms pc : Nat} {ls : Array Slot} {K rest : List Value} (hr : va_Run p l e R s m args below meth c H locs cells slots mc ms (F0 m pc ls K) rest (fun st oc t => oc = .returned r ∧ av_R cl aT D base t t.heap S1 ∧ va_F (fun q => base ≤ q) st t) (fun q => base ≤ q)) (hS : va_S (fun q => base ≤ q) s.heap H locs)
    (kk : ∀ (H1 : Heap) (locs1 : List Loc), av_R cl aT D base s H1 S1 → va_S (fun q => base ≤ q) s.heap H1 locs1 → W p l e R s m args below meth c H1 locs1 (cells + mc) (slots + ms) Q (F0 m (pc + 3) ls (r.toList ++ rest))) : W p l e R s m args below meth c H locs cells slots Q (F0 m pc ls K) := by
  intro T hT X
  obtain ⟨v, st₀, t, T', L, h0, X', hL, e1, e2, ⟨hv, hb, hz, hk⟩, st⟩ := hr T hT X
  cases hv
  rw [h0] at hz hk
  have hal : s.vm.Alike t.vm := by rw [← e2]; exact X'.warmed.alike
  have hb' : av_R cl aT D base s T'.heap S1 := by rw [e1]; exact hb.moved hal.symm
  obtain ⟨t2, a1, b1⟩ := kk T'.heap (locs ++ L) hb'
    ⟨Nat.le_trans hS.1 (by rw [e1]; exact hz), fun q h1 h2 => by rw [e1, hk q (Nat.lt_of_lt_of_le h1 hS.1) h2]; exact hS.2.1 q h1 h2, fun q hq => by
      rcases List.mem_append.mp hq with h | h
      · exact hS.2.2 q h
      · exact hL q h⟩ T' rfl X'
  exact ⟨t2, st t2 a1, b1⟩
/-- what the proof of a method's run gives: from any place of it -/
def av_Sim (Ts : List Jvm.Cond) (cl : List vw_C) (fT : Nat → Nat → FieldType) (fN : Nat → Nat) (aT : Nat → FieldType) (ext : List Value → av_St → Option (Option Value × av_St)) (mt : Nat → Option av_Mt) (D : va_G) (ao : List String) (base : Nat) (l : Launch) (n : Nat) : Prop :=
  ∀ (d y pc : Nat) (L : av_Ls) (K : List Value) (S : av_St) (r : Option Value) (S' : av_St) (M : av_Mt), mt y = some M → av_run fT fN aT ext mt n d y pc L K S = some (r, S') →
    ∀ (p : Program) (e : Env) (R : Room) (s : State) (m : MethodId) (args : Array Value) (below : List Frame) (meth : Method) (c : Code) (Q : State → Prop) (z0 w0 : Nat), av_Cx Ts cl D ao base M p s m args meth c → d ≤ R.frames → 33 * d ≤ R.locals → S'.2.2.1 ≤ R.cells + z0 → S'.2.2.2 ≤ R.slots + w0 →
    (∀ (pc' : Nat) (H' : Heap) (locs' : List Loc) (ls' : Array Slot) (cells' slots' : Nat), av_end M pc' r → av_R cl aT D base s H' S' → va_S (fun q => base ≤ q) s.heap H' locs' → cells' + z0 = S'.2.2.1 → slots' + w0 = S'.2.2.2 → W p l e R s m args below meth c H' locs' cells' slots' Q (F0 m pc' ls' r.toList)) →
    ∀ (H : Heap) (locs : List Loc) (cells slots : Nat) (ls : Array Slot), av_R cl aT D base s H S → va_S (fun q => base ≤ q) s.heap H locs → av_lv ls M.2.2.1 L → cells + z0 = S.2.2.1 → slots + w0 = S.2.2.2 → W p l e R s m args below meth c H locs cells slots Q (F0 m pc ls K)
theorem av_metOf {n : Nat} (hsim : av_Sim Ts cl fT fN aT ext mt D ao base l n) {d y : Nat} {as : List Value} {S S' : av_St} {r : Option Value} {N : av_Mt} (hN : mt y = some N) (hrun : av_run fT fN aT ext mt n d y 0 (av_ent as N.2.2.1) [] S = some (r, S')) (hpl : plainFor N.1 = true) (hcat : ∀ v ∈ as, v.category = 1) (hlen : as.length ≤ N.2.2.1) (hT : .code N.1 N.2.1 N.2.2.1 N.2.2.2.1 ∈ Ts) : av_Met Ts cl aT D ao base l d N as S S' r := by
  have hgr := av_run_grow _ _ _ _ _ _ _ _ _ hrun
  refine va_MetF (cc := N.2.1) (maxL := N.2.2.1) (ret := N.2.2.2.1) hpl rfl ?_
  intro p e s m args below meth c s₁ B hml hv
  obtain ⟨rfl, hbase, hK, hR⟩ := hv
  have hx := B.exec
  have hb := B.bytes
  have hr := B.returns
  have hts := atoms_spec (ws := Jvm.Cond.code N.1 N.2.1 N.2.2.1 N.2.2.2.1 :: Ts) B.pre
  have hown : s.vm.findClass N.1.cls = some m.cls := findClass_of_methodNamed B.named
  have hlocks := B.notSynchronized
  have hX : av_Cx Ts cl D ao base N p s m as.toArray meth c := ⟨hx, hb, hml, hown, fun w hw => hts w (List.mem_cons_of_mem _ hw), hK, fun h => (name_of_methodNamed B.named B.method).1.trans h, hbase⟩
  rw [lg_entry_eq]
  refine hsim d y 0 _ _ S r S' N hN hrun p e _ s m as.toArray below meth c _ S.2.2.1 S.2.2.2 hX (Nat.le_refl _) (Nat.le_refl _) (by show S'.2.2.1 ≤ (S'.2.2.1 - S.2.2.1) + S.2.2.1; omega) (by show S'.2.2.2 ≤ (S'.2.2.2 - S.2.2.2) + S.2.2.2; omega) ?_ s.heap [] 0 0 _ hR va_S.rf (av_ent_lv hcat hlen) (Nat.zero_add _) (Nat.zero_add _)
  intro pc' H' locs' ls' cells' slots' hend hR' hS' hc hs
  have ec : cells' = S'.2.2.1 - S.2.2.1 := by omega
  have es : slots' = S'.2.2.2 - S.2.2.2 := by omega
  subst ec
  subst es
  have post : ∀ t : State, t.heap = H' → s.WarmedH t.vm → (r = r ∧ av_R cl aT D base t t.heap S' ∧ va_F (fun q => base ≤ q) s t) := fun t ht hW => ⟨rfl, by rw [ht]; exact hR'.moved hW.alike, hS'.F ht⟩
  cases r with
  | none =>
    exact W.vret hx hb (hr.trans hend.2) (fun t ht hW => ⟨rfl, (post t ht hW).2⟩) hS'.2.2 hend.1
  | some v =>
    obtain ⟨ty, h1, h2, h3⟩ := hend
    rcases h3 with ⟨q1, q2, q3⟩ | ⟨x, rfl, q3⟩
    · exact W.aret hx hb (hr.trans h1) q2 (av_isR_or q1) (fun t ht hW => ⟨rfl, (post t ht hW).2⟩) hS'.2.2 q3
    · exact W.zret hx hb (hr.trans h1) (av_fits_ok h2).1 (fun t ht hW => ⟨rfl, (post t ht hW).2⟩) hS'.2.2 q3
/-- what is to be known of the call that is not walked here -/
def av_Ext (Ts : List Jvm.Cond) (cl : List vw_C) (fT : Nat → Nat → FieldType) (aT : Nat → FieldType) (ext : List Value → av_St → Option (Option Value × av_St)) (mt : Nat → Option av_Mt) (D : va_G) (ao : List String) (base : Nat) (l : Launch) : Prop :=
  ∀ (M : av_Mt) (pc ln a na d : Nat) (v0 : Int32) (q : List Nat) (K : List Value) (S S1 : av_St) (r : Option Value), av_chk Ts cl fT aT ao mt M pc (45, ln, a, na, v0, q) = true → 8 ≤ d → na ≤ K.length → K.length ≤ na + 4 → ext (K.take na).reverse S = some (r, S1) →
    ∀ (p : Program) (e : Env) (R : Room) (s : State) (m : MethodId) (args : Array Value) (below : List Frame) (meth : Method) (c : Code) (Q : State → Prop), av_Cx Ts cl D ao base M p s m args meth c → d + 1 ≤ R.frames → 33 * (d + 1) ≤ R.locals →
    ∀ (H : Heap) (locs : List Loc) (cells slots : Nat) (ls : Array Slot), av_R cl aT D base s H S → va_S (fun q => base ≤ q) s.heap H locs → ls.size = M.2.2.1 → cells + (S1.2.2.1 - S.2.2.1) ≤ R.cells → slots + (S1.2.2.2 - S.2.2.2) ≤ R.slots →
    (∀ (H1 : Heap) (locs1 : List Loc), av_R cl aT D base s H1 S1 → va_S (fun q => base ≤ q) s.heap H1 locs1 → W p l e R s m args below meth c H1 locs1 (cells + (S1.2.2.1 - S.2.2.1)) (slots + (S1.2.2.2 - S.2.2.2)) Q (F0 m (pc + 3) ls (r.toList ++ K.drop na))) → W p l e R s m args below meth c H locs cells slots Q (F0 m pc ls K)
end AVsim2
end
section
section AVsim3
variable {p : Program} {l : Launch} {e : Env} {R : Room} {s : State} {m : MethodId} {args : Array Value} {below : List Frame} {meth : Method} {c : Code} {H : Heap} {locs : List Loc} {cells slots : Nat} {Q : State → Prop}
variable {Ts : List Jvm.Cond} {cl : List vw_C} {D : va_G} {ao : List String} {base : Nat} {M : av_Mt} {fT : Nat → Nat → FieldType} {fN : Nat → Nat} {aT : Nat → FieldType} {mt : Nat → Option av_Mt} {ext : List Value → av_St → Option (Option Value × av_St)}
theorem av_catsum : ∀ (st : List Value), (st.map fun v => v.category).sum ≤ 2 * st.length
  | [] => Nat.le_refl _
  | v :: st => by
    have h := av_catsum st
    rw [List.map_cons, List.sum_cons, List.length_cons]
    rcases lv_cat v with q | q <;> omega
theorem av_goodIn (G : ∀ w ∈ Ts, goodWord w = true) {w0 : Jvm.Cond} (h : w0 ∈ Ts) : GoodIn Ts (w0 :: Ts) := by
  intro w hw
  rcases List.mem_cons.mp hw with rfl | hw
  · exact ⟨h, good_of_word (G _ h)⟩
  · exact ⟨hw, good_of_word (G _ hw)⟩
theorem av_call (T : av_Tk Ts cl fT fN) (G : ∀ w ∈ Ts, goodWord w = true) (X : av_Cx Ts cl D ao base M p s m args meth c) {y pc na ln d : Nat} {q : List Nat} {v0 : Int32} {N : av_Mt} {K : List Value} {S S1 : av_St} {r : Option Value} {ls : Array Slot} (hN : mt y = some N) (hc : av_chk Ts cl fT aT ao mt M pc (40, ln, y, na, v0, q) = true)
    (hlen : na ≤ K.length) (hrest : K.length ≤ na + 4) (hrcv : av_rcv q S (K.take na).reverse = true) (hMet : plainFor N.1 = true → .code N.1 N.2.1 N.2.2.1 N.2.2.2.1 ∈ Ts → av_Met Ts cl aT D ao base l d N (K.take na).reverse S S1 r)
    (hRf : d + 1 ≤ R.frames) (hRl : 33 * (d + 1) ≤ R.locals) (hRc : cells + (S1.2.2.1 - S.2.2.1) ≤ R.cells) (hRs : slots + (S1.2.2.2 - S.2.2.2) ≤ R.slots) (hR : av_R cl aT D base s H S) (hS : va_S (fun q => base ≤ q) s.heap H locs) (hls : ls.size = M.2.2.1)
    (kk : ∀ (H1 : Heap) (locs1 : List Loc), av_R cl aT D base s H1 S1 → va_S (fun q => base ≤ q) s.heap H1 locs1 → W p l e R s m args below meth c H1 locs1 (cells + (S1.2.2.1 - S.2.2.1)) (slots + (S1.2.2.2 - S.2.2.2)) Q (F0 m (pc + 3) ls (r.toList ++ K.drop na))) : W p l e R s m args below meth c H locs cells slots Q (F0 m pc ls K) := by
  simp only [av_chk, hN, Bool.and_eq_true, decide_eq_true_eq] at hc
  obtain ⟨⟨⟨⟨⟨⟨⟨⟨rfl, w1⟩, w2⟩, w3⟩, w4⟩, w5⟩, w6⟩, w7⟩, hk⟩ := hc
  have hM := hMet w4 (av_mem_ok w3)
  have hts := X.2.2.2.2.1
  have hG := av_goodIn G (av_mem_ok w3)
  have hfix : CallFix p m c M.2.1 M.2.2.1 s args Ts M.1.cls := ⟨X.1, X.2.1, X.2.2.1, X.2.2.2.1, hts⟩
  have hroom : ({ frames := d, cells := S1.2.2.1 - S.2.2.1, slots := S1.2.2.2 - S.2.2.2, locals := 33 * d } : Room).frames + 1 ≤ R.frames ∧ 8 + (N.2.2.1 + 11) + ({ frames := d, cells := S1.2.2.1 - S.2.2.1, slots := S1.2.2.2 - S.2.2.2, locals := 33 * d } : Room).locals ≤ R.locals := ⟨hRf, by show 8 + (N.2.2.1 + 11) + 33 * d ≤ R.locals; omega⟩
  have hKe : K = (K.take na).reverse.reverse ++ K.drop na := by rw [List.reverse_reverse, List.take_append_drop]
  have hal : ((K.take na).reverse).length = na := by rw [List.length_reverse, List.length_take]; omega
  have hsum : ((K.drop na).map fun v => v.category).sum ≤ 8 := Nat.le_trans (av_catsum _) (by rw [List.length_drop]; omega)
  have pre : ∀ U : State, U.heap = H → s.WarmedH U.vm → va_Pc (K.take na).reverse (fun U => base ≤ U.heap.size ∧ av_K cl D ao U ∧ av_R cl aT D base U U.heap S) (K.take na).reverse.toArray U := fun U hU hW => ⟨rfl, by rw [hU]; exact hR.2.1, av_K.moved hW.alike X.2.2.2.2.2.1, by rw [hU]; exact hR.moved hW.alike⟩
  split at hk
  · simp only [Bool.and_eq_true, decide_eq_true_eq] at hk
    obtain ⟨⟨k1, k2⟩, k3⟩ := hk
    have cb := callB_of (R := R) na hts hG rfl rfl rfl (hts _ (av_mem_ok w2)) (hts _ (av_mem_ok w1)) ⟨w5, w6, k3⟩ hroom
    exact av_behind (va_runS hfix hM ⟨cb, hts _ (av_mem_ok k2)⟩ ⟨av_blind, pre⟩ rfl hal hls hKe (lv_room hsum) (av_dec_ok k1) ⟨hRc, hRs⟩) hS kk
  · rename_i hq
    simp only [Bool.and_eq_true, decide_eq_true_eq] at hk
    obtain ⟨⟨⟨⟨k1, k2⟩, k3⟩, k4⟩, k5⟩ := hk
    match q, hq, hrcv, k1, k5, w1 with
    | 1 :: ci :: q', _, hrcv, k1, k5, w1 =>
      generalize hasE : (K.take na).reverse = as at hrcv hM hKe hal pre
      match as, hrcv with
      | .ref b :: As, hrcv =>
        have hb : S.1 b = some (.inl ci) := of_decide_eq_true hrcv
        obtain ⟨hzb, r', hr', cell, q1, q2, q3, q4⟩ := hR.2.2.1 b ci hb
        have k5' : (cl[ci]?).map (fun r => r.1) = some N.1.cls := k5
        rw [hr'] at k5'
        have e5 : r'.1 = N.1.cls := Option.some.inj k5'
        have hpl : (parseMethodDescriptor N.1.desc).map (fun d => d.parameters.length) = some As.length := by
          cases hp : parseMethodDescriptor N.1.desc with
          | none => rw [hp] at k4; cases k4
          | some dd =>
            rw [hp] at k4
            have h4 : dd.parameters.length + 1 = na := Option.some.inj k4
            have h5 : As.length + 1 = na := hal
            show some dd.parameters.length = some As.length
            congr 1
            omega
        have cb := callB_of (R := R) As.length hts hG rfl rfl rfl (hts _ (av_mem_ok w2)) (hts _ (av_mem_ok w1)) ⟨w5, w6, hpl⟩ hroom
        have hrc : ∃ cellB : Cell, H[b]? = some cellB ∧ cellB.vm.isStatics = false ∧ s.vm.findClass N.1.cls = some cellB.cls := ⟨cell, q1, by rw [q3]; rfl, by rw [q2, ← e5]; exact (X.2.2.2.2.2.1.1 ci r' hr').2.1⟩
        refine av_behind (va_runV (C := N.1.cls) (As := As) (b := b) hfix hM ⟨cb, hts _ (av_mem_ok k2), hts _ (av_mem_ok k3)⟩ ⟨av_blind, hrc, pre⟩ rfl rfl hls ?_ (lv_room hsum) (av_dec_ok k1) ⟨hRc, hRs⟩) hS kk
        show K = As.reverse ++ .ref b :: K.drop na
        rw [List.reverse_cons, List.append_assoc] at hKe
        exact hKe
  · rename_i hq
    simp only [Bool.and_eq_true, decide_eq_true_eq] at hk
    obtain ⟨⟨⟨⟨k1, k2⟩, k3⟩, k6⟩, k4⟩ := hk
    match q, hq, hrcv, k1, w1 with
    | 2 :: q', _, hrcv, k1, w1 =>
      generalize hasE : (K.take na).reverse = as at hrcv hM hKe hal pre
      match as, hrcv with
      | .ref b :: As, hrcv =>
        have hpl : (parseMethodDescriptor N.1.desc).map (fun d => d.parameters.length) = some As.length := by
          cases hp : parseMethodDescriptor N.1.desc with
          | none => rw [hp] at k4; cases k4
          | some dd =>
            rw [hp] at k4
            have h4 : dd.parameters.length + 1 = na := Option.some.inj k4
            have h5 : As.length + 1 = na := hal
            show some dd.parameters.length = some As.length
            congr 1
            omega
        unfold av_Met at hM
        rw [k6] at hM hG
        have cb := callB_of (R := R) As.length hts hG rfl rfl rfl (hts _ (av_mem_ok w2)) (hts _ (av_mem_ok w1)) ⟨w5, w6, hpl⟩ hroom
        refine av_behind (va_runI (As := As) (b := b) hfix hM ⟨cb, k3, hts _ (av_mem_ok k2)⟩ ⟨av_blind, pre⟩ rfl rfl hls ?_ (lv_room hsum) (av_dec_ok k1) ⟨hRc, hRs⟩) hS kk
        show K = As.reverse ++ .ref b :: K.drop na
        rw [List.reverse_cons, List.append_assoc] at hKe
        exact hKe
  · cases hk
theorem av_one (T : av_Tk Ts cl fT fN) (X : av_Cx Ts cl D ao base M p s m args meth c) (I : av_I) : av_ok p l e R s m args below meth c Q Ts cl fT fN aT ao mt D base M I := by
  intro pc L K S cf ls H locs cells slots hc hst
  have hst0 := hst
  unfold av_step at hst
  split at hst
  · exact av_o0 X pc L K S cf ls H locs cells slots hc hst0
  · exact av_o1 X pc L K S cf ls H locs cells slots hc hst0
  · exact av_o2 X pc L K S cf ls H locs cells slots hc hst0
  · exact av_o3 X pc L K S cf ls H locs cells slots hc hst0
  · exact av_o4 X pc L K S cf ls H locs cells slots hc hst0
  · exact av_o5 X pc L K S cf ls H locs cells slots hc hst0
  · exact av_o6 X pc L K S cf ls H locs cells slots hc hst0
  · exact av_o7 X pc L K S cf ls H locs cells slots hc hst0
  · exact av_o8 X pc L K S cf ls H locs cells slots hc hst0
  · exact av_o9 X pc L K S cf ls H locs cells slots hc hst0
  · exact av_o10 X pc L K S cf ls H locs cells slots hc hst0
  · exact av_o11 X pc L K S cf ls H locs cells slots hc hst0
  · exact av_o12 X pc L K S cf ls H locs cells slots hc hst0
  · exact av_o13 X pc L K S cf ls H locs cells slots hc hst0
  · exact av_o14 X pc L K S cf ls H locs cells slots hc hst0
  · exact av_o15 X pc L K S cf ls H locs cells slots hc hst0
  · exact av_o16 X pc L K S cf ls H locs cells slots hc hst0
  · exact av_o17 X pc L K S cf ls H locs cells slots hc hst0
  · exact av_o18 X pc L K S cf ls H locs cells slots hc hst0
  · exact av_o19 X pc L K S cf ls H locs cells slots hc hst0
  · exact av_o20 X pc L K S cf ls H locs cells slots hc hst0
  · exact av_o21 X pc L K S cf ls H locs cells slots hc hst0
  · exact av_o22 X pc L K S cf ls H locs cells slots hc hst0
  · exact av_o23 X pc L K S cf ls H locs cells slots hc hst0
  · exact av_o24 X pc L K S cf ls H locs cells slots hc hst0
  · exact av_o30 T X pc L K S cf ls H locs cells slots hc hst0
  · exact av_o31 T X pc L K S cf ls H locs cells slots hc hst0
  · exact av_o32 X pc L K S cf ls H locs cells slots hc hst0
  · exact av_o33 X pc L K S cf ls H locs cells slots hc hst0
  · exact av_o34 X pc L K S cf ls H locs cells slots hc hst0
  · exact av_o35 X pc L K S cf ls H locs cells slots hc hst0
  · exact av_o36 T X pc L K S cf ls H locs cells slots hc hst0
  · exact av_o37 X pc L K S cf ls H locs cells slots hc hst0
  · exact av_o38 X pc L K S cf ls H locs cells slots hc hst0
  · cases hst
theorem av_sim (T : av_Tk Ts cl fT fN) (G : ∀ w ∈ Ts, goodWord w = true) (hall : ∀ (y : Nat) (M : av_Mt) (pc : Nat) (I : av_I), mt y = some M → M.2.2.2.2 pc = some I → av_chk Ts cl fT aT ao mt M pc I = true) (hext : av_Ext Ts cl fT aT ext mt D ao base l) : ∀ n, av_Sim Ts cl fT fN aT ext mt D ao base l n := by
  intro n
  induction n with
  | zero => intro d y pc L K S r S' M hM h; cases h
  | succ n ih =>
    intro d y pc L K S r S' M hM hrun p e R s m args below meth c Q z0 w0 X hRf hRl hRc hRs hfin H locs cells slots ls hR hS hl hc hs
    unfold av_run at hrun
    rw [hM] at hrun
    dsimp only at hrun
    split at hrun
    · cases hrun
    · rename_i I hI
      have hchk := hall y M pc I hM hI
      obtain ⟨op, ln, a, b, v, q⟩ := I
      split at hrun
      · rename_i hop
        have hop : op = 40 := hop
        subst hop
        split at hrun
        · rename_i d' N hN
          split at hrun
          · rename_i hcond
            obtain ⟨c1, c2, c3, c4, c5⟩ := hcond
            split at hrun
            · cases hrun
            · rename_i r1 S1 h1
              have g1 := av_run_grow _ _ _ _ _ _ _ _ _ h1
              have g2 := av_run_grow _ _ _ _ _ _ _ _ _ hrun
              have hal : ((K.take b).reverse).length = b := by rw [List.length_reverse, List.length_take]; have : b ≤ K.length := c1; omega
              refine av_call T G X hN hchk c1 c2 c5 (fun w4 w3 => av_metOf ih hN h1 w4 (fun v hv => c4 v (List.mem_reverse.mp hv)) (by rw [hal]; exact c3) w3) hRf hRl (by omega) (by omega) hR hS hl.2.2.1 (fun H1 locs1 hR1 hS1 => ?_)
              exact ih (d' + 1) y (pc + 3) L _ S1 r S' M hM hrun p e R s m args below meth c Q z0 w0 X hRf hRl hRc hRs hfin H1 locs1 _ _ ls hR1 hS1 hl (by omega) (by omega)
          · cases hrun
        · cases hrun
      · rename_i hop
        have hop : op = 41 := hop
        subst hop
        split at hrun
        · rename_i d' z K'
          split at hrun
          · rename_i hK'
            simp only [av_chk, Bool.and_eq_true, decide_eq_true_eq] at hchk
            obtain ⟨⟨⟨⟨rfl, w1⟩, w2⟩, w3⟩, w4⟩ := hchk
            have hts := X.2.2.2.2.1
            refine W.objInit X.1 X.2.1 X.2.2.2.1 (hts _ (av_mem_ok w2)) (hts _ (av_mem_ok w3)) (hts _ (av_mem_ok w4)) rfl (hl.2.2.1.trans X.2.2.1.symm) rfl (av_dec_ok w1) (by omega) ?_ (ih (d' + 1) y (pc + 3) L K' S r S' M hM hrun p e R s m args below meth c Q z0 w0 X hRf hRl hRc hRs hfin H locs cells slots ls hR hS hl hc hs)
            have h8 : 2 * (F0 m pc ls (Value.ref z :: K')).monitorRoom + (K'.map fun v => v.category).sum ≤ 8 := lv_room (Nat.le_trans (av_catsum _) (by omega))
            omega
          · cases hrun
        · cases hrun
      · rename_i hop
        have hop : op = 45 := hop
        subst hop
        split at hrun
        · rename_i d'
          split at hrun
          · rename_i hcond
            obtain ⟨c1, c2, c3⟩ := hcond
            split at hrun
            · cases hrun
            · rename_i r1 S1 h1
              split at hrun
              · rename_i hz
                have g2 := av_run_grow _ _ _ _ _ _ _ _ _ hrun
                refine hext M pc ln a b d' v q K S S1 r1 hchk c1 c2 c3 h1 p e R s m args below meth c Q X hRf hRl H locs cells slots ls hR hS hl.2.2.1 (by omega) (by omega) (fun H1 locs1 hR1 hS1 => ?_)
                exact ih (d' + 1) y (pc + 3) L _ S1 r S' M hM hrun p e R s m args below meth c Q z0 w0 X hRf hRl hRc hRs hfin H1 locs1 _ _ ls hR1 hS1 hl (by omega) (by omega)
              · cases hrun
          · cases hrun
        · cases hrun
      · rename_i hop
        have hop : op = 42 := hop
        subst hop
        split at hrun
        · split at hrun
          · rename_i hn
            cases hrun
            simp only [av_chk, Bool.and_eq_true, decide_eq_true_eq] at hchk
            obtain ⟨rfl, w1⟩ := hchk
            exact hfin pc H locs ls cells slots ⟨av_dec_ok w1, hn⟩ hR hS hc hs
          · cases hrun
        · cases hrun
      · rename_i hop
        have hop : op = 43 := hop
        subst hop
        split at hrun
        · rename_i w
          split at hrun
          · rename_i hw
            cases hrun
            simp only [av_chk, Bool.and_eq_true, decide_eq_true_eq] at hchk
            obtain ⟨rfl, w1⟩ := hchk
            unfold av_rok at hw
            refine hfin pc H locs ls cells slots ?_ hR hS hc hs
            cases hret : M.2.2.2.1 with
            | none => rw [hret] at hw; cases hw
            | some ty =>
              rw [hret] at hw w1
              refine ⟨ty, hret, hw, ?_⟩
              cases ty with
              | object C => exact Or.inl ⟨(by cases w <;> first | rfl | cases hw), Or.inl ⟨_, rfl⟩, av_dec_ok w1⟩
              | array C => exact Or.inl ⟨(by cases w <;> first | rfl | cases hw), Or.inr ⟨_, rfl⟩, av_dec_ok w1⟩
              | int => cases w <;> first | exact Or.inr ⟨_, rfl, av_dec_ok w1⟩ | cases hw
              | boolean => cases w <;> first | exact Or.inr ⟨_, rfl, av_dec_ok w1⟩ | cases hw
              | byte => cases w1
              | char => cases w1
              | double => cases w1
              | float => cases w1
              | long => cases w1
              | short => cases w1
          · cases hrun
        · cases hrun
      · split at hrun
        · cases hrun
        · rename_i pc' L' K' S1 h1
          have g1 := av_step_grow h1
          have g2 := av_run_grow _ _ _ _ _ _ _ _ _ hrun
          have g1' : S.2.2.1 ≤ S1.2.2.1 ∧ S.2.2.2 ≤ S1.2.2.2 := g1
          refine av_one T X (op, ln, a, b, v, q) pc L K S (pc', L', K', S1) ls H locs cells slots hchk h1 hR hS hl (by show cells + S1.2.2.1 ≤ R.cells + S.2.2.1; omega) (by show slots + S1.2.2.2 ≤ R.slots + S.2.2.2; omega) ?_
          intro H' locs' ls' cells' slots' hR' hS' hl' hc' hs'
          have hc'' : cells' + S.2.2.1 = cells + S1.2.2.1 := hc'
          have hs'' : slots' + S.2.2.2 = slots + S1.2.2.2 := hs'
          exact ih d y pc' L' K' S1 r S' M hM hrun p e R s m args below meth c Q z0 w0 X hRf hRl hRc hRs hfin H' locs' cells' slots' ls' hR' hS' hl' (by omega) (by omega)
end AVsim3
end
section
def sm_T0 : u_T := fun k => match k with
  | 0 => ("StructureMap", "files", "[LStructureMap$SizedFile;", true)
  | 1 => ("StructureMap", "fileCount", "I", false)
  | 2 => ("StructureMap", "trees", "[LStructureMap$Tree;", true)
  | 3 => ("StructureMap", "treeCount", "I", false)
  | 4 => ("StructureMap", "divisions", "[LStructureMap$Division;", true)
  | 5 => ("StructureMap", "divisionCount", "I", false)
  | 6 => ("StructureMap", "search", "LStructureMap$Search;", true)
  | 7 => ("StructureMap", "reading", "LStructureMap$Reading;", true)
  | 8 => ("StructureMap", "steps", "LStructureMap$Steps;", true)
  | 9 => ("StructureMap", "faults", "LStructureMap$Faults;", true)
  | _ => ("StructureMap", "signs", "LStructureMap$Signs;", true)
def sm_t0 : Nat → FieldType := fun k => match k with
  | 0 => .array (.object "StructureMap$SizedFile")
  | 1 => .int
  | 2 => .array (.object "StructureMap$Tree")
  | 3 => .int
  | 4 => .array (.object "StructureMap$Division")
  | 5 => .int
  | 6 => .object "StructureMap$Search"
  | 7 => .object "StructureMap$Reading"
  | 8 => .object "StructureMap$Steps"
  | 9 => .object "StructureMap$Faults"
  | _ => .object "StructureMap$Signs"
def sm_T1 : u_T := fun k => match k with
  | 0 => ("StructureMap$Search", "found", "[LStructureMap$Division;", true)
  | 1 => ("StructureMap$Search", "isFound", "[Z", true)
  | _ => ("StructureMap$Search", "count", "I", false)
def sm_t1 : Nat → FieldType := fun k => match k with
  | 0 => .array (.object "StructureMap$Division")
  | 1 => .array .boolean
  | _ => .int
def sm_T2 : u_T := fun k => match k with
  | 0 => ("StructureMap$Reading", "met", "[LStructureMap$Division;", true)
  | 1 => ("StructureMap$Reading", "metAt", "[LStructureMap$Division;", true)
  | 2 => ("StructureMap$Reading", "count", "I", false)
  | 3 => ("StructureMap$Reading", "times", "[I", true)
  | 4 => ("StructureMap$Reading", "open", "[LStructureMap$Division;", true)
  | _ => ("StructureMap$Reading", "openCount", "I", false)
def sm_t2 : Nat → FieldType := fun k => match k with
  | 0 => .array (.object "StructureMap$Division")
  | 1 => .array (.object "StructureMap$Division")
  | 2 => .int
  | 3 => .array .int
  | 4 => .array (.object "StructureMap$Division")
  | _ => .int
def sm_T3 : u_T := fun k => match k with
  | 0 => ("StructureMap$Steps", "links", "[LStructureMap$Link;", true)
  | 1 => ("StructureMap$Steps", "cameAt", "[LStructureMap$Division;", true)
  | _ => ("StructureMap$Steps", "count", "I", false)
def sm_t3 : Nat → FieldType := fun k => match k with
  | 0 => .array (.object "StructureMap$Link")
  | 1 => .array (.object "StructureMap$Division")
  | _ => .int
def sm_T4 : u_T := fun k => match k with
  | 0 => ("StructureMap$Faults", "which", "[I", true)
  | 1 => ("StructureMap$Faults", "where", "[I", true)
  | _ => ("StructureMap$Faults", "count", "I", false)
def sm_t4 : Nat → FieldType := fun k => match k with
  | 0 => .array .int
  | 1 => .array .int
  | _ => .int
def sm_T5 : u_T := fun k => match k with
  | 0 => ("StructureMap$Signs", "row", "[C", true)
  | _ => ("StructureMap$Signs", "count", "I", false)
def sm_t5 : Nat → FieldType := fun k => match k with
  | 0 => .array .char
  | _ => .int
def sm_T6 : u_T := fun k => match k with
  | 0 => ("StructureMap$SizedFile", "number", "I", true)
  | 1 => ("StructureMap$SizedFile", "size", "I", false)
  | _ => ("StructureMap$SizedFile", "firstLink", "LStructureMap$Link;", false)
def sm_t6 : Nat → FieldType := fun k => match k with
  | 0 => .int
  | 1 => .int
  | _ => .object "StructureMap$Link"
def sm_T7 : u_T := fun k => match k with
  | 0 => ("StructureMap$Tree", "kind", "I", true)
  | _ => ("StructureMap$Tree", "root", "LStructureMap$Division;", true)
def sm_t7 : Nat → FieldType := fun k => match k with
  | 0 => .int
  | _ => .object "StructureMap$Division"
def sm_T8 : u_T := fun k => match k with
  | 0 => ("StructureMap$Division", "number", "I", true)
  | 1 => ("StructureMap$Division", "map", "I", true)
  | 2 => ("StructureMap$Division", "order", "I", true)
  | 3 => ("StructureMap$Division", "label", "I", true)
  | 4 => ("StructureMap$Division", "links", "[LStructureMap$Link;", true)
  | 5 => ("StructureMap$Division", "linkCount", "I", false)
  | 6 => ("StructureMap$Division", "under", "LStructureMap$Division;", false)
  | 7 => ("StructureMap$Division", "firstUnder", "LStructureMap$Division;", false)
  | 8 => ("StructureMap$Division", "nextBeside", "LStructureMap$Division;", false)
  | _ => ("StructureMap$Division", "repeated", "LStructureMap$Division;", false)
def sm_t8 : Nat → FieldType := fun k => match k with
  | 0 => .int
  | 1 => .int
  | 2 => .int
  | 3 => .int
  | 4 => .array (.object "StructureMap$Link")
  | 5 => .int
  | 6 => .object "StructureMap$Division"
  | 7 => .object "StructureMap$Division"
  | 8 => .object "StructureMap$Division"
  | _ => .object "StructureMap$Division"
def sm_T9 : u_T := fun k => match k with
  | 0 => ("StructureMap$Link", "owner", "LStructureMap$Division;", true)
  | 1 => ("StructureMap$Link", "file", "LStructureMap$SizedFile;", true)
  | 2 => ("StructureMap$Link", "from", "I", true)
  | 3 => ("StructureMap$Link", "to", "I", true)
  | _ => ("StructureMap$Link", "nextOfFile", "LStructureMap$Link;", false)
def sm_t9 : Nat → FieldType := fun k => match k with
  | 0 => .object "StructureMap$Division"
  | 1 => .object "StructureMap$SizedFile"
  | 2 => .int
  | 3 => .int
  | _ => .object "StructureMap$Link"
def sm_T10 : u_T := fun k => match k with
  | 0 => ("StructureMapModel", "thrown", "I", false)
  | 1 => ("StructureMapModel", "files", "I", false)
  | 2 => ("StructureMapModel", "size", "[I", true)
  | 3 => ("StructureMapModel", "maps", "I", false)
  | 4 => ("StructureMapModel", "kind", "[I", true)
  | 5 => ("StructureMapModel", "divisions", "I", false)
  | 6 => ("StructureMapModel", "mapOf", "[I", true)
  | 7 => ("StructureMapModel", "under", "[I", true)
  | 8 => ("StructureMapModel", "order", "[I", true)
  | 9 => ("StructureMapModel", "label", "[I", true)
  | 10 => ("StructureMapModel", "repeats", "[I", true)
  | 11 => ("StructureMapModel", "links", "[I", true)
  | 12 => ("StructureMapModel", "linkFile", "[I", true)
  | 13 => ("StructureMapModel", "linkFrom", "[I", true)
  | 14 => ("StructureMapModel", "linkTo", "[I", true)
  | 15 => ("StructureMapModel", "todo", "[I", true)
  | 16 => ("StructureMapModel", "todoAt", "[I", true)
  | 17 => ("StructureMapModel", "todos", "I", false)
  | 18 => ("StructureMapModel", "seen", "[Z", true)
  | 19 => ("StructureMapModel", "listed", "I", false)
  | 20 => ("StructureMapModel", "list", "[I", true)
  | 21 => ("StructureMapModel", "deep", "[I", true)
  | 22 => ("StructureMapModel", "listed2", "I", false)
  | 23 => ("StructureMapModel", "list2", "[I", true)
  | 24 => ("StructureMapModel", "deep2", "[I", true)
  | 25 => ("StructureMapModel", "steps", "I", false)
  | 26 => ("StructureMapModel", "step", "[I", true)
  | 27 => ("StructureMapModel", "tested", "I", false)
  | 28 => ("StructureMapModel", "test", "[I", true)
  | 29 => ("StructureMapModel", "faults", "I", false)
  | 30 => ("StructureMapModel", "fault", "[I", true)
  | 31 => ("StructureMapModel", "faultOf", "[I", true)
  | 32 => ("StructureMapModel", "printed", "I", false)
  | _ => ("StructureMapModel", "signs", "[B", true)
def sm_t10 : Nat → FieldType := fun k => match k with
  | 0 => .int
  | 1 => .int
  | 2 => .array .int
  | 3 => .int
  | 4 => .array .int
  | 5 => .int
  | 6 => .array .int
  | 7 => .array .int
  | 8 => .array .int
  | 9 => .array .int
  | 10 => .array .int
  | 11 => .array .int
  | 12 => .array .int
  | 13 => .array .int
  | 14 => .array .int
  | 15 => .array .int
  | 16 => .array .int
  | 17 => .int
  | 18 => .array .boolean
  | 19 => .int
  | 20 => .array .int
  | 21 => .array .int
  | 22 => .int
  | 23 => .array .int
  | 24 => .array .int
  | 25 => .int
  | 26 => .array .int
  | 27 => .int
  | 28 => .array .int
  | 29 => .int
  | 30 => .array .int
  | 31 => .array .int
  | 32 => .int
  | _ => .array .byte
def sm_cl : List vw_C := [("StructureMap", sm_T0, 11), ("StructureMap$Search", sm_T1, 3), ("StructureMap$Reading", sm_T2, 6), ("StructureMap$Steps", sm_T3, 3), ("StructureMap$Faults", sm_T4, 3), ("StructureMap$Signs", sm_T5, 2), ("StructureMap$SizedFile", sm_T6, 3), ("StructureMap$Tree", sm_T7, 2), ("StructureMap$Division", sm_T8, 10), ("StructureMap$Link", sm_T9, 5), ("StructureMapModel", sm_T10, 34)]
def sm_fT : Nat → Nat → FieldType := fun ci => match ci with
  | 0 => sm_t0
  | 1 => sm_t1
  | 2 => sm_t2
  | 3 => sm_t3
  | 4 => sm_t4
  | 5 => sm_t5
  | 6 => sm_t6
  | 7 => sm_t7
  | 8 => sm_t8
  | 9 => sm_t9
  | _ => sm_t10
def sm_fN : Nat → Nat := fun ci => match ci with
  | 0 => 11
  | 1 => 3
  | 2 => 6
  | 3 => 3
  | 4 => 3
  | 5 => 2
  | 6 => 3
  | 7 => 2
  | 8 => 10
  | 9 => 5
  | _ => 34
def sm_a0 : Nat → FieldType := fun j => match j with
  | 0 => .int
  | 1 => .char
  | 2 => .boolean
  | 3 => .byte
  | 4 => .long
  | 5 => .object "StructureMap$SizedFile"
  | 6 => .object "StructureMap$Tree"
  | 7 => .object "StructureMap$Division"
  | _ => .object "StructureMap$Link"
def sm_aT : Nat → FieldType := fun j => if 50 ≤ j then sm_a0 (j - 50) else sm_a0 j
def sm_ao : List String := ["StructureMap$SizedFile", "StructureMap$Tree", "StructureMap$Division", "StructureMap$Link"]
def sm_find : List (Nat × av_I) → Nat → Option av_I
  | [], _ => none
  | (k, i) :: l, pc => if k = pc then some i else sm_find l pc
/-- SM_init -/
def sm_c0 : List (Nat × av_I) := [
  (0, (1, 1, 0, 0, 0, [])),
  (1, (41, 3, 0, 0, 0, [3])),
  (4, (1, 1, 0, 0, 0, [])),
  (5, (4, 2, 1, 0, 30, [])),
  (7, (38, 3, 5, 6, 0, [9])),
  (10, (31, 3, 0, 0, 0, [11])),
  (13, (1, 1, 0, 0, 0, [])),
  (14, (4, 1, 0, 0, 0, [])),
  (15, (31, 3, 0, 1, 0, [15])),
  (18, (1, 1, 0, 0, 0, [])),
  (19, (4, 1, 0, 0, 5, [])),
  (20, (38, 3, 6, 7, 0, [19])),
  (23, (31, 3, 0, 2, 0, [21])),
  (26, (1, 1, 0, 0, 0, [])),
  (27, (4, 1, 0, 0, 0, [])),
  (28, (31, 3, 0, 3, 0, [25])),
  (31, (1, 1, 0, 0, 0, [])),
  (32, (4, 2, 1, 0, 120, [])),
  (34, (38, 3, 7, 8, 0, [28])),
  (37, (31, 3, 0, 4, 0, [30])),
  (40, (1, 1, 0, 0, 0, [])),
  (41, (4, 1, 0, 0, 0, [])),
  (42, (31, 3, 0, 5, 0, [34])),
  (45, (1, 1, 0, 0, 0, [])),
  (46, (36, 3, 1, 0, 0, [37])),
  (49, (10, 1, 0, 0, 0, [])),
  (50, (40, 3, 24, 1, 0, [2, 1, 39])),
  (53, (31, 3, 0, 6, 0, [40])),
  (56, (1, 1, 0, 0, 0, [])),
  (57, (36, 3, 2, 0, 0, [44])),
  (60, (10, 1, 0, 0, 0, [])),
  (61, (40, 3, 29, 1, 0, [2, 2, 46])),
  (64, (31, 3, 0, 7, 0, [47])),
  (67, (1, 1, 0, 0, 0, [])),
  (68, (36, 3, 3, 0, 0, [51])),
  (71, (10, 1, 0, 0, 0, [])),
  (72, (40, 3, 35, 1, 0, [2, 3, 53])),
  (75, (31, 3, 0, 8, 0, [54])),
  (78, (1, 1, 0, 0, 0, [])),
  (79, (36, 3, 4, 0, 0, [58])),
  (82, (10, 1, 0, 0, 0, [])),
  (83, (40, 3, 39, 1, 0, [2, 4, 60])),
  (86, (31, 3, 0, 9, 0, [61])),
  (89, (1, 1, 0, 0, 0, [])),
  (90, (36, 3, 5, 0, 0, [65])),
  (93, (10, 1, 0, 0, 0, [])),
  (94, (40, 3, 41, 1, 0, [2, 5, 67])),
  (97, (31, 3, 0, 10, 0, [68])),
  (100, (42, 1, 0, 0, 0, []))]
def sm_m0 : av_Mt := (⟨"StructureMap", "<init>", "()V"⟩, prog_1_method_1_code, 1, none, sm_find sm_c0)
/-- SM_file -/
def sm_c1 : List (Nat × av_I) := [
  (0, (0, 1, 1, 0, 0, [])),
  (1, (40, 3, 2, 1, 0, [0, 0, 72])),
  (4, (15, 3, 1, 10, 0, [])),
  (7, (4, 2, 1, 0, (-2), [])),
  (9, (43, 1, 0, 0, 0, [])),
  (10, (1, 1, 0, 0, 0, [])),
  (11, (30, 3, 0, 1, 0, [15])),
  (14, (4, 2, 1, 0, 30, [])),
  (16, (16, 3, 2, 22, 0, [])),
  (19, (4, 2, 1, 0, (-4), [])),
  (21, (43, 1, 0, 0, 0, [])),
  (22, (1, 1, 0, 0, 0, [])),
  (23, (30, 3, 0, 1, 0, [15])),
  (26, (2, 1, 2, 0, 0, [])),
  (27, (1, 1, 0, 0, 0, [])),
  (28, (30, 3, 0, 0, 0, [11])),
  (31, (0, 1, 2, 0, 0, [])),
  (32, (36, 3, 6, 0, 0, [9])),
  (35, (10, 1, 0, 0, 0, [])),
  (36, (0, 1, 2, 0, 0, [])),
  (37, (0, 1, 1, 0, 0, [])),
  (38, (40, 3, 45, 3, 0, [2, 6, 76])),
  (41, (35, 1, 5, 6, 0, [])),
  (42, (1, 1, 0, 0, 0, [])),
  (43, (10, 1, 0, 0, 0, [])),
  (44, (30, 3, 0, 1, 0, [15])),
  (47, (4, 1, 0, 0, 1, [])),
  (48, (7, 1, 0, 0, 0, [])),
  (49, (31, 3, 0, 1, 0, [15])),
  (52, (0, 1, 2, 0, 0, [])),
  (53, (43, 1, 0, 0, 0, []))]
def sm_m1 : av_Mt := (⟨"StructureMap", "file", "(I)I"⟩, prog_1_method_2_code, 3, some (.int), sm_find sm_c1)
/-- SM_isSize -/
def sm_c2 : List (Nat × av_I) := [
  (0, (0, 1, 0, 0, 0, [])),
  (1, (15, 3, 2, 14, 0, [])),
  (4, (0, 1, 0, 0, 0, [])),
  (5, (4, 2, 3, 113, 100000, [])),
  (7, (16, 3, 4, 14, 0, [])),
  (10, (4, 1, 0, 0, 1, [])),
  (11, (20, 3, 0, 15, 0, [])),
  (14, (4, 1, 0, 0, 0, [])),
  (15, (43, 1, 0, 0, 0, []))]
def sm_m2 : av_Mt := (⟨"StructureMap", "isSize", "(I)Z"⟩, prog_1_method_18_code, 1, some (.boolean), sm_find sm_c2)
/-- SM_size -/
def sm_c3 : List (Nat × av_I) := [
  (0, (1, 1, 0, 0, 0, [])),
  (1, (0, 1, 1, 0, 0, [])),
  (2, (40, 3, 4, 2, 0, [1, 0, 79])),
  (5, (3, 1, 3, 0, 0, [])),
  (6, (1, 1, 3, 0, 0, [])),
  (7, (19, 3, 0, 12, 0, [])),
  (10, (4, 1, 0, 0, (-1), [])),
  (11, (43, 1, 0, 0, 0, [])),
  (12, (0, 1, 2, 0, 0, [])),
  (13, (40, 3, 2, 1, 0, [0, 0, 72])),
  (16, (15, 3, 1, 22, 0, [])),
  (19, (4, 2, 1, 0, (-2), [])),
  (21, (43, 1, 0, 0, 0, [])),
  (22, (1, 1, 3, 0, 0, [])),
  (23, (30, 3, 6, 1, 0, [83])),
  (26, (2, 2, 4, 0, 0, [])),
  (28, (1, 1, 3, 0, 0, [])),
  (29, (0, 1, 2, 0, 0, [])),
  (30, (31, 3, 6, 1, 0, [83])),
  (33, (0, 2, 4, 0, 0, [])),
  (35, (43, 1, 0, 0, 0, []))]
def sm_m3 : av_Mt := (⟨"StructureMap", "size", "(II)I"⟩, prog_1_method_3_code, 5, some (.int), sm_find sm_c3)
/-- SM_findFile -/
def sm_c4 : List (Nat × av_I) := [
  (0, (0, 1, 1, 0, 0, [])),
  (1, (15, 3, 2, 12, 0, [])),
  (4, (0, 1, 1, 0, 0, [])),
  (5, (1, 1, 0, 0, 0, [])),
  (6, (30, 3, 0, 1, 0, [15])),
  (9, (16, 3, 2, 16, 0, [])),
  (12, (5, 1, 0, 0, 0, [])),
  (13, (20, 3, 0, 22, 0, [])),
  (16, (1, 1, 0, 0, 0, [])),
  (17, (30, 3, 0, 0, 0, [11])),
  (20, (0, 1, 1, 0, 0, [])),
  (21, (33, 1, 5, 0, 0, [])),
  (22, (43, 1, 0, 0, 0, []))]
def sm_m4 : av_Mt := (⟨"StructureMap", "findFile", "(I)LStructureMap$SizedFile;"⟩, prog_1_method_19_code, 2, some (.object "StructureMap$SizedFile"), sm_find sm_c4)
/-- SM_map -/
def sm_c5 : List (Nat × av_I) := [
  (0, (0, 1, 1, 0, 0, [])),
  (1, (15, 3, 0, 12, 0, [])),
  (4, (0, 1, 1, 0, 0, [])),
  (5, (4, 1, 0, 0, 1, [])),
  (6, (16, 3, 0, 12, 0, [])),
  (9, (4, 2, 1, 0, (-2), [])),
  (11, (43, 1, 0, 0, 0, [])),
  (12, (1, 1, 0, 0, 0, [])),
  (13, (30, 3, 0, 3, 0, [25])),
  (16, (4, 1, 0, 0, 5, [])),
  (17, (16, 3, 2, 23, 0, [])),
  (20, (4, 2, 1, 0, (-4), [])),
  (22, (43, 1, 0, 0, 0, [])),
  (23, (1, 1, 0, 0, 0, [])),
  (24, (30, 3, 0, 3, 0, [25])),
  (27, (2, 1, 2, 0, 0, [])),
  (28, (1, 1, 0, 0, 0, [])),
  (29, (30, 3, 0, 2, 0, [21])),
  (32, (0, 1, 2, 0, 0, [])),
  (33, (36, 3, 7, 0, 0, [19])),
  (36, (10, 1, 0, 0, 0, [])),
  (37, (0, 1, 2, 0, 0, [])),
  (38, (0, 1, 1, 0, 0, [])),
  (39, (40, 3, 49, 3, 0, [2, 7, 86])),
  (42, (35, 1, 6, 7, 0, [])),
  (43, (1, 1, 0, 0, 0, [])),
  (44, (10, 1, 0, 0, 0, [])),
  (45, (30, 3, 0, 3, 0, [25])),
  (48, (4, 1, 0, 0, 1, [])),
  (49, (7, 1, 0, 0, 0, [])),
  (50, (31, 3, 0, 3, 0, [25])),
  (53, (0, 1, 2, 0, 0, [])),
  (54, (43, 1, 0, 0, 0, []))]
def sm_m5 : av_Mt := (⟨"StructureMap", "map", "(I)I"⟩, prog_1_method_4_code, 3, some (.int), sm_find sm_c5)
/-- SM_division -/
def sm_c6 : List (Nat × av_I) := [
  (0, (1, 1, 0, 0, 0, [])),
  (1, (0, 1, 1, 0, 0, [])),
  (2, (40, 3, 7, 2, 0, [1, 0, 87])),
  (5, (3, 2, 5, 0, 0, [])),
  (7, (1, 2, 5, 0, 0, [])),
  (9, (19, 3, 0, 14, 0, [])),
  (12, (4, 1, 0, 0, (-1), [])),
  (13, (43, 1, 0, 0, 0, [])),
  (14, (1, 1, 0, 0, 0, [])),
  (15, (1, 2, 5, 0, 0, [])),
  (17, (0, 1, 2, 0, 0, [])),
  (18, (40, 3, 8, 3, 0, [1, 0, 91])),
  (21, (3, 2, 6, 0, 0, [])),
  (23, (1, 2, 6, 0, 0, [])),
  (25, (19, 3, 0, 30, 0, [])),
  (28, (4, 1, 0, 0, (-1), [])),
  (29, (43, 1, 0, 0, 0, [])),
  (30, (0, 1, 3, 0, 0, [])),
  (31, (15, 3, 2, 54, 0, [])),
  (34, (0, 1, 3, 0, 0, [])),
  (35, (4, 3, 2, 0, 999, [])),
  (38, (16, 3, 4, 54, 0, [])),
  (41, (0, 2, 4, 0, 0, [])),
  (43, (15, 3, 2, 54, 0, [])),
  (46, (0, 2, 4, 0, 0, [])),
  (48, (4, 3, 2, 0, 9999, [])),
  (51, (16, 3, 5, 57, 0, [])),
  (54, (4, 2, 1, 0, (-2), [])),
  (56, (43, 1, 0, 0, 0, [])),
  (57, (1, 2, 6, 0, 0, [])),
  (59, (30, 3, 8, 1, 0, [95])),
  (62, (0, 1, 1, 0, 0, [])),
  (63, (16, 3, 1, 74, 0, [])),
  (66, (1, 2, 6, 0, 0, [])),
  (68, (30, 3, 8, 9, 0, [98])),
  (71, (18, 3, 0, 77, 0, [])),
  (74, (4, 2, 1, 0, (-3), [])),
  (76, (43, 1, 0, 0, 0, [])),
  (77, (1, 1, 0, 0, 0, [])),
  (78, (30, 3, 0, 5, 0, [34])),
  (81, (4, 2, 1, 0, 120, [])),
  (83, (16, 3, 2, 89, 0, [])),
  (86, (4, 2, 1, 0, (-4), [])),
  (88, (43, 1, 0, 0, 0, [])),
  (89, (1, 1, 0, 0, 0, [])),
  (90, (30, 3, 0, 5, 0, [34])),
  (93, (2, 2, 7, 0, 0, [])),
  (95, (36, 3, 8, 0, 0, [28])),
  (98, (10, 1, 0, 0, 0, [])),
  (99, (0, 2, 7, 0, 0, [])),
  (101, (0, 1, 1, 0, 0, [])),
  (102, (0, 1, 3, 0, 0, [])),
  (103, (0, 2, 4, 0, 0, [])),
  (105, (40, 3, 50, 5, 0, [2, 8, 102])),
  (108, (3, 2, 8, 0, 0, [])),
  (110, (1, 1, 0, 0, 0, [])),
  (111, (30, 3, 0, 4, 0, [30])),
  (114, (0, 2, 7, 0, 0, [])),
  (116, (1, 2, 8, 0, 0, [])),
  (118, (35, 1, 7, 8, 0, [])),
  (119, (1, 1, 0, 0, 0, [])),
  (120, (10, 1, 0, 0, 0, [])),
  (121, (30, 3, 0, 5, 0, [34])),
  (124, (4, 1, 0, 0, 1, [])),
  (125, (7, 1, 0, 0, 0, [])),
  (126, (31, 3, 0, 5, 0, [34])),
  (129, (1, 2, 6, 0, 0, [])),
  (131, (1, 2, 8, 0, 0, [])),
  (133, (40, 3, 51, 2, 0, [1, 8, 105])),
  (136, (0, 2, 7, 0, 0, [])),
  (138, (43, 1, 0, 0, 0, []))]
def sm_m6 : av_Mt := (⟨"StructureMap", "division", "(IIII)I"⟩, prog_1_method_5_code, 9, some (.int), sm_find sm_c6)
/-- SM_findTree -/
def sm_c7 : List (Nat × av_I) := [
  (0, (0, 1, 1, 0, 0, [])),
  (1, (15, 3, 2, 12, 0, [])),
  (4, (0, 1, 1, 0, 0, [])),
  (5, (1, 1, 0, 0, 0, [])),
  (6, (30, 3, 0, 3, 0, [25])),
  (9, (16, 3, 2, 16, 0, [])),
  (12, (5, 1, 0, 0, 0, [])),
  (13, (20, 3, 0, 22, 0, [])),
  (16, (1, 1, 0, 0, 0, [])),
  (17, (30, 3, 0, 2, 0, [21])),
  (20, (0, 1, 1, 0, 0, [])),
  (21, (33, 1, 6, 0, 0, [])),
  (22, (43, 1, 0, 0, 0, []))]
def sm_m7 : av_Mt := (⟨"StructureMap", "findTree", "(I)LStructureMap$Tree;"⟩, prog_1_method_20_code, 2, some (.object "StructureMap$Tree"), sm_find sm_c7)
/-- SM_findParent -/
def sm_c8 : List (Nat × av_I) := [
  (0, (0, 1, 2, 0, 0, [])),
  (1, (4, 1, 0, 0, (-1), [])),
  (2, (16, 3, 1, 12, 0, [])),
  (5, (1, 1, 1, 0, 0, [])),
  (6, (30, 3, 7, 1, 0, [143])),
  (9, (20, 3, 0, 17, 0, [])),
  (12, (1, 1, 0, 0, 0, [])),
  (13, (0, 1, 2, 0, 0, [])),
  (14, (40, 3, 9, 2, 0, [1, 0, 109])),
  (17, (43, 1, 0, 0, 0, []))]
def sm_m8 : av_Mt := (⟨"StructureMap", "findParent", "(LStructureMap$Tree;I)LStructureMap$Division;"⟩, prog_1_method_22_code, 3, some (.object "StructureMap$Division"), sm_find sm_c8)
/-- SM_findDivision -/
def sm_c9 : List (Nat × av_I) := [
  (0, (0, 1, 1, 0, 0, [])),
  (1, (15, 3, 2, 12, 0, [])),
  (4, (0, 1, 1, 0, 0, [])),
  (5, (1, 1, 0, 0, 0, [])),
  (6, (30, 3, 0, 5, 0, [34])),
  (9, (16, 3, 2, 16, 0, [])),
  (12, (5, 1, 0, 0, 0, [])),
  (13, (20, 3, 0, 22, 0, [])),
  (16, (1, 1, 0, 0, 0, [])),
  (17, (30, 3, 0, 4, 0, [30])),
  (20, (0, 1, 1, 0, 0, [])),
  (21, (33, 1, 7, 0, 0, [])),
  (22, (43, 1, 0, 0, 0, []))]
def sm_m9 : av_Mt := (⟨"StructureMap", "findDivision", "(I)LStructureMap$Division;"⟩, prog_1_method_21_code, 2, some (.object "StructureMap$Division"), sm_find sm_c9)
/-- SM_link -/
def sm_c10 : List (Nat × av_I) := [
  (0, (1, 1, 0, 0, 0, [])),
  (1, (0, 1, 1, 0, 0, [])),
  (2, (40, 3, 9, 2, 0, [1, 0, 109])),
  (5, (3, 2, 5, 0, 0, [])),
  (7, (1, 1, 0, 0, 0, [])),
  (8, (0, 1, 2, 0, 0, [])),
  (9, (40, 3, 4, 2, 0, [1, 0, 79])),
  (12, (3, 2, 6, 0, 0, [])),
  (14, (1, 2, 5, 0, 0, [])),
  (16, (18, 3, 0, 24, 0, [])),
  (19, (1, 2, 6, 0, 0, [])),
  (21, (19, 3, 0, 26, 0, [])),
  (24, (4, 1, 0, 0, (-1), [])),
  (25, (43, 1, 0, 0, 0, [])),
  (26, (0, 1, 3, 0, 0, [])),
  (27, (15, 3, 2, 43, 0, [])),
  (30, (0, 2, 4, 0, 0, [])),
  (32, (0, 1, 3, 0, 0, [])),
  (33, (16, 3, 5, 43, 0, [])),
  (36, (0, 2, 4, 0, 0, [])),
  (38, (4, 2, 3, 113, 100000, [])),
  (40, (16, 3, 5, 46, 0, [])),
  (43, (4, 2, 1, 0, (-2), [])),
  (45, (43, 1, 0, 0, 0, [])),
  (46, (1, 2, 5, 0, 0, [])),
  (48, (30, 3, 8, 9, 0, [98])),
  (51, (18, 3, 0, 57, 0, [])),
  (54, (4, 2, 1, 0, (-3), [])),
  (56, (43, 1, 0, 0, 0, [])),
  (57, (1, 2, 5, 0, 0, [])),
  (59, (30, 3, 8, 5, 0, [114])),
  (62, (4, 1, 0, 0, 5, [])),
  (63, (16, 3, 2, 69, 0, [])),
  (66, (4, 2, 1, 0, (-4), [])),
  (68, (43, 1, 0, 0, 0, [])),
  (69, (36, 3, 9, 0, 0, [117])),
  (72, (10, 1, 0, 0, 0, [])),
  (73, (1, 2, 5, 0, 0, [])),
  (75, (1, 2, 6, 0, 0, [])),
  (77, (0, 1, 3, 0, 0, [])),
  (78, (0, 2, 4, 0, 0, [])),
  (80, (40, 3, 60, 5, 0, [2, 9, 119])),
  (83, (3, 2, 7, 0, 0, [])),
  (85, (1, 2, 5, 0, 0, [])),
  (87, (30, 3, 8, 4, 0, [122])),
  (90, (1, 2, 5, 0, 0, [])),
  (92, (30, 3, 8, 5, 0, [114])),
  (95, (1, 2, 7, 0, 0, [])),
  (97, (35, 1, 8, 9, 0, [])),
  (98, (1, 2, 5, 0, 0, [])),
  (100, (10, 1, 0, 0, 0, [])),
  (101, (30, 3, 8, 5, 0, [114])),
  (104, (4, 1, 0, 0, 1, [])),
  (105, (7, 1, 0, 0, 0, [])),
  (106, (31, 3, 8, 5, 0, [114])),
  (109, (1, 2, 6, 0, 0, [])),
  (111, (1, 2, 7, 0, 0, [])),
  (113, (40, 3, 46, 2, 0, [1, 6, 126])),
  (116, (1, 2, 5, 0, 0, [])),
  (118, (30, 3, 8, 5, 0, [114])),
  (121, (43, 1, 0, 0, 0, []))]
def sm_m10 : av_Mt := (⟨"StructureMap", "link", "(IIII)I"⟩, prog_1_method_6_code, 8, some (.int), sm_find sm_c10)
/-- SM_repeat -/
def sm_c11 : List (Nat × av_I) := [
  (0, (1, 1, 0, 0, 0, [])),
  (1, (0, 1, 1, 0, 0, [])),
  (2, (40, 3, 9, 2, 0, [1, 0, 109])),
  (5, (3, 1, 3, 0, 0, [])),
  (6, (1, 1, 0, 0, 0, [])),
  (7, (0, 1, 2, 0, 0, [])),
  (8, (40, 3, 9, 2, 0, [1, 0, 109])),
  (11, (3, 2, 4, 0, 0, [])),
  (13, (1, 1, 3, 0, 0, [])),
  (14, (18, 3, 0, 22, 0, [])),
  (17, (1, 2, 4, 0, 0, [])),
  (19, (19, 3, 0, 24, 0, [])),
  (22, (4, 1, 0, 0, (-1), [])),
  (23, (43, 1, 0, 0, 0, [])),
  (24, (1, 1, 3, 0, 0, [])),
  (25, (40, 3, 53, 1, 0, [1, 8, 129])),
  (28, (15, 3, 0, 43, 0, [])),
  (31, (1, 1, 3, 0, 0, [])),
  (32, (30, 3, 8, 1, 0, [95])),
  (35, (1, 2, 4, 0, 0, [])),
  (37, (30, 3, 8, 1, 0, [95])),
  (40, (16, 3, 0, 46, 0, [])),
  (43, (4, 2, 1, 0, (-3), [])),
  (45, (43, 1, 0, 0, 0, [])),
  (46, (1, 1, 0, 0, 0, [])),
  (47, (30, 3, 0, 6, 0, [40])),
  (50, (1, 2, 4, 0, 0, [])),
  (52, (1, 1, 3, 0, 0, [])),
  (53, (40, 3, 25, 3, 0, [1, 1, 133])),
  (56, (15, 3, 0, 62, 0, [])),
  (59, (4, 2, 1, 0, (-3), [])),
  (61, (43, 1, 0, 0, 0, [])),
  (62, (1, 1, 3, 0, 0, [])),
  (63, (1, 2, 4, 0, 0, [])),
  (65, (31, 3, 8, 9, 0, [98])),
  (68, (4, 1, 0, 0, 1, [])),
  (69, (43, 1, 0, 0, 0, []))]
def sm_m11 : av_Mt := (⟨"StructureMap", "repeat", "(II)I"⟩, prog_1_method_7_code, 5, some (.int), sm_find sm_c11)
/-- SM_move -/
def sm_c12 : List (Nat × av_I) := [
  (0, (1, 1, 0, 0, 0, [])),
  (1, (0, 1, 1, 0, 0, [])),
  (2, (40, 3, 9, 2, 0, [1, 0, 109])),
  (5, (3, 1, 3, 0, 0, [])),
  (6, (1, 1, 3, 0, 0, [])),
  (7, (19, 3, 0, 12, 0, [])),
  (10, (4, 1, 0, 0, (-1), [])),
  (11, (43, 1, 0, 0, 0, [])),
  (12, (1, 1, 0, 0, 0, [])),
  (13, (1, 1, 3, 0, 0, [])),
  (14, (30, 3, 8, 1, 0, [95])),
  (17, (40, 3, 7, 2, 0, [1, 0, 87])),
  (20, (3, 2, 4, 0, 0, [])),
  (22, (1, 2, 4, 0, 0, [])),
  (24, (19, 3, 0, 29, 0, [])),
  (27, (4, 1, 0, 0, (-1), [])),
  (28, (43, 1, 0, 0, 0, [])),
  (29, (1, 1, 0, 0, 0, [])),
  (30, (1, 2, 4, 0, 0, [])),
  (32, (0, 1, 2, 0, 0, [])),
  (33, (40, 3, 8, 3, 0, [1, 0, 91])),
  (36, (3, 2, 5, 0, 0, [])),
  (38, (1, 2, 5, 0, 0, [])),
  (40, (19, 3, 0, 45, 0, [])),
  (43, (4, 1, 0, 0, (-1), [])),
  (44, (43, 1, 0, 0, 0, [])),
  (45, (1, 2, 5, 0, 0, [])),
  (47, (30, 3, 8, 1, 0, [95])),
  (50, (1, 1, 3, 0, 0, [])),
  (51, (30, 3, 8, 1, 0, [95])),
  (54, (16, 3, 1, 65, 0, [])),
  (57, (1, 2, 5, 0, 0, [])),
  (59, (30, 3, 8, 9, 0, [98])),
  (62, (18, 3, 0, 68, 0, [])),
  (65, (4, 2, 1, 0, (-3), [])),
  (67, (43, 1, 0, 0, 0, [])),
  (68, (1, 1, 0, 0, 0, [])),
  (69, (30, 3, 0, 6, 0, [40])),
  (72, (1, 1, 3, 0, 0, [])),
  (73, (1, 2, 5, 0, 0, [])),
  (75, (40, 3, 25, 3, 0, [1, 1, 133])),
  (78, (15, 3, 0, 84, 0, [])),
  (81, (4, 2, 1, 0, (-3), [])),
  (83, (43, 1, 0, 0, 0, [])),
  (84, (1, 1, 3, 0, 0, [])),
  (85, (30, 3, 8, 6, 0, [137])),
  (88, (18, 3, 0, 99, 0, [])),
  (91, (1, 1, 3, 0, 0, [])),
  (92, (30, 3, 8, 6, 0, [137])),
  (95, (1, 1, 3, 0, 0, [])),
  (96, (40, 3, 54, 2, 0, [1, 8, 140])),
  (99, (1, 2, 5, 0, 0, [])),
  (101, (1, 1, 3, 0, 0, [])),
  (102, (40, 3, 51, 2, 0, [1, 8, 105])),
  (105, (4, 1, 0, 0, 1, [])),
  (106, (43, 1, 0, 0, 0, []))]
def sm_m12 : av_Mt := (⟨"StructureMap", "move", "(II)I"⟩, prog_1_method_8_code, 6, some (.int), sm_find sm_c12)
/-- SM_order -/
def sm_c13 : List (Nat × av_I) := [
  (0, (1, 1, 0, 0, 0, [])),
  (1, (0, 1, 1, 0, 0, [])),
  (2, (40, 3, 7, 2, 0, [1, 0, 87])),
  (5, (3, 1, 3, 0, 0, [])),
  (6, (1, 1, 3, 0, 0, [])),
  (7, (18, 3, 0, 22, 0, [])),
  (10, (0, 1, 2, 0, 0, [])),
  (11, (15, 3, 2, 22, 0, [])),
  (14, (0, 1, 2, 0, 0, [])),
  (15, (1, 1, 0, 0, 0, [])),
  (16, (30, 3, 0, 5, 0, [34])),
  (19, (16, 3, 2, 24, 0, [])),
  (22, (4, 1, 0, 0, (-1), [])),
  (23, (43, 1, 0, 0, 0, [])),
  (24, (1, 1, 3, 0, 0, [])),
  (25, (30, 3, 7, 1, 0, [143])),
  (28, (1, 1, 3, 0, 0, [])),
  (29, (30, 3, 7, 1, 0, [143])),
  (32, (40, 3, 55, 2, 0, [1, 8, 146])),
  (35, (3, 2, 4, 0, 0, [])),
  (37, (4, 1, 0, 0, 0, [])),
  (38, (2, 2, 5, 0, 0, [])),
  (40, (0, 2, 5, 0, 0, [])),
  (42, (0, 1, 2, 0, 0, [])),
  (43, (16, 3, 3, 68, 0, [])),
  (46, (1, 2, 4, 0, 0, [])),
  (48, (18, 3, 0, 68, 0, [])),
  (51, (1, 2, 4, 0, 0, [])),
  (53, (1, 1, 3, 0, 0, [])),
  (54, (30, 3, 7, 1, 0, [143])),
  (57, (40, 3, 55, 2, 0, [1, 8, 146])),
  (60, (3, 2, 4, 0, 0, [])),
  (62, (6, 3, 5, 0, 1, [])),
  (65, (20, 3, 0, 40, 0, [])),
  (68, (1, 2, 4, 0, 0, [])),
  (70, (19, 3, 0, 77, 0, [])),
  (73, (4, 1, 0, 0, (-1), [])),
  (74, (20, 3, 0, 82, 0, [])),
  (77, (1, 2, 4, 0, 0, [])),
  (79, (30, 3, 8, 0, 0, [150])),
  (82, (43, 1, 0, 0, 0, []))]
def sm_m13 : av_Mt := (⟨"StructureMap", "order", "(II)I"⟩, prog_1_method_9_code, 6, some (.int), sm_find sm_c13)
/-- SM_read -/
def sm_c14 : List (Nat × av_I) := [
  (0, (1, 1, 0, 0, 0, [])),
  (1, (0, 1, 1, 0, 0, [])),
  (2, (40, 3, 7, 2, 0, [1, 0, 87])),
  (5, (3, 1, 2, 0, 0, [])),
  (6, (1, 1, 2, 0, 0, [])),
  (7, (19, 3, 0, 12, 0, [])),
  (10, (4, 1, 0, 0, (-1), [])),
  (11, (43, 1, 0, 0, 0, [])),
  (12, (1, 1, 0, 0, 0, [])),
  (13, (30, 3, 0, 7, 0, [47])),
  (16, (1, 1, 2, 0, 0, [])),
  (17, (30, 3, 7, 1, 0, [143])),
  (20, (40, 3, 30, 2, 0, [1, 2, 153])),
  (23, (1, 1, 0, 0, 0, [])),
  (24, (30, 3, 0, 8, 0, [54])),
  (27, (1, 1, 0, 0, 0, [])),
  (28, (30, 3, 0, 7, 0, [47])),
  (31, (40, 3, 36, 2, 0, [1, 3, 156])),
  (34, (1, 1, 0, 0, 0, [])),
  (35, (30, 3, 0, 8, 0, [54])),
  (38, (30, 3, 3, 2, 0, [160])),
  (41, (43, 1, 0, 0, 0, []))]
def sm_m14 : av_Mt := (⟨"StructureMap", "read", "(I)I"⟩, prog_1_method_10_code, 3, some (.int), sm_find sm_c14)
/-- SM_step -/
def sm_c15 : List (Nat × av_I) := [
  (0, (1, 1, 0, 0, 0, [])),
  (1, (30, 3, 0, 8, 0, [54])),
  (4, (0, 1, 1, 0, 0, [])),
  (5, (0, 1, 2, 0, 0, [])),
  (6, (40, 3, 38, 3, 0, [1, 3, 163])),
  (9, (43, 1, 0, 0, 0, []))]
def sm_m15 : av_Mt := (⟨"StructureMap", "step", "(II)I"⟩, prog_1_method_11_code, 3, some (.int), sm_find sm_c15)
/-- SM_check -/
def sm_c16 : List (Nat × av_I) := [
  (0, (1, 1, 0, 0, 0, [])),
  (1, (0, 1, 1, 0, 0, [])),
  (2, (40, 3, 7, 2, 0, [1, 0, 87])),
  (5, (3, 1, 2, 0, 0, [])),
  (6, (1, 1, 2, 0, 0, [])),
  (7, (19, 3, 0, 12, 0, [])),
  (10, (4, 1, 0, 0, (-1), [])),
  (11, (43, 1, 0, 0, 0, [])),
  (12, (1, 1, 0, 0, 0, [])),
  (13, (30, 3, 0, 9, 0, [61])),
  (16, (4, 1, 0, 0, 0, [])),
  (17, (31, 3, 4, 2, 0, [167])),
  (20, (4, 1, 0, 0, 0, [])),
  (21, (2, 1, 3, 0, 0, [])),
  (22, (0, 1, 3, 0, 0, [])),
  (23, (1, 1, 0, 0, 0, [])),
  (24, (30, 3, 0, 5, 0, [34])),
  (27, (16, 3, 3, 64, 0, [])),
  (30, (1, 1, 0, 0, 0, [])),
  (31, (30, 3, 0, 4, 0, [30])),
  (34, (0, 1, 3, 0, 0, [])),
  (35, (33, 1, 7, 0, 0, [])),
  (36, (3, 2, 4, 0, 0, [])),
  (38, (1, 2, 4, 0, 0, [])),
  (40, (18, 3, 0, 58, 0, [])),
  (43, (1, 2, 4, 0, 0, [])),
  (45, (30, 3, 8, 1, 0, [95])),
  (48, (0, 1, 1, 0, 0, [])),
  (49, (16, 3, 1, 58, 0, [])),
  (52, (1, 1, 0, 0, 0, [])),
  (53, (1, 2, 4, 0, 0, [])),
  (55, (40, 3, 17, 2, 0, [1, 0, 168])),
  (58, (6, 3, 3, 0, 1, [])),
  (61, (20, 3, 0, 22, 0, [])),
  (64, (1, 1, 2, 0, 0, [])),
  (65, (30, 3, 7, 0, 0, [171])),
  (68, (15, 3, 1, 108, 0, [])),
  (71, (1, 1, 0, 0, 0, [])),
  (72, (30, 3, 0, 7, 0, [47])),
  (75, (1, 1, 2, 0, 0, [])),
  (76, (30, 3, 7, 1, 0, [143])),
  (79, (40, 3, 30, 2, 0, [1, 2, 153])),
  (82, (4, 1, 0, 0, 0, [])),
  (83, (2, 1, 3, 0, 0, [])),
  (84, (0, 1, 3, 0, 0, [])),
  (85, (1, 1, 0, 0, 0, [])),
  (86, (30, 3, 0, 1, 0, [15])),
  (89, (16, 3, 3, 108, 0, [])),
  (92, (1, 1, 0, 0, 0, [])),
  (93, (1, 1, 0, 0, 0, [])),
  (94, (30, 3, 0, 0, 0, [11])),
  (97, (0, 1, 3, 0, 0, [])),
  (98, (33, 1, 5, 0, 0, [])),
  (99, (40, 3, 18, 2, 0, [1, 0, 174])),
  (102, (6, 3, 3, 0, 1, [])),
  (105, (20, 3, 0, 84, 0, [])),
  (108, (1, 1, 0, 0, 0, [])),
  (109, (30, 3, 0, 9, 0, [61])),
  (112, (30, 3, 4, 2, 0, [167])),
  (115, (43, 1, 0, 0, 0, []))]
def sm_m16 : av_Mt := (⟨"StructureMap", "check", "(I)I"⟩, prog_1_method_12_code, 5, some (.int), sm_find sm_c16)
/-- SM_addFaultsOfDivision -/
def sm_c17 : List (Nat × av_I) := [
  (0, (1, 1, 1, 0, 0, [])),
  (1, (40, 3, 53, 1, 0, [1, 8, 129])),
  (4, (15, 3, 0, 19, 0, [])),
  (7, (1, 1, 0, 0, 0, [])),
  (8, (30, 3, 0, 9, 0, [61])),
  (11, (4, 1, 0, 0, 1, [])),
  (12, (1, 1, 1, 0, 0, [])),
  (13, (30, 3, 8, 0, 0, [150])),
  (16, (40, 3, 40, 3, 0, [1, 4, 212])),
  (19, (1, 1, 1, 0, 0, [])),
  (20, (40, 3, 56, 1, 0, [1, 8, 215])),
  (23, (15, 3, 0, 38, 0, [])),
  (26, (1, 1, 0, 0, 0, [])),
  (27, (30, 3, 0, 9, 0, [61])),
  (30, (4, 1, 0, 0, 2, [])),
  (31, (1, 1, 1, 0, 0, [])),
  (32, (30, 3, 8, 0, 0, [150])),
  (35, (40, 3, 40, 3, 0, [1, 4, 212])),
  (38, (1, 1, 1, 0, 0, [])),
  (39, (40, 3, 57, 1, 0, [1, 8, 218])),
  (42, (15, 3, 0, 57, 0, [])),
  (45, (1, 1, 0, 0, 0, [])),
  (46, (30, 3, 0, 9, 0, [61])),
  (49, (4, 1, 0, 0, 3, [])),
  (50, (1, 1, 1, 0, 0, [])),
  (51, (30, 3, 8, 0, 0, [150])),
  (54, (40, 3, 40, 3, 0, [1, 4, 212])),
  (57, (42, 1, 0, 0, 0, []))]
def sm_m17 : av_Mt := (⟨"StructureMap", "addFaultsOfDivision", "(LStructureMap$Division;)V"⟩, prog_1_method_24_code, 2, none, sm_find sm_c17)
/-- SM_addFaultsOfFile -/
def sm_c18 : List (Nat × av_I) := [
  (0, (1, 1, 1, 0, 0, [])),
  (1, (19, 3, 0, 5, 0, [])),
  (4, (42, 1, 0, 0, 0, [])),
  (5, (1, 1, 1, 0, 0, [])),
  (6, (1, 1, 0, 0, 0, [])),
  (7, (30, 3, 0, 7, 0, [47])),
  (10, (30, 3, 2, 3, 0, [221])),
  (13, (40, 3, 47, 2, 0, [1, 6, 224])),
  (16, (15, 3, 0, 31, 0, [])),
  (19, (1, 1, 0, 0, 0, [])),
  (20, (30, 3, 0, 9, 0, [61])),
  (23, (4, 1, 0, 0, 4, [])),
  (24, (1, 1, 1, 0, 0, [])),
  (25, (30, 3, 6, 0, 0, [228])),
  (28, (40, 3, 40, 3, 0, [1, 4, 212])),
  (31, (1, 1, 1, 0, 0, [])),
  (32, (1, 1, 0, 0, 0, [])),
  (33, (30, 3, 0, 7, 0, [47])),
  (36, (30, 3, 2, 3, 0, [221])),
  (39, (40, 3, 48, 2, 0, [1, 6, 229])),
  (42, (15, 3, 0, 57, 0, [])),
  (45, (1, 1, 0, 0, 0, [])),
  (46, (30, 3, 0, 9, 0, [61])),
  (49, (4, 1, 0, 0, 5, [])),
  (50, (1, 1, 1, 0, 0, [])),
  (51, (30, 3, 6, 0, 0, [228])),
  (54, (40, 3, 40, 3, 0, [1, 4, 212])),
  (57, (42, 1, 0, 0, 0, []))]
def sm_m18 : av_Mt := (⟨"StructureMap", "addFaultsOfFile", "(LStructureMap$SizedFile;)V"⟩, prog_1_method_25_code, 2, none, sm_find sm_c18)
/-- SM_print -/
def sm_c19 : List (Nat × av_I) := [
  (0, (1, 1, 0, 0, 0, [])),
  (1, (0, 1, 1, 0, 0, [])),
  (2, (40, 3, 7, 2, 0, [1, 0, 87])),
  (5, (3, 1, 2, 0, 0, [])),
  (6, (1, 1, 2, 0, 0, [])),
  (7, (19, 3, 0, 12, 0, [])),
  (10, (4, 1, 0, 0, (-1), [])),
  (11, (43, 1, 0, 0, 0, [])),
  (12, (1, 1, 0, 0, 0, [])),
  (13, (30, 3, 0, 10, 0, [68])),
  (16, (4, 1, 0, 0, 0, [])),
  (17, (31, 3, 5, 1, 0, [188])),
  (20, (1, 1, 2, 0, 0, [])),
  (21, (30, 3, 7, 1, 0, [143])),
  (24, (1, 1, 2, 0, 0, [])),
  (25, (30, 3, 7, 1, 0, [143])),
  (28, (40, 3, 55, 2, 0, [1, 8, 146])),
  (31, (3, 1, 3, 0, 0, [])),
  (32, (4, 1, 0, 0, 0, [])),
  (33, (2, 2, 4, 0, 0, [])),
  (35, (0, 2, 4, 0, 0, [])),
  (37, (4, 2, 1, 0, 120, [])),
  (39, (16, 3, 3, 69, 0, [])),
  (42, (1, 1, 3, 0, 0, [])),
  (43, (18, 3, 0, 69, 0, [])),
  (46, (1, 1, 0, 0, 0, [])),
  (47, (30, 3, 0, 10, 0, [68])),
  (50, (1, 1, 3, 0, 0, [])),
  (51, (40, 3, 42, 2, 0, [1, 5, 189])),
  (54, (1, 1, 3, 0, 0, [])),
  (55, (1, 1, 2, 0, 0, [])),
  (56, (30, 3, 7, 1, 0, [143])),
  (59, (40, 3, 55, 2, 0, [1, 8, 146])),
  (62, (3, 1, 3, 0, 0, [])),
  (63, (6, 3, 4, 0, 1, [])),
  (66, (20, 3, 0, 35, 0, [])),
  (69, (1, 1, 0, 0, 0, [])),
  (70, (30, 3, 0, 10, 0, [68])),
  (73, (30, 3, 5, 1, 0, [188])),
  (76, (43, 1, 0, 0, 0, []))]
def sm_m19 : av_Mt := (⟨"StructureMap", "print", "(I)I"⟩, prog_1_method_14_code, 5, some (.int), sm_find sm_c19)
/-- SM_at -/
def sm_c20 : List (Nat × av_I) := [
  (0, (0, 1, 1, 0, 0, [])),
  (1, (15, 3, 2, 15, 0, [])),
  (4, (0, 1, 1, 0, 0, [])),
  (5, (1, 1, 0, 0, 0, [])),
  (6, (30, 3, 0, 10, 0, [68])),
  (9, (30, 3, 5, 1, 0, [188])),
  (12, (16, 3, 2, 17, 0, [])),
  (15, (4, 1, 0, 0, (-1), [])),
  (16, (43, 1, 0, 0, 0, [])),
  (17, (1, 1, 0, 0, 0, [])),
  (18, (30, 3, 0, 10, 0, [68])),
  (21, (30, 3, 5, 0, 0, [192])),
  (24, (0, 1, 1, 0, 0, [])),
  (25, (33, 1, 1, 0, 0, [])),
  (26, (43, 1, 0, 0, 0, []))]
def sm_m20 : av_Mt := (⟨"StructureMap", "at", "(I)I"⟩, prog_1_method_15_code, 2, some (.int), sm_find sm_c20)
/-- SM_differ -/
def sm_c21 : List (Nat × av_I) := [
  (0, (1, 1, 0, 0, 0, [])),
  (1, (0, 1, 1, 0, 0, [])),
  (2, (40, 3, 7, 2, 0, [1, 0, 87])),
  (5, (3, 1, 3, 0, 0, [])),
  (6, (1, 1, 0, 0, 0, [])),
  (7, (0, 1, 2, 0, 0, [])),
  (8, (40, 3, 7, 2, 0, [1, 0, 87])),
  (11, (3, 2, 4, 0, 0, [])),
  (13, (1, 1, 3, 0, 0, [])),
  (14, (18, 3, 0, 22, 0, [])),
  (17, (1, 2, 4, 0, 0, [])),
  (19, (19, 3, 0, 24, 0, [])),
  (22, (4, 1, 0, 0, (-1), [])),
  (23, (43, 1, 0, 0, 0, [])),
  (24, (1, 1, 3, 0, 0, [])),
  (25, (30, 3, 7, 1, 0, [143])),
  (28, (1, 1, 3, 0, 0, [])),
  (29, (30, 3, 7, 1, 0, [143])),
  (32, (40, 3, 55, 2, 0, [1, 8, 146])),
  (35, (3, 2, 5, 0, 0, [])),
  (37, (1, 2, 4, 0, 0, [])),
  (39, (30, 3, 7, 1, 0, [143])),
  (42, (1, 2, 4, 0, 0, [])),
  (44, (30, 3, 7, 1, 0, [143])),
  (47, (40, 3, 55, 2, 0, [1, 8, 146])),
  (50, (3, 2, 6, 0, 0, [])),
  (52, (4, 1, 0, 0, 0, [])),
  (53, (2, 2, 7, 0, 0, [])),
  (55, (4, 1, 0, 0, 0, [])),
  (56, (2, 2, 8, 0, 0, [])),
  (58, (0, 2, 8, 0, 0, [])),
  (60, (4, 2, 1, 0, 120, [])),
  (62, (16, 3, 3, 135, 0, [])),
  (65, (1, 2, 5, 0, 0, [])),
  (67, (19, 3, 0, 75, 0, [])),
  (70, (1, 2, 6, 0, 0, [])),
  (72, (18, 3, 0, 135, 0, [])),
  (75, (1, 2, 5, 0, 0, [])),
  (77, (1, 2, 6, 0, 0, [])),
  (79, (40, 3, 22, 2, 0, [0, 0, 196])),
  (82, (15, 3, 0, 88, 0, [])),
  (85, (6, 3, 7, 0, 1, [])),
  (88, (1, 2, 5, 0, 0, [])),
  (90, (19, 3, 0, 97, 0, [])),
  (93, (5, 1, 0, 0, 0, [])),
  (94, (20, 3, 0, 106, 0, [])),
  (97, (1, 2, 5, 0, 0, [])),
  (99, (1, 1, 3, 0, 0, [])),
  (100, (30, 3, 7, 1, 0, [143])),
  (103, (40, 3, 55, 2, 0, [1, 8, 146])),
  (106, (3, 2, 5, 0, 0, [])),
  (108, (1, 2, 6, 0, 0, [])),
  (110, (19, 3, 0, 117, 0, [])),
  (113, (5, 1, 0, 0, 0, [])),
  (114, (20, 3, 0, 127, 0, [])),
  (117, (1, 2, 6, 0, 0, [])),
  (119, (1, 2, 4, 0, 0, [])),
  (121, (30, 3, 7, 1, 0, [143])),
  (124, (40, 3, 55, 2, 0, [1, 8, 146])),
  (127, (3, 2, 6, 0, 0, [])),
  (129, (6, 3, 8, 0, 1, [])),
  (132, (20, 3, 0, 58, 0, [])),
  (135, (0, 2, 7, 0, 0, [])),
  (137, (43, 1, 0, 0, 0, []))]
def sm_m21 : av_Mt := (⟨"StructureMap", "differ", "(II)I"⟩, prog_1_method_16_code, 9, some (.int), sm_find sm_c21)
/-- SM_areUnlike -/
def sm_c22 : List (Nat × av_I) := [
  (0, (1, 1, 0, 0, 0, [])),
  (1, (18, 3, 0, 8, 0, [])),
  (4, (1, 1, 1, 0, 0, [])),
  (5, (19, 3, 0, 10, 0, [])),
  (8, (4, 1, 0, 0, 1, [])),
  (9, (43, 1, 0, 0, 0, [])),
  (10, (1, 1, 0, 0, 0, [])),
  (11, (30, 3, 8, 3, 0, [202])),
  (14, (1, 1, 1, 0, 0, [])),
  (15, (30, 3, 8, 3, 0, [202])),
  (18, (16, 3, 1, 32, 0, [])),
  (21, (1, 1, 0, 0, 0, [])),
  (22, (40, 3, 58, 1, 0, [1, 8, 209])),
  (25, (1, 1, 1, 0, 0, [])),
  (26, (40, 3, 58, 1, 0, [1, 8, 209])),
  (29, (16, 3, 0, 36, 0, [])),
  (32, (4, 1, 0, 0, 1, [])),
  (33, (20, 3, 0, 37, 0, [])),
  (36, (4, 1, 0, 0, 0, [])),
  (37, (43, 1, 0, 0, 0, []))]
def sm_m22 : av_Mt := (⟨"StructureMap", "areUnlike", "(LStructureMap$Division;LStructureMap$Division;)Z"⟩, prog_1_method_23_code, 2, some (.boolean), sm_find sm_c22)
/-- SM_about -/
def sm_c23 : List (Nat × av_I) := [
  (0, (1, 1, 0, 0, 0, [])),
  (1, (0, 1, 1, 0, 0, [])),
  (2, (40, 3, 9, 2, 0, [1, 0, 109])),
  (5, (3, 1, 3, 0, 0, [])),
  (6, (1, 1, 3, 0, 0, [])),
  (7, (19, 3, 0, 12, 0, [])),
  (10, (4, 1, 0, 0, (-1), [])),
  (11, (43, 1, 0, 0, 0, [])),
  (12, (0, 1, 2, 0, 0, [])),
  (13, (21, 43, 0, 119, 0, [56, 61, 80, 85, 90, 95, 114])),
  (56, (1, 1, 3, 0, 0, [])),
  (57, (30, 3, 8, 1, 0, [95])),
  (60, (43, 1, 0, 0, 0, [])),
  (61, (1, 1, 3, 0, 0, [])),
  (62, (30, 3, 8, 6, 0, [137])),
  (65, (19, 3, 0, 72, 0, [])),
  (68, (4, 1, 0, 0, (-1), [])),
  (69, (20, 3, 0, 79, 0, [])),
  (72, (1, 1, 3, 0, 0, [])),
  (73, (30, 3, 8, 6, 0, [137])),
  (76, (30, 3, 8, 0, 0, [150])),
  (79, (43, 1, 0, 0, 0, [])),
  (80, (1, 1, 3, 0, 0, [])),
  (81, (30, 3, 8, 2, 0, [199])),
  (84, (43, 1, 0, 0, 0, [])),
  (85, (1, 1, 3, 0, 0, [])),
  (86, (30, 3, 8, 3, 0, [202])),
  (89, (43, 1, 0, 0, 0, [])),
  (90, (1, 1, 3, 0, 0, [])),
  (91, (30, 3, 8, 5, 0, [114])),
  (94, (43, 1, 0, 0, 0, [])),
  (95, (1, 1, 3, 0, 0, [])),
  (96, (30, 3, 8, 9, 0, [98])),
  (99, (19, 3, 0, 106, 0, [])),
  (102, (4, 1, 0, 0, (-1), [])),
  (103, (20, 3, 0, 113, 0, [])),
  (106, (1, 1, 3, 0, 0, [])),
  (107, (30, 3, 8, 9, 0, [98])),
  (110, (30, 3, 8, 0, 0, [150])),
  (113, (43, 1, 0, 0, 0, [])),
  (114, (1, 1, 3, 0, 0, [])),
  (115, (40, 3, 59, 1, 0, [1, 8, 205])),
  (118, (43, 1, 0, 0, 0, [])),
  (119, (4, 1, 0, 0, (-1), [])),
  (120, (43, 1, 0, 0, 0, []))]
def sm_m23 : av_Mt := (⟨"StructureMap", "about", "(II)I"⟩, prog_1_method_17_code, 4, some (.int), sm_find sm_c23)
/-- Search_init -/
def sm_c24 : List (Nat × av_I) := [
  (0, (1, 1, 0, 0, 0, [])),
  (1, (41, 3, 0, 0, 0, [3])),
  (4, (1, 1, 0, 0, 0, [])),
  (5, (4, 2, 1, 0, 120, [])),
  (7, (38, 3, 7, 8, 0, [9])),
  (10, (31, 3, 1, 0, 0, [11])),
  (13, (1, 1, 0, 0, 0, [])),
  (14, (4, 2, 1, 0, 120, [])),
  (16, (37, 2, 2, 0, 0, [])),
  (18, (31, 3, 1, 1, 0, [17])),
  (21, (1, 1, 0, 0, 0, [])),
  (22, (4, 1, 0, 0, 0, [])),
  (23, (31, 3, 1, 2, 0, [21])),
  (26, (42, 1, 0, 0, 0, []))]
def sm_m24 : av_Mt := (⟨"StructureMap$Search", "<init>", "()V"⟩, prog_6_method_1_code, 1, none, sm_find sm_c24)
/-- Search_comesTo -/
def sm_c25 : List (Nat × av_I) := [
  (0, (1, 1, 0, 0, 0, [])),
  (1, (40, 3, 26, 1, 0, [1, 1, 25])),
  (4, (1, 1, 0, 0, 0, [])),
  (5, (1, 1, 1, 0, 0, [])),
  (6, (40, 3, 27, 2, 0, [1, 1, 28])),
  (9, (4, 1, 0, 0, 0, [])),
  (10, (2, 1, 3, 0, 0, [])),
  (11, (0, 1, 3, 0, 0, [])),
  (12, (4, 2, 1, 0, 120, [])),
  (14, (16, 3, 3, 53, 0, [])),
  (17, (0, 1, 3, 0, 0, [])),
  (18, (1, 1, 0, 0, 0, [])),
  (19, (30, 3, 1, 2, 0, [21])),
  (22, (16, 3, 3, 53, 0, [])),
  (25, (1, 1, 0, 0, 0, [])),
  (26, (30, 3, 1, 0, 0, [11])),
  (29, (0, 1, 3, 0, 0, [])),
  (30, (33, 1, 7, 0, 0, [])),
  (31, (3, 2, 4, 0, 0, [])),
  (33, (1, 2, 4, 0, 0, [])),
  (35, (1, 1, 2, 0, 0, [])),
  (36, (17, 3, 1, 41, 0, [])),
  (39, (4, 1, 0, 0, 1, [])),
  (40, (43, 1, 0, 0, 0, [])),
  (41, (1, 1, 0, 0, 0, [])),
  (42, (1, 2, 4, 0, 0, [])),
  (44, (40, 3, 28, 2, 0, [1, 1, 32])),
  (47, (6, 3, 3, 0, 1, [])),
  (50, (20, 3, 0, 11, 0, [])),
  (53, (4, 1, 0, 0, 0, [])),
  (54, (43, 1, 0, 0, 0, []))]
def sm_m25 : av_Mt := (⟨"StructureMap$Search", "comesTo", "(LStructureMap$Division;LStructureMap$Division;)Z"⟩, prog_6_method_2_code, 5, some (.boolean), sm_find sm_c25)
/-- Search_forget -/
def sm_c26 : List (Nat × av_I) := [
  (0, (4, 1, 0, 0, 0, [])),
  (1, (2, 1, 1, 0, 0, [])),
  (2, (0, 1, 1, 0, 0, [])),
  (3, (1, 1, 0, 0, 0, [])),
  (4, (30, 3, 1, 1, 0, [17])),
  (7, (32, 1, 0, 0, 0, [])),
  (8, (16, 3, 3, 24, 0, [])),
  (11, (1, 1, 0, 0, 0, [])),
  (12, (30, 3, 1, 1, 0, [17])),
  (15, (0, 1, 1, 0, 0, [])),
  (16, (4, 1, 0, 0, 0, [])),
  (17, (34, 1, 2, 0, 0, [])),
  (18, (6, 3, 1, 0, 1, [])),
  (21, (20, 3, 0, 2, 0, [])),
  (24, (1, 1, 0, 0, 0, [])),
  (25, (4, 1, 0, 0, 0, [])),
  (26, (31, 3, 1, 2, 0, [21])),
  (29, (42, 1, 0, 0, 0, []))]
def sm_m26 : av_Mt := (⟨"StructureMap$Search", "forget", "()V"⟩, prog_6_method_3_code, 2, none, sm_find sm_c26)
/-- Search_add -/
def sm_c27 : List (Nat × av_I) := [
  (0, (1, 1, 1, 0, 0, [])),
  (1, (18, 3, 0, 23, 0, [])),
  (4, (1, 1, 1, 0, 0, [])),
  (5, (30, 3, 8, 0, 0, [45])),
  (8, (15, 3, 2, 23, 0, [])),
  (11, (1, 1, 1, 0, 0, [])),
  (12, (30, 3, 8, 0, 0, [45])),
  (15, (1, 1, 0, 0, 0, [])),
  (16, (30, 3, 1, 1, 0, [17])),
  (19, (32, 1, 0, 0, 0, [])),
  (20, (16, 3, 2, 24, 0, [])),
  (23, (42, 1, 0, 0, 0, [])),
  (24, (1, 1, 0, 0, 0, [])),
  (25, (30, 3, 1, 1, 0, [17])),
  (28, (1, 1, 1, 0, 0, [])),
  (29, (30, 3, 8, 0, 0, [45])),
  (32, (33, 1, 2, 0, 0, [])),
  (33, (15, 3, 1, 48, 0, [])),
  (36, (1, 1, 0, 0, 0, [])),
  (37, (30, 3, 1, 2, 0, [21])),
  (40, (1, 1, 0, 0, 0, [])),
  (41, (30, 3, 1, 0, 0, [11])),
  (44, (32, 1, 0, 0, 0, [])),
  (45, (16, 3, 2, 49, 0, [])),
  (48, (42, 1, 0, 0, 0, [])),
  (49, (1, 1, 0, 0, 0, [])),
  (50, (30, 3, 1, 1, 0, [17])),
  (53, (1, 1, 1, 0, 0, [])),
  (54, (30, 3, 8, 0, 0, [45])),
  (57, (4, 1, 0, 0, 1, [])),
  (58, (34, 1, 2, 0, 0, [])),
  (59, (1, 1, 0, 0, 0, [])),
  (60, (30, 3, 1, 0, 0, [11])),
  (63, (1, 1, 0, 0, 0, [])),
  (64, (30, 3, 1, 2, 0, [21])),
  (67, (1, 1, 1, 0, 0, [])),
  (68, (35, 1, 7, 8, 0, [])),
  (69, (1, 1, 0, 0, 0, [])),
  (70, (10, 1, 0, 0, 0, [])),
  (71, (30, 3, 1, 2, 0, [21])),
  (74, (4, 1, 0, 0, 1, [])),
  (75, (7, 1, 0, 0, 0, [])),
  (76, (31, 3, 1, 2, 0, [21])),
  (79, (42, 1, 0, 0, 0, []))]
def sm_m27 : av_Mt := (⟨"StructureMap$Search", "add", "(LStructureMap$Division;)V"⟩, prog_6_method_5_code, 2, none, sm_find sm_c27)
/-- Search_addBehind -/
def sm_c28 : List (Nat × av_I) := [
  (0, (1, 1, 1, 0, 0, [])),
  (1, (19, 3, 0, 5, 0, [])),
  (4, (42, 1, 0, 0, 0, [])),
  (5, (1, 1, 0, 0, 0, [])),
  (6, (1, 1, 1, 0, 0, [])),
  (7, (30, 3, 8, 9, 0, [35])),
  (10, (40, 3, 27, 2, 0, [1, 1, 28])),
  (13, (1, 1, 1, 0, 0, [])),
  (14, (30, 3, 8, 7, 0, [39])),
  (17, (3, 1, 2, 0, 0, [])),
  (18, (4, 1, 0, 0, 0, [])),
  (19, (2, 1, 3, 0, 0, [])),
  (20, (0, 1, 3, 0, 0, [])),
  (21, (4, 2, 1, 0, 120, [])),
  (23, (16, 3, 3, 46, 0, [])),
  (26, (1, 1, 2, 0, 0, [])),
  (27, (18, 3, 0, 46, 0, [])),
  (30, (1, 1, 0, 0, 0, [])),
  (31, (1, 1, 2, 0, 0, [])),
  (32, (40, 3, 27, 2, 0, [1, 1, 28])),
  (35, (1, 1, 2, 0, 0, [])),
  (36, (30, 3, 8, 8, 0, [42])),
  (39, (3, 1, 2, 0, 0, [])),
  (40, (6, 3, 3, 0, 1, [])),
  (43, (20, 3, 0, 20, 0, [])),
  (46, (42, 1, 0, 0, 0, []))]
def sm_m28 : av_Mt := (⟨"StructureMap$Search", "addBehind", "(LStructureMap$Division;)V"⟩, prog_6_method_4_code, 4, none, sm_find sm_c28)
/-- Reading_init -/
def sm_c29 : List (Nat × av_I) := [
  (0, (1, 1, 0, 0, 0, [])),
  (1, (41, 3, 0, 0, 0, [3])),
  (4, (1, 1, 0, 0, 0, [])),
  (5, (4, 3, 2, 0, 1000, [])),
  (8, (38, 3, 7, 8, 0, [9])),
  (11, (31, 3, 2, 0, 0, [11])),
  (14, (1, 1, 0, 0, 0, [])),
  (15, (4, 3, 2, 0, 1000, [])),
  (18, (38, 3, 7, 8, 0, [9])),
  (21, (31, 3, 2, 1, 0, [17])),
  (24, (1, 1, 0, 0, 0, [])),
  (25, (4, 1, 0, 0, 0, [])),
  (26, (31, 3, 2, 2, 0, [20])),
  (29, (1, 1, 0, 0, 0, [])),
  (30, (4, 2, 1, 0, 120, [])),
  (32, (37, 2, 0, 0, 0, [])),
  (34, (31, 3, 2, 3, 0, [24])),
  (37, (1, 1, 0, 0, 0, [])),
  (38, (4, 2, 1, 0, 120, [])),
  (40, (38, 3, 7, 8, 0, [9])),
  (43, (31, 3, 2, 4, 0, [28])),
  (46, (1, 1, 0, 0, 0, [])),
  (47, (4, 1, 0, 0, 0, [])),
  (48, (31, 3, 2, 5, 0, [31])),
  (51, (42, 1, 0, 0, 0, []))]
def sm_m29 : av_Mt := (⟨"StructureMap$Reading", "<init>", "()V"⟩, prog_5_method_1_code, 1, none, sm_find sm_c29)
/-- Reading_goThrough -/
def sm_c30 : List (Nat × av_I) := [
  (0, (1, 1, 0, 0, 0, [])),
  (1, (30, 3, 2, 3, 0, [24])),
  (4, (4, 1, 0, 0, 0, [])),
  (5, (40, 3, 96, 2, 0, [0, 0, 34])),
  (8, (1, 1, 0, 0, 0, [])),
  (9, (4, 1, 0, 0, 0, [])),
  (10, (31, 3, 2, 2, 0, [20])),
  (13, (1, 1, 0, 0, 0, [])),
  (14, (4, 1, 0, 0, 0, [])),
  (15, (31, 3, 2, 5, 0, [31])),
  (18, (1, 1, 1, 0, 0, [])),
  (19, (1, 1, 1, 0, 0, [])),
  (20, (40, 3, 55, 2, 0, [1, 8, 40])),
  (23, (3, 1, 2, 0, 0, [])),
  (24, (4, 1, 0, 0, 0, [])),
  (25, (2, 1, 3, 0, 0, [])),
  (26, (0, 1, 3, 0, 0, [])),
  (27, (4, 3, 2, 0, 1000, [])),
  (30, (16, 3, 3, 70, 0, [])),
  (33, (1, 1, 2, 0, 0, [])),
  (34, (18, 3, 0, 70, 0, [])),
  (37, (1, 1, 0, 0, 0, [])),
  (38, (1, 1, 2, 0, 0, [])),
  (39, (40, 3, 31, 2, 0, [1, 2, 44])),
  (42, (1, 1, 2, 0, 0, [])),
  (43, (30, 3, 8, 9, 0, [48])),
  (46, (18, 3, 0, 57, 0, [])),
  (49, (1, 1, 0, 0, 0, [])),
  (50, (1, 1, 2, 0, 0, [])),
  (51, (40, 3, 32, 2, 0, [1, 2, 52])),
  (54, (20, 3, 0, 63, 0, [])),
  (57, (1, 1, 0, 0, 0, [])),
  (58, (1, 1, 2, 0, 0, [])),
  (59, (1, 1, 1, 0, 0, [])),
  (60, (40, 3, 33, 3, 0, [1, 2, 55])),
  (63, (3, 1, 2, 0, 0, [])),
  (64, (6, 3, 3, 0, 1, [])),
  (67, (20, 3, 0, 26, 0, [])),
  (70, (42, 1, 0, 0, 0, []))]
def sm_m30 : av_Mt := (⟨"StructureMap$Reading", "goThrough", "(LStructureMap$Division;)V"⟩, prog_5_method_2_code, 4, none, sm_find sm_c30)
/-- Reading_meet -/
def sm_c31 : List (Nat × av_I) := [
  (0, (1, 1, 0, 0, 0, [])),
  (1, (30, 3, 2, 2, 0, [20])),
  (4, (1, 1, 0, 0, 0, [])),
  (5, (30, 3, 2, 0, 0, [11])),
  (8, (32, 1, 0, 0, 0, [])),
  (9, (16, 3, 3, 31, 0, [])),
  (12, (1, 1, 1, 0, 0, [])),
  (13, (30, 3, 8, 0, 0, [59])),
  (16, (15, 3, 2, 31, 0, [])),
  (19, (1, 1, 1, 0, 0, [])),
  (20, (30, 3, 8, 0, 0, [59])),
  (23, (1, 1, 0, 0, 0, [])),
  (24, (30, 3, 2, 3, 0, [24])),
  (27, (32, 1, 0, 0, 0, [])),
  (28, (16, 3, 2, 32, 0, [])),
  (31, (42, 1, 0, 0, 0, [])),
  (32, (1, 1, 0, 0, 0, [])),
  (33, (30, 3, 2, 0, 0, [11])),
  (36, (1, 1, 0, 0, 0, [])),
  (37, (30, 3, 2, 2, 0, [20])),
  (40, (1, 1, 1, 0, 0, [])),
  (41, (35, 1, 7, 8, 0, [])),
  (42, (1, 1, 0, 0, 0, [])),
  (43, (30, 3, 2, 1, 0, [17])),
  (46, (1, 1, 0, 0, 0, [])),
  (47, (30, 3, 2, 2, 0, [20])),
  (50, (1, 1, 0, 0, 0, [])),
  (51, (30, 3, 2, 5, 0, [31])),
  (54, (15, 3, 5, 66, 0, [])),
  (57, (1, 1, 0, 0, 0, [])),
  (58, (30, 3, 2, 4, 0, [28])),
  (61, (4, 1, 0, 0, 0, [])),
  (62, (33, 1, 7, 0, 0, [])),
  (63, (20, 3, 0, 67, 0, [])),
  (66, (1, 1, 1, 0, 0, [])),
  (67, (35, 1, 7, 8, 0, [])),
  (68, (1, 1, 0, 0, 0, [])),
  (69, (10, 1, 0, 0, 0, [])),
  (70, (30, 3, 2, 2, 0, [20])),
  (73, (4, 1, 0, 0, 1, [])),
  (74, (7, 1, 0, 0, 0, [])),
  (75, (31, 3, 2, 2, 0, [20])),
  (78, (1, 1, 0, 0, 0, [])),
  (79, (30, 3, 2, 3, 0, [24])),
  (82, (1, 1, 1, 0, 0, [])),
  (83, (30, 3, 8, 0, 0, [59])),
  (86, (13, 1, 0, 0, 0, [])),
  (87, (33, 1, 0, 0, 0, [])),
  (88, (4, 1, 0, 0, 1, [])),
  (89, (7, 1, 0, 0, 0, [])),
  (90, (34, 1, 0, 0, 0, [])),
  (91, (42, 1, 0, 0, 0, []))]
def sm_m31 : av_Mt := (⟨"StructureMap$Reading", "meet", "(LStructureMap$Division;)V"⟩, prog_5_method_3_code, 2, none, sm_find sm_c31)
/-- Reading_enter -/
def sm_c32 : List (Nat × av_I) := [
  (0, (1, 1, 0, 0, 0, [])),
  (1, (30, 3, 2, 5, 0, [31])),
  (4, (1, 1, 0, 0, 0, [])),
  (5, (30, 3, 2, 4, 0, [28])),
  (8, (32, 1, 0, 0, 0, [])),
  (9, (16, 3, 2, 14, 0, [])),
  (12, (5, 1, 0, 0, 0, [])),
  (13, (43, 1, 0, 0, 0, [])),
  (14, (1, 1, 0, 0, 0, [])),
  (15, (30, 3, 2, 4, 0, [28])),
  (18, (1, 1, 0, 0, 0, [])),
  (19, (30, 3, 2, 5, 0, [31])),
  (22, (1, 1, 1, 0, 0, [])),
  (23, (35, 1, 7, 8, 0, [])),
  (24, (1, 1, 0, 0, 0, [])),
  (25, (10, 1, 0, 0, 0, [])),
  (26, (30, 3, 2, 5, 0, [31])),
  (29, (4, 1, 0, 0, 1, [])),
  (30, (7, 1, 0, 0, 0, [])),
  (31, (31, 3, 2, 5, 0, [31])),
  (34, (1, 1, 1, 0, 0, [])),
  (35, (30, 3, 8, 9, 0, [48])),
  (38, (43, 1, 0, 0, 0, []))]
def sm_m32 : av_Mt := (⟨"StructureMap$Reading", "enter", "(LStructureMap$Division;)LStructureMap$Division;"⟩, prog_5_method_4_code, 2, some (.object "StructureMap$Division"), sm_find sm_c32)
/-- Reading_behind -/
def sm_c33 : List (Nat × av_I) := [
  (0, (1, 1, 1, 0, 0, [])),
  (1, (1, 1, 0, 0, 0, [])),
  (2, (1, 1, 2, 0, 0, [])),
  (3, (40, 3, 34, 2, 0, [1, 2, 62])),
  (6, (40, 3, 55, 2, 0, [1, 8, 40])),
  (9, (3, 1, 3, 0, 0, [])),
  (10, (4, 1, 0, 0, 0, [])),
  (11, (2, 2, 4, 0, 0, [])),
  (13, (0, 2, 4, 0, 0, [])),
  (15, (4, 2, 1, 0, 120, [])),
  (17, (16, 3, 3, 78, 0, [])),
  (20, (1, 1, 3, 0, 0, [])),
  (21, (19, 3, 0, 78, 0, [])),
  (24, (1, 1, 0, 0, 0, [])),
  (25, (30, 3, 2, 5, 0, [31])),
  (28, (15, 3, 5, 78, 0, [])),
  (31, (1, 1, 0, 0, 0, [])),
  (32, (10, 1, 0, 0, 0, [])),
  (33, (30, 3, 2, 5, 0, [31])),
  (36, (4, 1, 0, 0, 1, [])),
  (37, (7, 1, 1, 0, 0, [])),
  (38, (31, 3, 2, 5, 0, [31])),
  (41, (1, 1, 0, 0, 0, [])),
  (42, (30, 3, 2, 4, 0, [28])),
  (45, (1, 1, 0, 0, 0, [])),
  (46, (30, 3, 2, 5, 0, [31])),
  (49, (33, 1, 7, 0, 0, [])),
  (50, (3, 2, 5, 0, 0, [])),
  (52, (1, 2, 5, 0, 0, [])),
  (54, (19, 3, 0, 61, 0, [])),
  (57, (5, 1, 0, 0, 0, [])),
  (58, (20, 3, 0, 71, 0, [])),
  (61, (1, 2, 5, 0, 0, [])),
  (63, (1, 1, 0, 0, 0, [])),
  (64, (1, 1, 2, 0, 0, [])),
  (65, (40, 3, 34, 2, 0, [1, 2, 62])),
  (68, (40, 3, 55, 2, 0, [1, 8, 40])),
  (71, (3, 1, 3, 0, 0, [])),
  (72, (6, 3, 4, 0, 1, [])),
  (75, (20, 3, 0, 13, 0, [])),
  (78, (1, 1, 3, 0, 0, [])),
  (79, (43, 1, 0, 0, 0, []))]
def sm_m33 : av_Mt := (⟨"StructureMap$Reading", "behind", "(LStructureMap$Division;LStructureMap$Division;)LStructureMap$Division;"⟩, prog_5_method_5_code, 6, some (.object "StructureMap$Division"), sm_find sm_c33)
/-- Reading_innermost -/
def sm_c34 : List (Nat × av_I) := [
  (0, (1, 1, 0, 0, 0, [])),
  (1, (30, 3, 2, 5, 0, [31])),
  (4, (15, 3, 5, 19, 0, [])),
  (7, (1, 1, 0, 0, 0, [])),
  (8, (30, 3, 2, 5, 0, [31])),
  (11, (1, 1, 0, 0, 0, [])),
  (12, (30, 3, 2, 4, 0, [28])),
  (15, (32, 1, 0, 0, 0, [])),
  (16, (16, 3, 5, 21, 0, [])),
  (19, (1, 1, 1, 0, 0, [])),
  (20, (43, 1, 0, 0, 0, [])),
  (21, (1, 1, 0, 0, 0, [])),
  (22, (30, 3, 2, 4, 0, [28])),
  (25, (1, 1, 0, 0, 0, [])),
  (26, (30, 3, 2, 5, 0, [31])),
  (29, (4, 1, 0, 0, 1, [])),
  (30, (7, 1, 1, 0, 0, [])),
  (31, (33, 1, 7, 0, 0, [])),
  (32, (3, 1, 2, 0, 0, [])),
  (33, (1, 1, 2, 0, 0, [])),
  (34, (19, 3, 0, 41, 0, [])),
  (37, (1, 1, 1, 0, 0, [])),
  (38, (20, 3, 0, 45, 0, [])),
  (41, (1, 1, 2, 0, 0, [])),
  (42, (30, 3, 8, 9, 0, [48])),
  (45, (43, 1, 0, 0, 0, []))]
def sm_m34 : av_Mt := (⟨"StructureMap$Reading", "innermost", "(LStructureMap$Division;)LStructureMap$Division;"⟩, prog_5_method_6_code, 3, some (.object "StructureMap$Division"), sm_find sm_c34)
/-- Steps_init -/
def sm_c35 : List (Nat × av_I) := [
  (0, (1, 1, 0, 0, 0, [])),
  (1, (41, 3, 0, 0, 0, [3])),
  (4, (1, 1, 0, 0, 0, [])),
  (5, (4, 3, 2, 0, 5000, [])),
  (8, (38, 3, 8, 9, 0, [9])),
  (11, (31, 3, 3, 0, 0, [11])),
  (14, (1, 1, 0, 0, 0, [])),
  (15, (4, 3, 2, 0, 5000, [])),
  (18, (38, 3, 7, 8, 0, [17])),
  (21, (31, 3, 3, 1, 0, [19])),
  (24, (1, 1, 0, 0, 0, [])),
  (25, (4, 1, 0, 0, 0, [])),
  (26, (31, 3, 3, 2, 0, [23])),
  (29, (42, 1, 0, 0, 0, []))]
def sm_m35 : av_Mt := (⟨"StructureMap$Steps", "<init>", "()V"⟩, prog_9_method_1_code, 1, none, sm_find sm_c35)
/-- Steps_keep -/
def sm_c36 : List (Nat × av_I) := [
  (0, (1, 1, 0, 0, 0, [])),
  (1, (4, 1, 0, 0, 0, [])),
  (2, (31, 3, 3, 2, 0, [23])),
  (5, (4, 1, 0, 0, 0, [])),
  (6, (2, 1, 2, 0, 0, [])),
  (7, (0, 1, 2, 0, 0, [])),
  (8, (1, 1, 1, 0, 0, [])),
  (9, (30, 3, 2, 2, 0, [27])),
  (12, (16, 3, 3, 44, 0, [])),
  (15, (0, 1, 2, 0, 0, [])),
  (16, (4, 3, 2, 0, 1000, [])),
  (19, (16, 3, 3, 44, 0, [])),
  (22, (1, 1, 0, 0, 0, [])),
  (23, (1, 1, 1, 0, 0, [])),
  (24, (30, 3, 2, 0, 0, [30])),
  (27, (0, 1, 2, 0, 0, [])),
  (28, (33, 1, 7, 0, 0, [])),
  (29, (1, 1, 1, 0, 0, [])),
  (30, (30, 3, 2, 1, 0, [33])),
  (33, (0, 1, 2, 0, 0, [])),
  (34, (33, 1, 7, 0, 0, [])),
  (35, (40, 3, 37, 3, 0, [1, 3, 36])),
  (38, (6, 3, 2, 0, 1, [])),
  (41, (20, 3, 0, 7, 0, [])),
  (44, (42, 1, 0, 0, 0, []))]
def sm_m36 : av_Mt := (⟨"StructureMap$Steps", "keep", "(LStructureMap$Reading;)V"⟩, prog_9_method_2_code, 3, none, sm_find sm_c36)
/-- Steps_addLinks -/
def sm_c37 : List (Nat × av_I) := [
  (0, (1, 1, 1, 0, 0, [])),
  (1, (19, 3, 0, 5, 0, [])),
  (4, (42, 1, 0, 0, 0, [])),
  (5, (4, 1, 0, 0, 0, [])),
  (6, (2, 1, 3, 0, 0, [])),
  (7, (0, 1, 3, 0, 0, [])),
  (8, (1, 1, 1, 0, 0, [])),
  (9, (30, 3, 8, 5, 0, [40])),
  (12, (16, 3, 3, 77, 0, [])),
  (15, (0, 1, 3, 0, 0, [])),
  (16, (1, 1, 1, 0, 0, [])),
  (17, (30, 3, 8, 4, 0, [43])),
  (20, (32, 1, 0, 0, 0, [])),
  (21, (16, 3, 3, 77, 0, [])),
  (24, (1, 1, 0, 0, 0, [])),
  (25, (30, 3, 3, 2, 0, [23])),
  (28, (1, 1, 0, 0, 0, [])),
  (29, (30, 3, 3, 0, 0, [11])),
  (32, (32, 1, 0, 0, 0, [])),
  (33, (16, 3, 3, 71, 0, [])),
  (36, (1, 1, 0, 0, 0, [])),
  (37, (30, 3, 3, 0, 0, [11])),
  (40, (1, 1, 0, 0, 0, [])),
  (41, (30, 3, 3, 2, 0, [23])),
  (44, (1, 1, 1, 0, 0, [])),
  (45, (30, 3, 8, 4, 0, [43])),
  (48, (0, 1, 3, 0, 0, [])),
  (49, (33, 1, 8, 0, 0, [])),
  (50, (35, 1, 8, 9, 0, [])),
  (51, (1, 1, 0, 0, 0, [])),
  (52, (30, 3, 3, 1, 0, [19])),
  (55, (1, 1, 0, 0, 0, [])),
  (56, (30, 3, 3, 2, 0, [23])),
  (59, (1, 1, 2, 0, 0, [])),
  (60, (35, 1, 7, 8, 0, [])),
  (61, (1, 1, 0, 0, 0, [])),
  (62, (10, 1, 0, 0, 0, [])),
  (63, (30, 3, 3, 2, 0, [23])),
  (66, (4, 1, 0, 0, 1, [])),
  (67, (7, 1, 0, 0, 0, [])),
  (68, (31, 3, 3, 2, 0, [23])),
  (71, (6, 3, 3, 0, 1, [])),
  (74, (20, 3, 0, 7, 0, [])),
  (77, (42, 1, 0, 0, 0, []))]
def sm_m37 : av_Mt := (⟨"StructureMap$Steps", "addLinks", "(LStructureMap$Division;LStructureMap$Division;)V"⟩, prog_9_method_3_code, 4, none, sm_find sm_c37)
/-- Steps_tell -/
def sm_c38 : List (Nat × av_I) := [
  (0, (0, 1, 1, 0, 0, [])),
  (1, (15, 3, 2, 12, 0, [])),
  (4, (0, 1, 1, 0, 0, [])),
  (5, (1, 1, 0, 0, 0, [])),
  (6, (30, 3, 3, 2, 0, [23])),
  (9, (16, 3, 2, 14, 0, [])),
  (12, (4, 1, 0, 0, (-1), [])),
  (13, (43, 1, 0, 0, 0, [])),
  (14, (1, 1, 0, 0, 0, [])),
  (15, (30, 3, 3, 0, 0, [11])),
  (18, (0, 1, 1, 0, 0, [])),
  (19, (33, 1, 8, 0, 0, [])),
  (20, (3, 1, 3, 0, 0, [])),
  (21, (1, 1, 0, 0, 0, [])),
  (22, (30, 3, 3, 1, 0, [19])),
  (25, (0, 1, 1, 0, 0, [])),
  (26, (33, 1, 7, 0, 0, [])),
  (27, (3, 2, 4, 0, 0, [])),
  (29, (1, 1, 3, 0, 0, [])),
  (30, (18, 3, 0, 38, 0, [])),
  (33, (1, 2, 4, 0, 0, [])),
  (35, (19, 3, 0, 40, 0, [])),
  (38, (4, 1, 0, 0, (-1), [])),
  (39, (43, 1, 0, 0, 0, [])),
  (40, (0, 1, 2, 0, 0, [])),
  (41, (21, 35, 0, 108, 0, [76, 84, 92, 97, 102])),
  (76, (1, 1, 3, 0, 0, [])),
  (77, (30, 3, 9, 0, 0, [44])),
  (80, (30, 3, 8, 0, 0, [48])),
  (83, (43, 1, 0, 0, 0, [])),
  (84, (1, 1, 3, 0, 0, [])),
  (85, (30, 3, 9, 1, 0, [51])),
  (88, (30, 3, 6, 0, 0, [55])),
  (91, (43, 1, 0, 0, 0, [])),
  (92, (1, 1, 3, 0, 0, [])),
  (93, (30, 3, 9, 2, 0, [58])),
  (96, (43, 1, 0, 0, 0, [])),
  (97, (1, 1, 3, 0, 0, [])),
  (98, (30, 3, 9, 3, 0, [61])),
  (101, (43, 1, 0, 0, 0, [])),
  (102, (1, 2, 4, 0, 0, [])),
  (104, (30, 3, 8, 0, 0, [48])),
  (107, (43, 1, 0, 0, 0, [])),
  (108, (4, 1, 0, 0, (-1), [])),
  (109, (43, 1, 0, 0, 0, []))]
def sm_m38 : av_Mt := (⟨"StructureMap$Steps", "tell", "(II)I"⟩, prog_9_method_4_code, 5, some (.int), sm_find sm_c38)
/-- Faults_init -/
def sm_c39 : List (Nat × av_I) := [
  (0, (1, 1, 0, 0, 0, [])),
  (1, (41, 3, 0, 0, 0, [3])),
  (4, (1, 1, 0, 0, 0, [])),
  (5, (4, 3, 2, 0, 300, [])),
  (8, (37, 2, 0, 0, 0, [])),
  (10, (31, 3, 4, 0, 0, [9])),
  (13, (1, 1, 0, 0, 0, [])),
  (14, (4, 3, 2, 0, 300, [])),
  (17, (37, 2, 0, 0, 0, [])),
  (19, (31, 3, 4, 1, 0, [15])),
  (22, (1, 1, 0, 0, 0, [])),
  (23, (4, 1, 0, 0, 0, [])),
  (24, (31, 3, 4, 2, 0, [18])),
  (27, (42, 1, 0, 0, 0, []))]
def sm_m39 : av_Mt := (⟨"StructureMap$Faults", "<init>", "()V"⟩, prog_3_method_1_code, 1, none, sm_find sm_c39)
/-- Faults_add -/
def sm_c40 : List (Nat × av_I) := [
  (0, (1, 1, 0, 0, 0, [])),
  (1, (30, 3, 4, 2, 0, [18])),
  (4, (1, 1, 0, 0, 0, [])),
  (5, (30, 3, 4, 0, 0, [9])),
  (8, (32, 1, 0, 0, 0, [])),
  (9, (16, 3, 3, 54, 0, [])),
  (12, (1, 1, 0, 0, 0, [])),
  (13, (30, 3, 4, 2, 0, [18])),
  (16, (1, 1, 0, 0, 0, [])),
  (17, (30, 3, 4, 1, 0, [15])),
  (20, (32, 1, 0, 0, 0, [])),
  (21, (16, 3, 3, 54, 0, [])),
  (24, (1, 1, 0, 0, 0, [])),
  (25, (30, 3, 4, 0, 0, [9])),
  (28, (1, 1, 0, 0, 0, [])),
  (29, (30, 3, 4, 2, 0, [18])),
  (32, (0, 1, 1, 0, 0, [])),
  (33, (34, 1, 0, 0, 0, [])),
  (34, (1, 1, 0, 0, 0, [])),
  (35, (30, 3, 4, 1, 0, [15])),
  (38, (1, 1, 0, 0, 0, [])),
  (39, (30, 3, 4, 2, 0, [18])),
  (42, (0, 1, 2, 0, 0, [])),
  (43, (34, 1, 0, 0, 0, [])),
  (44, (1, 1, 0, 0, 0, [])),
  (45, (10, 1, 0, 0, 0, [])),
  (46, (30, 3, 4, 2, 0, [18])),
  (49, (4, 1, 0, 0, 1, [])),
  (50, (7, 1, 0, 0, 0, [])),
  (51, (31, 3, 4, 2, 0, [18])),
  (54, (42, 1, 0, 0, 0, []))]
def sm_m40 : av_Mt := (⟨"StructureMap$Faults", "add", "(II)V"⟩, prog_3_method_2_code, 3, none, sm_find sm_c40)
/-- Signs_init -/
def sm_c41 : List (Nat × av_I) := [
  (0, (1, 1, 0, 0, 0, [])),
  (1, (41, 3, 0, 0, 0, [3])),
  (4, (1, 1, 0, 0, 0, [])),
  (5, (4, 3, 2, 0, 7860, [])),
  (8, (37, 2, 1, 0, 0, [])),
  (10, (31, 3, 5, 0, 0, [9])),
  (13, (1, 1, 0, 0, 0, [])),
  (14, (4, 1, 0, 0, 0, [])),
  (15, (31, 3, 5, 1, 0, [15])),
  (18, (42, 1, 0, 0, 0, []))]
def sm_m41 : av_Mt := (⟨"StructureMap$Signs", "<init>", "()V"⟩, prog_7_method_1_code, 1, none, sm_find sm_c41)
/-- Signs_putLine -/
def sm_c42 : List (Nat × av_I) := [
  (0, (1, 1, 1, 0, 0, [])),
  (1, (40, 3, 58, 1, 0, [1, 8, 19])),
  (4, (2, 1, 2, 0, 0, [])),
  (5, (4, 1, 0, 0, 0, [])),
  (6, (2, 1, 3, 0, 0, [])),
  (7, (0, 1, 3, 0, 0, [])),
  (8, (0, 1, 2, 0, 0, [])),
  (9, (16, 3, 3, 24, 0, [])),
  (12, (1, 1, 0, 0, 0, [])),
  (13, (4, 2, 1, 0, 32, [])),
  (15, (40, 3, 43, 2, 0, [1, 5, 25])),
  (18, (6, 3, 3, 0, 1, [])),
  (21, (20, 3, 0, 7, 0, [])),
  (24, (1, 1, 0, 0, 0, [])),
  (25, (1, 1, 1, 0, 0, [])),
  (26, (30, 3, 8, 3, 0, [29])),
  (29, (40, 3, 44, 2, 0, [1, 5, 32])),
  (32, (1, 1, 1, 0, 0, [])),
  (33, (30, 3, 8, 9, 0, [36])),
  (36, (18, 3, 0, 45, 0, [])),
  (39, (1, 1, 0, 0, 0, [])),
  (40, (4, 2, 1, 0, 61, [])),
  (42, (40, 3, 43, 2, 0, [1, 5, 25])),
  (45, (1, 1, 0, 0, 0, [])),
  (46, (4, 2, 1, 0, 10, [])),
  (48, (40, 3, 43, 2, 0, [1, 5, 25])),
  (51, (42, 1, 0, 0, 0, []))]
def sm_m42 : av_Mt := (⟨"StructureMap$Signs", "putLine", "(LStructureMap$Division;)V"⟩, prog_7_method_2_code, 4, none, sm_find sm_c42)
/-- Signs_put -/
def sm_c43 : List (Nat × av_I) := [
  (0, (1, 1, 0, 0, 0, [])),
  (1, (30, 3, 5, 1, 0, [15])),
  (4, (1, 1, 0, 0, 0, [])),
  (5, (30, 3, 5, 0, 0, [9])),
  (8, (32, 1, 0, 0, 0, [])),
  (9, (16, 3, 3, 32, 0, [])),
  (12, (1, 1, 0, 0, 0, [])),
  (13, (30, 3, 5, 0, 0, [9])),
  (16, (1, 1, 0, 0, 0, [])),
  (17, (30, 3, 5, 1, 0, [15])),
  (20, (0, 1, 1, 0, 0, [])),
  (21, (34, 1, 1, 0, 0, [])),
  (22, (1, 1, 0, 0, 0, [])),
  (23, (10, 1, 0, 0, 0, [])),
  (24, (30, 3, 5, 1, 0, [15])),
  (27, (4, 1, 0, 0, 1, [])),
  (28, (7, 1, 0, 0, 0, [])),
  (29, (31, 3, 5, 1, 0, [15])),
  (32, (42, 1, 0, 0, 0, []))]
def sm_m43 : av_Mt := (⟨"StructureMap$Signs", "put", "(C)V"⟩, prog_7_method_4_code, 2, none, sm_find sm_c43)
/-- Signs_putNumber -/
def sm_c44 : List (Nat × av_I) := [
  (0, (4, 3, 2, 0, 1000, [])),
  (3, (2, 1, 2, 0, 0, [])),
  (4, (0, 1, 2, 0, 0, [])),
  (5, (15, 3, 5, 40, 0, [])),
  (8, (0, 1, 1, 0, 0, [])),
  (9, (0, 1, 2, 0, 0, [])),
  (10, (16, 3, 3, 18, 0, [])),
  (13, (0, 1, 2, 0, 0, [])),
  (14, (4, 1, 0, 0, 1, [])),
  (15, (16, 3, 1, 32, 0, [])),
  (18, (1, 1, 0, 0, 0, [])),
  (19, (4, 2, 1, 0, 48, [])),
  (21, (0, 1, 1, 0, 0, [])),
  (22, (0, 1, 2, 0, 0, [])),
  (23, (7, 1, 3, 0, 0, [])),
  (24, (4, 2, 1, 0, 10, [])),
  (26, (7, 1, 4, 0, 0, [])),
  (27, (7, 1, 0, 0, 0, [])),
  (28, (8, 1, 0, 0, 0, [])),
  (29, (40, 3, 43, 2, 0, [1, 5, 25])),
  (32, (0, 1, 2, 0, 0, [])),
  (33, (4, 2, 1, 0, 10, [])),
  (35, (7, 1, 3, 0, 0, [])),
  (36, (2, 1, 2, 0, 0, [])),
  (37, (20, 3, 0, 4, 0, [])),
  (40, (42, 1, 0, 0, 0, []))]
def sm_m44 : av_Mt := (⟨"StructureMap$Signs", "putNumber", "(I)V"⟩, prog_7_method_3_code, 3, none, sm_find sm_c44)
/-- File_init -/
def sm_c45 : List (Nat × av_I) := [
  (0, (1, 1, 0, 0, 0, [])),
  (1, (41, 3, 0, 0, 0, [3])),
  (4, (1, 1, 0, 0, 0, [])),
  (5, (0, 1, 1, 0, 0, [])),
  (6, (31, 3, 6, 0, 0, [9])),
  (9, (1, 1, 0, 0, 0, [])),
  (10, (0, 1, 2, 0, 0, [])),
  (11, (31, 3, 6, 1, 0, [15])),
  (14, (1, 1, 0, 0, 0, [])),
  (15, (5, 1, 0, 0, 0, [])),
  (16, (31, 3, 6, 2, 0, [18])),
  (19, (42, 1, 0, 0, 0, []))]
def sm_m45 : av_Mt := (⟨"StructureMap$SizedFile", "<init>", "(II)V"⟩, prog_8_method_1_code, 3, none, sm_find sm_c45)
/-- File_take -/
def sm_c46 : List (Nat × av_I) := [
  (0, (5, 1, 0, 0, 0, [])),
  (1, (3, 1, 2, 0, 0, [])),
  (2, (1, 1, 0, 0, 0, [])),
  (3, (30, 3, 6, 2, 0, [18])),
  (6, (3, 1, 3, 0, 0, [])),
  (7, (4, 1, 0, 0, 0, [])),
  (8, (2, 2, 4, 0, 0, [])),
  (10, (0, 2, 4, 0, 0, [])),
  (12, (4, 3, 2, 0, 600, [])),
  (15, (16, 3, 3, 46, 0, [])),
  (18, (1, 1, 3, 0, 0, [])),
  (19, (18, 3, 0, 46, 0, [])),
  (22, (1, 1, 3, 0, 0, [])),
  (23, (30, 3, 9, 2, 0, [22])),
  (26, (1, 1, 1, 0, 0, [])),
  (27, (30, 3, 9, 2, 0, [22])),
  (30, (16, 3, 4, 46, 0, [])),
  (33, (1, 1, 3, 0, 0, [])),
  (34, (3, 1, 2, 0, 0, [])),
  (35, (1, 1, 3, 0, 0, [])),
  (36, (30, 3, 9, 4, 0, [27])),
  (39, (3, 1, 3, 0, 0, [])),
  (40, (6, 3, 4, 0, 1, [])),
  (43, (20, 3, 0, 10, 0, [])),
  (46, (1, 1, 1, 0, 0, [])),
  (47, (1, 1, 3, 0, 0, [])),
  (48, (31, 3, 9, 4, 0, [27])),
  (51, (1, 1, 2, 0, 0, [])),
  (52, (19, 3, 0, 63, 0, [])),
  (55, (1, 1, 0, 0, 0, [])),
  (56, (1, 1, 1, 0, 0, [])),
  (57, (31, 3, 6, 2, 0, [18])),
  (60, (20, 3, 0, 68, 0, [])),
  (63, (1, 1, 2, 0, 0, [])),
  (64, (1, 1, 1, 0, 0, [])),
  (65, (31, 3, 9, 4, 0, [27])),
  (68, (42, 1, 0, 0, 0, []))]
def sm_m46 : av_Mt := (⟨"StructureMap$SizedFile", "take", "(LStructureMap$Link;)V"⟩, prog_8_method_2_code, 5, none, sm_find sm_c46)
/-- File_hasPlaceTwice -/
def sm_c47 : List (Nat × av_I) := [
  (0, (4, 1, 0, 0, 0, [])),
  (1, (2, 1, 2, 0, 0, [])),
  (2, (1, 1, 0, 0, 0, [])),
  (3, (30, 3, 6, 2, 0, [18])),
  (6, (3, 1, 3, 0, 0, [])),
  (7, (4, 1, 0, 0, 0, [])),
  (8, (2, 2, 4, 0, 0, [])),
  (10, (0, 2, 4, 0, 0, [])),
  (12, (4, 3, 2, 0, 600, [])),
  (15, (16, 3, 3, 88, 0, [])),
  (18, (1, 1, 3, 0, 0, [])),
  (19, (18, 3, 0, 88, 0, [])),
  (22, (1, 1, 3, 0, 0, [])),
  (23, (30, 3, 9, 2, 0, [22])),
  (26, (1, 1, 0, 0, 0, [])),
  (27, (30, 3, 6, 1, 0, [15])),
  (30, (16, 3, 3, 88, 0, [])),
  (33, (1, 1, 3, 0, 0, [])),
  (34, (1, 1, 1, 0, 0, [])),
  (35, (40, 3, 61, 2, 0, [1, 9, 30])),
  (38, (2, 2, 5, 0, 0, [])),
  (40, (0, 2, 5, 0, 0, [])),
  (42, (4, 1, 0, 0, 1, [])),
  (43, (16, 3, 4, 60, 0, [])),
  (46, (0, 2, 5, 0, 0, [])),
  (48, (4, 1, 0, 0, 1, [])),
  (49, (16, 3, 1, 62, 0, [])),
  (52, (1, 1, 3, 0, 0, [])),
  (53, (30, 3, 9, 2, 0, [22])),
  (56, (0, 1, 2, 0, 0, [])),
  (57, (16, 3, 3, 62, 0, [])),
  (60, (4, 1, 0, 0, 1, [])),
  (61, (43, 1, 0, 0, 0, [])),
  (62, (0, 2, 5, 0, 0, [])),
  (64, (4, 1, 0, 0, 1, [])),
  (65, (16, 3, 1, 77, 0, [])),
  (68, (0, 1, 2, 0, 0, [])),
  (69, (1, 1, 3, 0, 0, [])),
  (70, (30, 3, 9, 3, 0, [34])),
  (73, (40, 3, 97, 2, 0, [0, 0, 37])),
  (76, (2, 1, 2, 0, 0, [])),
  (77, (1, 1, 3, 0, 0, [])),
  (78, (30, 3, 9, 4, 0, [27])),
  (81, (3, 1, 3, 0, 0, [])),
  (82, (6, 3, 4, 0, 1, [])),
  (85, (20, 3, 0, 10, 0, [])),
  (88, (4, 1, 0, 0, 0, [])),
  (89, (43, 1, 0, 0, 0, []))]
def sm_m47 : av_Mt := (⟨"StructureMap$SizedFile", "hasPlaceTwice", "([I)Z"⟩, prog_8_method_3_code, 6, some (.boolean), sm_find sm_c47)
/-- File_hasPlaceInNone -/
def sm_c48 : List (Nat × av_I) := [
  (0, (4, 1, 0, 0, 0, [])),
  (1, (2, 1, 2, 0, 0, [])),
  (2, (1, 1, 0, 0, 0, [])),
  (3, (30, 3, 6, 2, 0, [18])),
  (6, (3, 1, 3, 0, 0, [])),
  (7, (4, 1, 0, 0, 0, [])),
  (8, (2, 2, 4, 0, 0, [])),
  (10, (0, 2, 4, 0, 0, [])),
  (12, (4, 3, 2, 0, 600, [])),
  (15, (16, 3, 3, 58, 0, [])),
  (18, (1, 1, 3, 0, 0, [])),
  (19, (18, 3, 0, 58, 0, [])),
  (22, (1, 1, 3, 0, 0, [])),
  (23, (30, 3, 9, 2, 0, [22])),
  (26, (0, 1, 2, 0, 0, [])),
  (27, (16, 3, 4, 58, 0, [])),
  (30, (1, 1, 3, 0, 0, [])),
  (31, (1, 1, 1, 0, 0, [])),
  (32, (40, 3, 61, 2, 0, [1, 9, 30])),
  (35, (15, 3, 5, 47, 0, [])),
  (38, (0, 1, 2, 0, 0, [])),
  (39, (1, 1, 3, 0, 0, [])),
  (40, (30, 3, 9, 3, 0, [34])),
  (43, (40, 3, 97, 2, 0, [0, 0, 37])),
  (46, (2, 1, 2, 0, 0, [])),
  (47, (1, 1, 3, 0, 0, [])),
  (48, (30, 3, 9, 4, 0, [27])),
  (51, (3, 1, 3, 0, 0, [])),
  (52, (6, 3, 4, 0, 1, [])),
  (55, (20, 3, 0, 10, 0, [])),
  (58, (0, 1, 2, 0, 0, [])),
  (59, (1, 1, 0, 0, 0, [])),
  (60, (30, 3, 6, 1, 0, [15])),
  (63, (16, 3, 3, 70, 0, [])),
  (66, (4, 1, 0, 0, 1, [])),
  (67, (20, 3, 0, 71, 0, [])),
  (70, (4, 1, 0, 0, 0, [])),
  (71, (43, 1, 0, 0, 0, []))]
def sm_m48 : av_Mt := (⟨"StructureMap$SizedFile", "hasPlaceInNone", "([I)Z"⟩, prog_8_method_4_code, 5, some (.boolean), sm_find sm_c48)
/-- Tree_init -/
def sm_c49 : List (Nat × av_I) := [
  (0, (1, 1, 0, 0, 0, [])),
  (1, (41, 3, 0, 0, 0, [3])),
  (4, (1, 1, 0, 0, 0, [])),
  (5, (0, 1, 2, 0, 0, [])),
  (6, (31, 3, 7, 0, 0, [9])),
  (9, (1, 1, 0, 0, 0, [])),
  (10, (36, 3, 8, 0, 0, [15])),
  (13, (10, 1, 0, 0, 0, [])),
  (14, (4, 1, 0, 0, (-1), [])),
  (15, (0, 1, 1, 0, 0, [])),
  (16, (4, 1, 0, 0, 0, [])),
  (17, (4, 1, 0, 0, 0, [])),
  (18, (40, 3, 50, 5, 0, [2, 8, 17])),
  (21, (31, 3, 7, 1, 0, [20])),
  (24, (42, 1, 0, 0, 0, []))]
def sm_m49 : av_Mt := (⟨"StructureMap$Tree", "<init>", "(II)V"⟩, prog_10_method_1_code, 3, none, sm_find sm_c49)
/-- Div_init -/
def sm_c50 : List (Nat × av_I) := [
  (0, (1, 1, 0, 0, 0, [])),
  (1, (41, 3, 0, 0, 0, [3])),
  (4, (1, 1, 0, 0, 0, [])),
  (5, (0, 1, 1, 0, 0, [])),
  (6, (31, 3, 8, 0, 0, [9])),
  (9, (1, 1, 0, 0, 0, [])),
  (10, (0, 1, 2, 0, 0, [])),
  (11, (31, 3, 8, 1, 0, [15])),
  (14, (1, 1, 0, 0, 0, [])),
  (15, (0, 1, 3, 0, 0, [])),
  (16, (31, 3, 8, 2, 0, [18])),
  (19, (1, 1, 0, 0, 0, [])),
  (20, (0, 2, 4, 0, 0, [])),
  (22, (31, 3, 8, 3, 0, [21])),
  (25, (1, 1, 0, 0, 0, [])),
  (26, (4, 1, 0, 0, 5, [])),
  (27, (38, 3, 8, 9, 0, [24])),
  (30, (31, 3, 8, 4, 0, [26])),
  (33, (1, 1, 0, 0, 0, [])),
  (34, (4, 1, 0, 0, 0, [])),
  (35, (31, 3, 8, 5, 0, [30])),
  (38, (1, 1, 0, 0, 0, [])),
  (39, (5, 1, 0, 0, 0, [])),
  (40, (31, 3, 8, 6, 0, [33])),
  (43, (1, 1, 0, 0, 0, [])),
  (44, (5, 1, 0, 0, 0, [])),
  (45, (31, 3, 8, 7, 0, [37])),
  (48, (1, 1, 0, 0, 0, [])),
  (49, (5, 1, 0, 0, 0, [])),
  (50, (31, 3, 8, 8, 0, [40])),
  (53, (1, 1, 0, 0, 0, [])),
  (54, (5, 1, 0, 0, 0, [])),
  (55, (31, 3, 8, 9, 0, [43])),
  (58, (42, 1, 0, 0, 0, []))]
def sm_m50 : av_Mt := (⟨"StructureMap$Division", "<init>", "(IIII)V"⟩, prog_2_method_1_code, 5, none, sm_find sm_c50)
/-- Div_take -/
def sm_c51 : List (Nat × av_I) := [
  (0, (5, 1, 0, 0, 0, [])),
  (1, (3, 1, 2, 0, 0, [])),
  (2, (1, 1, 0, 0, 0, [])),
  (3, (30, 3, 8, 7, 0, [37])),
  (6, (3, 1, 3, 0, 0, [])),
  (7, (4, 1, 0, 0, 0, [])),
  (8, (2, 2, 4, 0, 0, [])),
  (10, (0, 2, 4, 0, 0, [])),
  (12, (4, 2, 1, 0, 120, [])),
  (14, (16, 3, 3, 42, 0, [])),
  (17, (1, 1, 3, 0, 0, [])),
  (18, (18, 3, 0, 42, 0, [])),
  (21, (1, 1, 3, 0, 0, [])),
  (22, (1, 1, 1, 0, 0, [])),
  (23, (40, 3, 52, 2, 0, [1, 8, 46])),
  (26, (15, 3, 0, 42, 0, [])),
  (29, (1, 1, 3, 0, 0, [])),
  (30, (3, 1, 2, 0, 0, [])),
  (31, (1, 1, 3, 0, 0, [])),
  (32, (30, 3, 8, 8, 0, [40])),
  (35, (3, 1, 3, 0, 0, [])),
  (36, (6, 3, 4, 0, 1, [])),
  (39, (20, 3, 0, 10, 0, [])),
  (42, (1, 1, 1, 0, 0, [])),
  (43, (1, 1, 0, 0, 0, [])),
  (44, (31, 3, 8, 6, 0, [33])),
  (47, (1, 1, 1, 0, 0, [])),
  (48, (1, 1, 3, 0, 0, [])),
  (49, (31, 3, 8, 8, 0, [40])),
  (52, (1, 1, 2, 0, 0, [])),
  (53, (19, 3, 0, 64, 0, [])),
  (56, (1, 1, 0, 0, 0, [])),
  (57, (1, 1, 1, 0, 0, [])),
  (58, (31, 3, 8, 7, 0, [37])),
  (61, (20, 3, 0, 69, 0, [])),
  (64, (1, 1, 2, 0, 0, [])),
  (65, (1, 1, 1, 0, 0, [])),
  (66, (31, 3, 8, 8, 0, [40])),
  (69, (42, 1, 0, 0, 0, []))]
def sm_m51 : av_Mt := (⟨"StructureMap$Division", "take", "(LStructureMap$Division;)V"⟩, prog_2_method_4_code, 5, none, sm_find sm_c51)
/-- Div_comesBefore -/
def sm_c52 : List (Nat × av_I) := [
  (0, (1, 1, 0, 0, 0, [])),
  (1, (30, 3, 8, 2, 0, [18])),
  (4, (1, 1, 1, 0, 0, [])),
  (5, (30, 3, 8, 2, 0, [18])),
  (8, (16, 3, 0, 30, 0, [])),
  (11, (1, 1, 0, 0, 0, [])),
  (12, (30, 3, 8, 2, 0, [18])),
  (15, (1, 1, 1, 0, 0, [])),
  (16, (30, 3, 8, 2, 0, [18])),
  (19, (16, 3, 3, 26, 0, [])),
  (22, (4, 1, 0, 0, 1, [])),
  (23, (20, 3, 0, 46, 0, [])),
  (26, (4, 1, 0, 0, 0, [])),
  (27, (20, 3, 0, 46, 0, [])),
  (30, (1, 1, 0, 0, 0, [])),
  (31, (30, 3, 8, 0, 0, [9])),
  (34, (1, 1, 1, 0, 0, [])),
  (35, (30, 3, 8, 0, 0, [9])),
  (38, (16, 3, 3, 45, 0, [])),
  (41, (4, 1, 0, 0, 1, [])),
  (42, (20, 3, 0, 46, 0, [])),
  (45, (4, 1, 0, 0, 0, [])),
  (46, (43, 1, 0, 0, 0, []))]
def sm_m52 : av_Mt := (⟨"StructureMap$Division", "comesBefore", "(LStructureMap$Division;)Z"⟩, prog_2_method_3_code, 2, some (.boolean), sm_find sm_c52)
/-- Div_isEmpty -/
def sm_c53 : List (Nat × av_I) := [
  (0, (1, 1, 0, 0, 0, [])),
  (1, (30, 3, 8, 5, 0, [30])),
  (4, (15, 3, 1, 25, 0, [])),
  (7, (1, 1, 0, 0, 0, [])),
  (8, (30, 3, 8, 7, 0, [37])),
  (11, (19, 3, 0, 25, 0, [])),
  (14, (1, 1, 0, 0, 0, [])),
  (15, (30, 3, 8, 9, 0, [43])),
  (18, (19, 3, 0, 25, 0, [])),
  (21, (4, 1, 0, 0, 1, [])),
  (22, (20, 3, 0, 26, 0, [])),
  (25, (4, 1, 0, 0, 0, [])),
  (26, (43, 1, 0, 0, 0, []))]
def sm_m53 : av_Mt := (⟨"StructureMap$Division", "isEmpty", "()Z"⟩, prog_2_method_2_code, 1, some (.boolean), sm_find sm_c53)
/-- Div_drop -/
def sm_c54 : List (Nat × av_I) := [
  (0, (5, 1, 0, 0, 0, [])),
  (1, (3, 1, 2, 0, 0, [])),
  (2, (1, 1, 0, 0, 0, [])),
  (3, (30, 3, 8, 7, 0, [37])),
  (6, (3, 1, 3, 0, 0, [])),
  (7, (4, 1, 0, 0, 0, [])),
  (8, (2, 2, 4, 0, 0, [])),
  (10, (0, 2, 4, 0, 0, [])),
  (12, (4, 2, 1, 0, 120, [])),
  (14, (16, 3, 3, 39, 0, [])),
  (17, (1, 1, 3, 0, 0, [])),
  (18, (18, 3, 0, 39, 0, [])),
  (21, (1, 1, 3, 0, 0, [])),
  (22, (1, 1, 1, 0, 0, [])),
  (23, (17, 3, 0, 39, 0, [])),
  (26, (1, 1, 3, 0, 0, [])),
  (27, (3, 1, 2, 0, 0, [])),
  (28, (1, 1, 3, 0, 0, [])),
  (29, (30, 3, 8, 8, 0, [40])),
  (32, (3, 1, 3, 0, 0, [])),
  (33, (6, 3, 4, 0, 1, [])),
  (36, (20, 3, 0, 10, 0, [])),
  (39, (1, 1, 2, 0, 0, [])),
  (40, (19, 3, 0, 54, 0, [])),
  (43, (1, 1, 0, 0, 0, [])),
  (44, (1, 1, 1, 0, 0, [])),
  (45, (30, 3, 8, 8, 0, [40])),
  (48, (31, 3, 8, 7, 0, [37])),
  (51, (20, 3, 0, 62, 0, [])),
  (54, (1, 1, 2, 0, 0, [])),
  (55, (1, 1, 1, 0, 0, [])),
  (56, (30, 3, 8, 8, 0, [40])),
  (59, (31, 3, 8, 8, 0, [40])),
  (62, (1, 1, 1, 0, 0, [])),
  (63, (5, 1, 0, 0, 0, [])),
  (64, (31, 3, 8, 6, 0, [33])),
  (67, (1, 1, 1, 0, 0, [])),
  (68, (5, 1, 0, 0, 0, [])),
  (69, (31, 3, 8, 8, 0, [40])),
  (72, (42, 1, 0, 0, 0, []))]
def sm_m54 : av_Mt := (⟨"StructureMap$Division", "drop", "(LStructureMap$Division;)V"⟩, prog_2_method_5_code, 5, none, sm_find sm_c54)
/-- Div_next -/
def sm_c55 : List (Nat × av_I) := [
  (0, (1, 1, 0, 0, 0, [])),
  (1, (30, 3, 8, 7, 0, [37])),
  (4, (18, 3, 0, 12, 0, [])),
  (7, (1, 1, 0, 0, 0, [])),
  (8, (30, 3, 8, 7, 0, [37])),
  (11, (43, 1, 0, 0, 0, [])),
  (12, (1, 1, 0, 0, 0, [])),
  (13, (3, 1, 2, 0, 0, [])),
  (14, (4, 1, 0, 0, 0, [])),
  (15, (2, 1, 3, 0, 0, [])),
  (16, (0, 1, 3, 0, 0, [])),
  (17, (4, 2, 1, 0, 120, [])),
  (19, (16, 3, 4, 54, 0, [])),
  (22, (1, 1, 2, 0, 0, [])),
  (23, (18, 3, 0, 54, 0, [])),
  (26, (1, 1, 2, 0, 0, [])),
  (27, (1, 1, 1, 0, 0, [])),
  (28, (17, 3, 0, 54, 0, [])),
  (31, (1, 1, 2, 0, 0, [])),
  (32, (30, 3, 8, 8, 0, [40])),
  (35, (18, 3, 0, 43, 0, [])),
  (38, (1, 1, 2, 0, 0, [])),
  (39, (30, 3, 8, 8, 0, [40])),
  (42, (43, 1, 0, 0, 0, [])),
  (43, (1, 1, 2, 0, 0, [])),
  (44, (30, 3, 8, 6, 0, [33])),
  (47, (3, 1, 2, 0, 0, [])),
  (48, (6, 3, 3, 0, 1, [])),
  (51, (20, 3, 0, 16, 0, [])),
  (54, (5, 1, 0, 0, 0, [])),
  (55, (43, 1, 0, 0, 0, []))]
def sm_m55 : av_Mt := (⟨"StructureMap$Division", "next", "(LStructureMap$Division;)LStructureMap$Division;"⟩, prog_2_method_6_code, 4, some (.object "StructureMap$Division"), sm_find sm_c55)
/-- Div_hasOrderOfLower -/
def sm_c56 : List (Nat × av_I) := [
  (0, (1, 1, 0, 0, 0, [])),
  (1, (30, 3, 8, 6, 0, [33])),
  (4, (19, 3, 0, 11, 0, [])),
  (7, (5, 1, 0, 0, 0, [])),
  (8, (20, 3, 0, 18, 0, [])),
  (11, (1, 1, 0, 0, 0, [])),
  (12, (30, 3, 8, 6, 0, [33])),
  (15, (30, 3, 8, 7, 0, [37])),
  (18, (3, 1, 1, 0, 0, [])),
  (19, (4, 1, 0, 0, 0, [])),
  (20, (2, 1, 2, 0, 0, [])),
  (21, (0, 1, 2, 0, 0, [])),
  (22, (4, 2, 1, 0, 120, [])),
  (24, (16, 3, 3, 66, 0, [])),
  (27, (1, 1, 1, 0, 0, [])),
  (28, (18, 3, 0, 66, 0, [])),
  (31, (1, 1, 1, 0, 0, [])),
  (32, (30, 3, 8, 2, 0, [18])),
  (35, (1, 1, 0, 0, 0, [])),
  (36, (30, 3, 8, 2, 0, [18])),
  (39, (16, 3, 1, 55, 0, [])),
  (42, (1, 1, 1, 0, 0, [])),
  (43, (30, 3, 8, 0, 0, [9])),
  (46, (1, 1, 0, 0, 0, [])),
  (47, (30, 3, 8, 0, 0, [9])),
  (50, (16, 3, 3, 55, 0, [])),
  (53, (4, 1, 0, 0, 1, [])),
  (54, (43, 1, 0, 0, 0, [])),
  (55, (1, 1, 1, 0, 0, [])),
  (56, (30, 3, 8, 8, 0, [40])),
  (59, (3, 1, 1, 0, 0, [])),
  (60, (6, 3, 2, 0, 1, [])),
  (63, (20, 3, 0, 21, 0, [])),
  (66, (4, 1, 0, 0, 0, [])),
  (67, (43, 1, 0, 0, 0, []))]
def sm_m56 : av_Mt := (⟨"StructureMap$Division", "hasOrderOfLower", "()Z"⟩, prog_2_method_9_code, 3, some (.boolean), sm_find sm_c56)
/-- Div_linksBeyond -/
def sm_c57 : List (Nat × av_I) := [
  (0, (4, 1, 0, 0, 0, [])),
  (1, (2, 1, 1, 0, 0, [])),
  (2, (0, 1, 1, 0, 0, [])),
  (3, (1, 1, 0, 0, 0, [])),
  (4, (30, 3, 8, 5, 0, [30])),
  (7, (16, 3, 3, 52, 0, [])),
  (10, (0, 1, 1, 0, 0, [])),
  (11, (1, 1, 0, 0, 0, [])),
  (12, (30, 3, 8, 4, 0, [26])),
  (15, (32, 1, 0, 0, 0, [])),
  (16, (16, 3, 3, 52, 0, [])),
  (19, (1, 1, 0, 0, 0, [])),
  (20, (30, 3, 8, 4, 0, [26])),
  (23, (0, 1, 1, 0, 0, [])),
  (24, (33, 1, 8, 0, 0, [])),
  (25, (3, 1, 2, 0, 0, [])),
  (26, (1, 1, 2, 0, 0, [])),
  (27, (18, 3, 0, 46, 0, [])),
  (30, (1, 1, 2, 0, 0, [])),
  (31, (30, 3, 9, 3, 0, [54])),
  (34, (1, 1, 2, 0, 0, [])),
  (35, (30, 3, 9, 1, 0, [57])),
  (38, (30, 3, 6, 1, 0, [61])),
  (41, (16, 3, 5, 46, 0, [])),
  (44, (4, 1, 0, 0, 1, [])),
  (45, (43, 1, 0, 0, 0, [])),
  (46, (6, 3, 1, 0, 1, [])),
  (49, (20, 3, 0, 2, 0, [])),
  (52, (4, 1, 0, 0, 0, [])),
  (53, (43, 1, 0, 0, 0, []))]
def sm_m57 : av_Mt := (⟨"StructureMap$Division", "linksBeyond", "()Z"⟩, prog_2_method_10_code, 3, some (.boolean), sm_find sm_c57)
/-- Div_depth -/
def sm_c58 : List (Nat × av_I) := [
  (0, (4, 1, 0, 0, 0, [])),
  (1, (2, 1, 1, 0, 0, [])),
  (2, (1, 1, 0, 0, 0, [])),
  (3, (30, 3, 8, 6, 0, [33])),
  (6, (3, 1, 2, 0, 0, [])),
  (7, (4, 1, 0, 0, 0, [])),
  (8, (2, 1, 3, 0, 0, [])),
  (9, (0, 1, 3, 0, 0, [])),
  (10, (4, 2, 1, 0, 120, [])),
  (12, (16, 3, 3, 41, 0, [])),
  (15, (1, 1, 2, 0, 0, [])),
  (16, (18, 3, 0, 41, 0, [])),
  (19, (1, 1, 2, 0, 0, [])),
  (20, (30, 3, 8, 0, 0, [9])),
  (23, (4, 1, 0, 0, (-1), [])),
  (24, (16, 3, 0, 41, 0, [])),
  (27, (6, 3, 1, 0, 1, [])),
  (30, (1, 1, 2, 0, 0, [])),
  (31, (30, 3, 8, 6, 0, [33])),
  (34, (3, 1, 2, 0, 0, [])),
  (35, (6, 3, 3, 0, 1, [])),
  (38, (20, 3, 0, 9, 0, [])),
  (41, (0, 1, 1, 0, 0, [])),
  (42, (43, 1, 0, 0, 0, []))]
def sm_m58 : av_Mt := (⟨"StructureMap$Division", "depth", "()I"⟩, prog_2_method_7_code, 4, some (.int), sm_find sm_c58)
/-- Div_countUnder -/
def sm_c59 : List (Nat × av_I) := [
  (0, (4, 1, 0, 0, 0, [])),
  (1, (2, 1, 1, 0, 0, [])),
  (2, (1, 1, 0, 0, 0, [])),
  (3, (1, 1, 0, 0, 0, [])),
  (4, (40, 3, 55, 2, 0, [1, 8, 50])),
  (7, (3, 1, 2, 0, 0, [])),
  (8, (4, 1, 0, 0, 0, [])),
  (9, (2, 1, 3, 0, 0, [])),
  (10, (0, 1, 3, 0, 0, [])),
  (11, (4, 2, 1, 0, 120, [])),
  (13, (16, 3, 3, 35, 0, [])),
  (16, (1, 1, 2, 0, 0, [])),
  (17, (18, 3, 0, 35, 0, [])),
  (20, (6, 3, 1, 0, 1, [])),
  (23, (1, 1, 2, 0, 0, [])),
  (24, (1, 1, 0, 0, 0, [])),
  (25, (40, 3, 55, 2, 0, [1, 8, 50])),
  (28, (3, 1, 2, 0, 0, [])),
  (29, (6, 3, 3, 0, 1, [])),
  (32, (20, 3, 0, 10, 0, [])),
  (35, (0, 1, 1, 0, 0, [])),
  (36, (43, 1, 0, 0, 0, []))]
def sm_m59 : av_Mt := (⟨"StructureMap$Division", "countUnder", "()I"⟩, prog_2_method_8_code, 4, some (.int), sm_find sm_c59)
/-- Link_init -/
def sm_c60 : List (Nat × av_I) := [
  (0, (1, 1, 0, 0, 0, [])),
  (1, (41, 3, 0, 0, 0, [1])),
  (4, (1, 1, 0, 0, 0, [])),
  (5, (1, 1, 1, 0, 0, [])),
  (6, (31, 3, 9, 0, 0, [7])),
  (9, (1, 1, 0, 0, 0, [])),
  (10, (1, 1, 2, 0, 0, [])),
  (11, (31, 3, 9, 1, 0, [13])),
  (14, (1, 1, 0, 0, 0, [])),
  (15, (0, 1, 3, 0, 0, [])),
  (16, (31, 3, 9, 2, 0, [17])),
  (19, (1, 1, 0, 0, 0, [])),
  (20, (0, 2, 4, 0, 0, [])),
  (22, (31, 3, 9, 3, 0, [21])),
  (25, (1, 1, 0, 0, 0, [])),
  (26, (5, 1, 0, 0, 0, [])),
  (27, (31, 3, 9, 4, 0, [24])),
  (30, (42, 1, 0, 0, 0, []))]
def sm_m60 : av_Mt := (⟨"StructureMap$Link", "<init>", "(LStructureMap$Division;LStructureMap$SizedFile;II)V"⟩, prog_4_method_1_code, 5, none, sm_find sm_c60)
/-- Link_timesMet -/
def sm_c61 : List (Nat × av_I) := [
  (0, (1, 1, 0, 0, 0, [])),
  (1, (30, 3, 9, 0, 0, [7])),
  (4, (30, 3, 8, 0, 0, [28])),
  (7, (2, 1, 2, 0, 0, [])),
  (8, (0, 1, 2, 0, 0, [])),
  (9, (15, 3, 2, 18, 0, [])),
  (12, (0, 1, 2, 0, 0, [])),
  (13, (1, 1, 1, 0, 0, [])),
  (14, (32, 1, 0, 0, 0, [])),
  (15, (16, 3, 2, 22, 0, [])),
  (18, (4, 1, 0, 0, 0, [])),
  (19, (20, 3, 0, 25, 0, [])),
  (22, (1, 1, 1, 0, 0, [])),
  (23, (0, 1, 2, 0, 0, [])),
  (24, (33, 1, 0, 0, 0, [])),
  (25, (43, 1, 0, 0, 0, []))]
def sm_m61 : av_Mt := (⟨"StructureMap$Link", "timesMet", "([I)I"⟩, prog_4_method_2_code, 3, some (.int), sm_find sm_c61)
/-- Ref_init -/
def sm_c62 : List (Nat × av_I) := [
  (0, (1, 1, 0, 0, 0, [])),
  (1, (41, 3, 0, 0, 0, [1])),
  (4, (1, 1, 0, 0, 0, [])),
  (5, (4, 2, 1, 0, 30, [])),
  (7, (37, 2, 0, 0, 0, [])),
  (9, (31, 3, 10, 2, 0, [7])),
  (12, (1, 1, 0, 0, 0, [])),
  (13, (4, 1, 0, 0, 5, [])),
  (14, (37, 2, 0, 0, 0, [])),
  (16, (31, 3, 10, 4, 0, [13])),
  (19, (1, 1, 0, 0, 0, [])),
  (20, (4, 2, 1, 0, 120, [])),
  (22, (37, 2, 0, 0, 0, [])),
  (24, (31, 3, 10, 6, 0, [16])),
  (27, (1, 1, 0, 0, 0, [])),
  (28, (4, 2, 1, 0, 120, [])),
  (30, (37, 2, 0, 0, 0, [])),
  (32, (31, 3, 10, 7, 0, [19])),
  (35, (1, 1, 0, 0, 0, [])),
  (36, (4, 2, 1, 0, 120, [])),
  (38, (37, 2, 0, 0, 0, [])),
  (40, (31, 3, 10, 8, 0, [22])),
  (43, (1, 1, 0, 0, 0, [])),
  (44, (4, 2, 1, 0, 120, [])),
  (46, (37, 2, 0, 0, 0, [])),
  (48, (31, 3, 10, 9, 0, [25])),
  (51, (1, 1, 0, 0, 0, [])),
  (52, (4, 2, 1, 0, 120, [])),
  (54, (37, 2, 0, 0, 0, [])),
  (56, (31, 3, 10, 10, 0, [28])),
  (59, (1, 1, 0, 0, 0, [])),
  (60, (4, 2, 1, 0, 120, [])),
  (62, (37, 2, 0, 0, 0, [])),
  (64, (31, 3, 10, 11, 0, [31])),
  (67, (1, 1, 0, 0, 0, [])),
  (68, (4, 3, 2, 0, 600, [])),
  (71, (37, 2, 0, 0, 0, [])),
  (73, (31, 3, 10, 12, 0, [34])),
  (76, (1, 1, 0, 0, 0, [])),
  (77, (4, 3, 2, 0, 600, [])),
  (80, (37, 2, 0, 0, 0, [])),
  (82, (31, 3, 10, 13, 0, [37])),
  (85, (1, 1, 0, 0, 0, [])),
  (86, (4, 3, 2, 0, 600, [])),
  (89, (37, 2, 0, 0, 0, [])),
  (91, (31, 3, 10, 14, 0, [40])),
  (94, (1, 1, 0, 0, 0, [])),
  (95, (4, 3, 2, 0, 1000, [])),
  (98, (37, 2, 0, 0, 0, [])),
  (100, (31, 3, 10, 15, 0, [43])),
  (103, (1, 1, 0, 0, 0, [])),
  (104, (4, 3, 2, 0, 1000, [])),
  (107, (37, 2, 0, 0, 0, [])),
  (109, (31, 3, 10, 16, 0, [46])),
  (112, (1, 1, 0, 0, 0, [])),
  (113, (4, 2, 1, 0, 120, [])),
  (115, (37, 2, 2, 0, 0, [])),
  (117, (31, 3, 10, 18, 0, [49])),
  (120, (1, 1, 0, 0, 0, [])),
  (121, (4, 2, 1, 0, 120, [])),
  (123, (37, 2, 0, 0, 0, [])),
  (125, (31, 3, 10, 20, 0, [53])),
  (128, (1, 1, 0, 0, 0, [])),
  (129, (4, 2, 1, 0, 120, [])),
  (131, (37, 2, 0, 0, 0, [])),
  (133, (31, 3, 10, 21, 0, [56])),
  (136, (1, 1, 0, 0, 0, [])),
  (137, (4, 2, 1, 0, 120, [])),
  (139, (37, 2, 0, 0, 0, [])),
  (141, (31, 3, 10, 23, 0, [59])),
  (144, (1, 1, 0, 0, 0, [])),
  (145, (4, 2, 1, 0, 120, [])),
  (147, (37, 2, 0, 0, 0, [])),
  (149, (31, 3, 10, 24, 0, [62])),
  (152, (1, 1, 0, 0, 0, [])),
  (153, (4, 3, 2, 0, 25000, [])),
  (156, (37, 2, 0, 0, 0, [])),
  (158, (31, 3, 10, 26, 0, [65])),
  (161, (1, 1, 0, 0, 0, [])),
  (162, (4, 3, 2, 0, 25000, [])),
  (165, (37, 2, 0, 0, 0, [])),
  (167, (31, 3, 10, 28, 0, [68])),
  (170, (1, 1, 0, 0, 0, [])),
  (171, (4, 3, 2, 0, 500, [])),
  (174, (37, 2, 0, 0, 0, [])),
  (176, (31, 3, 10, 30, 0, [71])),
  (179, (1, 1, 0, 0, 0, [])),
  (180, (4, 3, 2, 0, 500, [])),
  (183, (37, 2, 0, 0, 0, [])),
  (185, (31, 3, 10, 31, 0, [74])),
  (188, (1, 1, 0, 0, 0, [])),
  (189, (4, 3, 2, 0, 9000, [])),
  (192, (37, 2, 3, 0, 0, [])),
  (194, (31, 3, 10, 33, 0, [77])),
  (197, (42, 1, 0, 0, 0, []))]
def sm_m62 : av_Mt := (⟨"StructureMapModel", "<init>", "()V"⟩, prog_12_method_1_code, 1, none, sm_find sm_c62)
/-- Ref_thrown -/
def sm_c63 : List (Nat × av_I) := [
  (0, (1, 1, 0, 0, 0, [])),
  (1, (30, 3, 10, 0, 0, [81])),
  (4, (43, 1, 0, 0, 0, []))]
def sm_m63 : av_Mt := (⟨"StructureMapModel", "thrown", "()I"⟩, prog_12_method_2_code, 1, some (.int), sm_find sm_c63)
/-- Ref_file -/
def sm_c64 : List (Nat × av_I) := [
  (0, (1, 1, 0, 0, 0, [])),
  (1, (4, 1, 0, 0, 0, [])),
  (2, (31, 3, 10, 0, 0, [81])),
  (5, (0, 1, 1, 0, 0, [])),
  (6, (4, 1, 0, 0, 0, [])),
  (7, (4, 2, 3, 98, 100000, [])),
  (9, (40, 3, 65, 3, 0, [0, 0, 88])),
  (12, (15, 3, 1, 18, 0, [])),
  (15, (4, 2, 1, 0, (-2), [])),
  (17, (43, 1, 0, 0, 0, [])),
  (18, (1, 1, 0, 0, 0, [])),
  (19, (30, 3, 10, 1, 0, [85])),
  (22, (4, 2, 1, 0, 30, [])),
  (24, (16, 3, 1, 30, 0, [])),
  (27, (4, 2, 1, 0, (-4), [])),
  (29, (43, 1, 0, 0, 0, [])),
  (30, (1, 1, 0, 0, 0, [])),
  (31, (30, 3, 10, 2, 0, [7])),
  (34, (1, 1, 0, 0, 0, [])),
  (35, (30, 3, 10, 1, 0, [85])),
  (38, (0, 1, 1, 0, 0, [])),
  (39, (34, 1, 0, 0, 0, [])),
  (40, (1, 1, 0, 0, 0, [])),
  (41, (10, 1, 0, 0, 0, [])),
  (42, (30, 3, 10, 1, 0, [85])),
  (45, (4, 1, 0, 0, 1, [])),
  (46, (7, 1, 0, 0, 0, [])),
  (47, (31, 3, 10, 1, 0, [85])),
  (50, (1, 1, 0, 0, 0, [])),
  (51, (30, 3, 10, 1, 0, [85])),
  (54, (4, 1, 0, 0, 1, [])),
  (55, (7, 1, 1, 0, 0, [])),
  (56, (43, 1, 0, 0, 0, []))]
def sm_m64 : av_Mt := (⟨"StructureMapModel", "file", "(I)I"⟩, prog_12_method_7_code, 2, some (.int), sm_find sm_c64)
/-- Ref_in -/
def sm_c65 : List (Nat × av_I) := [
  (0, (0, 1, 0, 0, 0, [])),
  (1, (0, 1, 1, 0, 0, [])),
  (2, (16, 3, 2, 14, 0, [])),
  (5, (0, 1, 0, 0, 0, [])),
  (6, (0, 1, 2, 0, 0, [])),
  (7, (16, 3, 4, 14, 0, [])),
  (10, (4, 1, 0, 0, 1, [])),
  (11, (20, 3, 0, 15, 0, [])),
  (14, (4, 1, 0, 0, 0, [])),
  (15, (43, 1, 0, 0, 0, []))]
def sm_m65 : av_Mt := (⟨"StructureMapModel", "in", "(III)Z"⟩, prog_12_method_3_code, 3, some (.boolean), sm_find sm_c65)
/-- Ref_size -/
def sm_c66 : List (Nat × av_I) := [
  (0, (1, 1, 0, 0, 0, [])),
  (1, (4, 1, 0, 0, 0, [])),
  (2, (31, 3, 10, 0, 0, [81])),
  (5, (1, 1, 0, 0, 0, [])),
  (6, (0, 1, 1, 0, 0, [])),
  (7, (40, 3, 67, 2, 0, [1, 10, 99])),
  (10, (15, 3, 1, 15, 0, [])),
  (13, (4, 1, 0, 0, (-1), [])),
  (14, (43, 1, 0, 0, 0, [])),
  (15, (0, 1, 2, 0, 0, [])),
  (16, (4, 1, 0, 0, 0, [])),
  (17, (4, 2, 3, 98, 100000, [])),
  (19, (40, 3, 65, 3, 0, [0, 0, 88])),
  (22, (15, 3, 1, 28, 0, [])),
  (25, (4, 2, 1, 0, (-2), [])),
  (27, (43, 1, 0, 0, 0, [])),
  (28, (1, 1, 0, 0, 0, [])),
  (29, (30, 3, 10, 2, 0, [7])),
  (32, (0, 1, 1, 0, 0, [])),
  (33, (33, 1, 0, 0, 0, [])),
  (34, (2, 1, 3, 0, 0, [])),
  (35, (1, 1, 0, 0, 0, [])),
  (36, (30, 3, 10, 2, 0, [7])),
  (39, (0, 1, 1, 0, 0, [])),
  (40, (0, 1, 2, 0, 0, [])),
  (41, (34, 1, 0, 0, 0, [])),
  (42, (0, 1, 3, 0, 0, [])),
  (43, (43, 1, 0, 0, 0, []))]
def sm_m66 : av_Mt := (⟨"StructureMapModel", "size", "(II)I"⟩, prog_12_method_8_code, 4, some (.int), sm_find sm_c66)
/-- Ref_isFile -/
def sm_c67 : List (Nat × av_I) := [
  (0, (0, 1, 1, 0, 0, [])),
  (1, (4, 1, 0, 0, 0, [])),
  (2, (1, 1, 0, 0, 0, [])),
  (3, (30, 3, 10, 1, 0, [85])),
  (6, (4, 1, 0, 0, 1, [])),
  (7, (7, 1, 1, 0, 0, [])),
  (8, (40, 3, 65, 3, 0, [0, 0, 88])),
  (11, (43, 1, 0, 0, 0, []))]
def sm_m67 : av_Mt := (⟨"StructureMapModel", "isFile", "(I)Z"⟩, prog_12_method_4_code, 2, some (.boolean), sm_find sm_c67)
/-- Ref_map -/
def sm_c68 : List (Nat × av_I) := [
  (0, (1, 1, 0, 0, 0, [])),
  (1, (4, 1, 0, 0, 0, [])),
  (2, (31, 3, 10, 0, 0, [81])),
  (5, (0, 1, 1, 0, 0, [])),
  (6, (4, 1, 0, 0, 0, [])),
  (7, (4, 1, 0, 0, 1, [])),
  (8, (40, 3, 65, 3, 0, [0, 0, 88])),
  (11, (15, 3, 1, 17, 0, [])),
  (14, (4, 2, 1, 0, (-2), [])),
  (16, (43, 1, 0, 0, 0, [])),
  (17, (1, 1, 0, 0, 0, [])),
  (18, (30, 3, 10, 3, 0, [92])),
  (21, (4, 1, 0, 0, 5, [])),
  (22, (16, 3, 1, 28, 0, [])),
  (25, (4, 2, 1, 0, (-4), [])),
  (27, (43, 1, 0, 0, 0, [])),
  (28, (1, 1, 0, 0, 0, [])),
  (29, (30, 3, 10, 4, 0, [13])),
  (32, (1, 1, 0, 0, 0, [])),
  (33, (30, 3, 10, 3, 0, [92])),
  (36, (0, 1, 1, 0, 0, [])),
  (37, (34, 1, 0, 0, 0, [])),
  (38, (1, 1, 0, 0, 0, [])),
  (39, (10, 1, 0, 0, 0, [])),
  (40, (30, 3, 10, 3, 0, [92])),
  (43, (4, 1, 0, 0, 1, [])),
  (44, (7, 1, 0, 0, 0, [])),
  (45, (31, 3, 10, 3, 0, [92])),
  (48, (1, 1, 0, 0, 0, [])),
  (49, (30, 3, 10, 3, 0, [92])),
  (52, (4, 1, 0, 0, 1, [])),
  (53, (7, 1, 1, 0, 0, [])),
  (54, (43, 1, 0, 0, 0, []))]
def sm_m68 : av_Mt := (⟨"StructureMapModel", "map", "(I)I"⟩, prog_12_method_9_code, 2, some (.int), sm_find sm_c68)
/-- Ref_division -/
def sm_c69 : List (Nat × av_I) := [
  (0, (1, 1, 0, 0, 0, [])),
  (1, (4, 1, 0, 0, 0, [])),
  (2, (31, 3, 10, 0, 0, [81])),
  (5, (1, 1, 0, 0, 0, [])),
  (6, (0, 1, 1, 0, 0, [])),
  (7, (40, 3, 70, 2, 0, [1, 10, 103])),
  (10, (15, 3, 0, 26, 0, [])),
  (13, (0, 1, 2, 0, 0, [])),
  (14, (4, 1, 0, 0, (-1), [])),
  (15, (16, 3, 0, 28, 0, [])),
  (18, (1, 1, 0, 0, 0, [])),
  (19, (0, 1, 2, 0, 0, [])),
  (20, (40, 3, 71, 2, 0, [1, 10, 106])),
  (23, (15, 3, 1, 28, 0, [])),
  (26, (4, 1, 0, 0, (-1), [])),
  (27, (43, 1, 0, 0, 0, [])),
  (28, (0, 1, 3, 0, 0, [])),
  (29, (4, 1, 0, 0, 0, [])),
  (30, (4, 3, 2, 0, 999, [])),
  (33, (40, 3, 65, 3, 0, [0, 0, 88])),
  (36, (15, 3, 0, 51, 0, [])),
  (39, (0, 2, 4, 0, 0, [])),
  (41, (4, 1, 0, 0, 0, [])),
  (42, (4, 3, 2, 0, 9999, [])),
  (45, (40, 3, 65, 3, 0, [0, 0, 88])),
  (48, (15, 3, 1, 54, 0, [])),
  (51, (4, 2, 1, 0, (-2), [])),
  (53, (43, 1, 0, 0, 0, [])),
  (54, (0, 1, 2, 0, 0, [])),
  (55, (15, 3, 2, 80, 0, [])),
  (58, (1, 1, 0, 0, 0, [])),
  (59, (30, 3, 10, 6, 0, [16])),
  (62, (0, 1, 2, 0, 0, [])),
  (63, (33, 1, 0, 0, 0, [])),
  (64, (0, 1, 1, 0, 0, [])),
  (65, (16, 3, 1, 77, 0, [])),
  (68, (1, 1, 0, 0, 0, [])),
  (69, (30, 3, 10, 10, 0, [28])),
  (72, (0, 1, 2, 0, 0, [])),
  (73, (33, 1, 0, 0, 0, [])),
  (74, (15, 3, 2, 80, 0, [])),
  (77, (4, 2, 1, 0, (-3), [])),
  (79, (43, 1, 0, 0, 0, [])),
  (80, (1, 1, 0, 0, 0, [])),
  (81, (30, 3, 10, 5, 0, [95])),
  (84, (4, 2, 1, 0, 120, [])),
  (86, (16, 3, 1, 92, 0, [])),
  (89, (4, 2, 1, 0, (-4), [])),
  (91, (43, 1, 0, 0, 0, [])),
  (92, (1, 1, 0, 0, 0, [])),
  (93, (30, 3, 10, 6, 0, [16])),
  (96, (1, 1, 0, 0, 0, [])),
  (97, (30, 3, 10, 5, 0, [95])),
  (100, (0, 1, 1, 0, 0, [])),
  (101, (34, 1, 0, 0, 0, [])),
  (102, (1, 1, 0, 0, 0, [])),
  (103, (30, 3, 10, 7, 0, [19])),
  (106, (1, 1, 0, 0, 0, [])),
  (107, (30, 3, 10, 5, 0, [95])),
  (110, (0, 1, 2, 0, 0, [])),
  (111, (34, 1, 0, 0, 0, [])),
  (112, (1, 1, 0, 0, 0, [])),
  (113, (30, 3, 10, 8, 0, [22])),
  (116, (1, 1, 0, 0, 0, [])),
  (117, (30, 3, 10, 5, 0, [95])),
  (120, (0, 1, 3, 0, 0, [])),
  (121, (34, 1, 0, 0, 0, [])),
  (122, (1, 1, 0, 0, 0, [])),
  (123, (30, 3, 10, 9, 0, [25])),
  (126, (1, 1, 0, 0, 0, [])),
  (127, (30, 3, 10, 5, 0, [95])),
  (130, (0, 2, 4, 0, 0, [])),
  (132, (34, 1, 0, 0, 0, [])),
  (133, (1, 1, 0, 0, 0, [])),
  (134, (30, 3, 10, 10, 0, [28])),
  (137, (1, 1, 0, 0, 0, [])),
  (138, (30, 3, 10, 5, 0, [95])),
  (141, (4, 1, 0, 0, (-1), [])),
  (142, (34, 1, 0, 0, 0, [])),
  (143, (1, 1, 0, 0, 0, [])),
  (144, (10, 1, 0, 0, 0, [])),
  (145, (30, 3, 10, 5, 0, [95])),
  (148, (4, 1, 0, 0, 1, [])),
  (149, (7, 1, 0, 0, 0, [])),
  (150, (31, 3, 10, 5, 0, [95])),
  (153, (1, 1, 0, 0, 0, [])),
  (154, (30, 3, 10, 5, 0, [95])),
  (157, (4, 1, 0, 0, 1, [])),
  (158, (7, 1, 1, 0, 0, [])),
  (159, (43, 1, 0, 0, 0, []))]
def sm_m69 : av_Mt := (⟨"StructureMapModel", "division", "(IIII)I"⟩, prog_12_method_10_code, 5, some (.int), sm_find sm_c69)
/-- Ref_isMap -/
def sm_c70 : List (Nat × av_I) := [
  (0, (0, 1, 1, 0, 0, [])),
  (1, (4, 1, 0, 0, 0, [])),
  (2, (1, 1, 0, 0, 0, [])),
  (3, (30, 3, 10, 3, 0, [92])),
  (6, (4, 1, 0, 0, 1, [])),
  (7, (7, 1, 1, 0, 0, [])),
  (8, (40, 3, 65, 3, 0, [0, 0, 88])),
  (11, (43, 1, 0, 0, 0, []))]
def sm_m70 : av_Mt := (⟨"StructureMapModel", "isMap", "(I)Z"⟩, prog_12_method_5_code, 2, some (.boolean), sm_find sm_c70)
/-- Ref_isDivision -/
def sm_c71 : List (Nat × av_I) := [
  (0, (0, 1, 1, 0, 0, [])),
  (1, (4, 1, 0, 0, 0, [])),
  (2, (1, 1, 0, 0, 0, [])),
  (3, (30, 3, 10, 5, 0, [95])),
  (6, (4, 1, 0, 0, 1, [])),
  (7, (7, 1, 1, 0, 0, [])),
  (8, (40, 3, 65, 3, 0, [0, 0, 88])),
  (11, (43, 1, 0, 0, 0, []))]
def sm_m71 : av_Mt := (⟨"StructureMapModel", "isDivision", "(I)Z"⟩, prog_12_method_6_code, 2, some (.boolean), sm_find sm_c71)
/-- Ref_link -/
def sm_c72 : List (Nat × av_I) := [
  (0, (1, 1, 0, 0, 0, [])),
  (1, (4, 1, 0, 0, 0, [])),
  (2, (31, 3, 10, 0, 0, [81])),
  (5, (1, 1, 0, 0, 0, [])),
  (6, (0, 1, 1, 0, 0, [])),
  (7, (40, 3, 71, 2, 0, [1, 10, 106])),
  (10, (15, 3, 0, 21, 0, [])),
  (13, (1, 1, 0, 0, 0, [])),
  (14, (0, 1, 2, 0, 0, [])),
  (15, (40, 3, 67, 2, 0, [1, 10, 99])),
  (18, (15, 3, 1, 23, 0, [])),
  (21, (4, 1, 0, 0, (-1), [])),
  (22, (43, 1, 0, 0, 0, [])),
  (23, (0, 1, 3, 0, 0, [])),
  (24, (4, 1, 0, 0, 0, [])),
  (25, (4, 2, 3, 98, 100000, [])),
  (27, (40, 3, 65, 3, 0, [0, 0, 88])),
  (30, (15, 3, 0, 46, 0, [])),
  (33, (0, 2, 4, 0, 0, [])),
  (35, (0, 1, 3, 0, 0, [])),
  (36, (4, 1, 0, 0, 1, [])),
  (37, (7, 1, 0, 0, 0, [])),
  (38, (4, 2, 3, 98, 100000, [])),
  (40, (40, 3, 65, 3, 0, [0, 0, 88])),
  (43, (15, 3, 1, 49, 0, [])),
  (46, (4, 2, 1, 0, (-2), [])),
  (48, (43, 1, 0, 0, 0, [])),
  (49, (1, 1, 0, 0, 0, [])),
  (50, (30, 3, 10, 10, 0, [28])),
  (53, (0, 1, 1, 0, 0, [])),
  (54, (33, 1, 0, 0, 0, [])),
  (55, (15, 3, 2, 61, 0, [])),
  (58, (4, 2, 1, 0, (-3), [])),
  (60, (43, 1, 0, 0, 0, [])),
  (61, (1, 1, 0, 0, 0, [])),
  (62, (30, 3, 10, 11, 0, [31])),
  (65, (0, 1, 1, 0, 0, [])),
  (66, (33, 1, 0, 0, 0, [])),
  (67, (4, 1, 0, 0, 5, [])),
  (68, (16, 3, 1, 74, 0, [])),
  (71, (4, 2, 1, 0, (-4), [])),
  (73, (43, 1, 0, 0, 0, [])),
  (74, (4, 1, 0, 0, 5, [])),
  (75, (0, 1, 1, 0, 0, [])),
  (76, (7, 1, 2, 0, 0, [])),
  (77, (1, 1, 0, 0, 0, [])),
  (78, (30, 3, 10, 11, 0, [31])),
  (81, (0, 1, 1, 0, 0, [])),
  (82, (33, 1, 0, 0, 0, [])),
  (83, (7, 1, 0, 0, 0, [])),
  (84, (2, 2, 5, 0, 0, [])),
  (86, (1, 1, 0, 0, 0, [])),
  (87, (30, 3, 10, 12, 0, [34])),
  (90, (0, 2, 5, 0, 0, [])),
  (92, (0, 1, 2, 0, 0, [])),
  (93, (34, 1, 0, 0, 0, [])),
  (94, (1, 1, 0, 0, 0, [])),
  (95, (30, 3, 10, 13, 0, [37])),
  (98, (0, 2, 5, 0, 0, [])),
  (100, (0, 1, 3, 0, 0, [])),
  (101, (34, 1, 0, 0, 0, [])),
  (102, (1, 1, 0, 0, 0, [])),
  (103, (30, 3, 10, 14, 0, [40])),
  (106, (0, 2, 5, 0, 0, [])),
  (108, (0, 2, 4, 0, 0, [])),
  (110, (34, 1, 0, 0, 0, [])),
  (111, (1, 1, 0, 0, 0, [])),
  (112, (30, 3, 10, 11, 0, [31])),
  (115, (0, 1, 1, 0, 0, [])),
  (116, (13, 1, 0, 0, 0, [])),
  (117, (33, 1, 0, 0, 0, [])),
  (118, (4, 1, 0, 0, 1, [])),
  (119, (7, 1, 0, 0, 0, [])),
  (120, (34, 1, 0, 0, 0, [])),
  (121, (1, 1, 0, 0, 0, [])),
  (122, (30, 3, 10, 11, 0, [31])),
  (125, (0, 1, 1, 0, 0, [])),
  (126, (33, 1, 0, 0, 0, [])),
  (127, (43, 1, 0, 0, 0, []))]
def sm_m72 : av_Mt := (⟨"StructureMapModel", "link", "(IIII)I"⟩, prog_12_method_11_code, 6, some (.int), sm_find sm_c72)
/-- Ref_repeat -/
def sm_c73 : List (Nat × av_I) := [
  (0, (1, 1, 0, 0, 0, [])),
  (1, (4, 1, 0, 0, 0, [])),
  (2, (31, 3, 10, 0, 0, [81])),
  (5, (1, 1, 0, 0, 0, [])),
  (6, (0, 1, 1, 0, 0, [])),
  (7, (40, 3, 71, 2, 0, [1, 10, 106])),
  (10, (15, 3, 0, 21, 0, [])),
  (13, (1, 1, 0, 0, 0, [])),
  (14, (0, 1, 2, 0, 0, [])),
  (15, (40, 3, 71, 2, 0, [1, 10, 106])),
  (18, (15, 3, 1, 23, 0, [])),
  (21, (4, 1, 0, 0, (-1), [])),
  (22, (43, 1, 0, 0, 0, [])),
  (23, (1, 1, 0, 0, 0, [])),
  (24, (30, 3, 10, 11, 0, [31])),
  (27, (0, 1, 1, 0, 0, [])),
  (28, (33, 1, 0, 0, 0, [])),
  (29, (15, 3, 1, 68, 0, [])),
  (32, (1, 1, 0, 0, 0, [])),
  (33, (0, 1, 1, 0, 0, [])),
  (34, (40, 3, 74, 2, 0, [1, 10, 113])),
  (37, (15, 3, 1, 68, 0, [])),
  (40, (1, 1, 0, 0, 0, [])),
  (41, (30, 3, 10, 10, 0, [28])),
  (44, (0, 1, 1, 0, 0, [])),
  (45, (33, 1, 0, 0, 0, [])),
  (46, (15, 3, 3, 68, 0, [])),
  (49, (1, 1, 0, 0, 0, [])),
  (50, (30, 3, 10, 6, 0, [16])),
  (53, (0, 1, 1, 0, 0, [])),
  (54, (33, 1, 0, 0, 0, [])),
  (55, (1, 1, 0, 0, 0, [])),
  (56, (30, 3, 10, 6, 0, [16])),
  (59, (0, 1, 2, 0, 0, [])),
  (60, (33, 1, 0, 0, 0, [])),
  (61, (16, 3, 1, 68, 0, [])),
  (64, (4, 1, 0, 0, 1, [])),
  (65, (20, 3, 0, 69, 0, [])),
  (68, (4, 1, 0, 0, 0, [])),
  (69, (2, 1, 3, 0, 0, [])),
  (70, (0, 1, 3, 0, 0, [])),
  (71, (15, 3, 0, 83, 0, [])),
  (74, (1, 1, 0, 0, 0, [])),
  (75, (0, 1, 1, 0, 0, [])),
  (76, (0, 1, 2, 0, 0, [])),
  (77, (40, 3, 75, 3, 0, [1, 10, 117])),
  (80, (15, 3, 0, 86, 0, [])),
  (83, (4, 2, 1, 0, (-3), [])),
  (85, (43, 1, 0, 0, 0, [])),
  (86, (1, 1, 0, 0, 0, [])),
  (87, (30, 3, 10, 10, 0, [28])),
  (90, (0, 1, 1, 0, 0, [])),
  (91, (0, 1, 2, 0, 0, [])),
  (92, (34, 1, 0, 0, 0, [])),
  (93, (4, 1, 0, 0, 1, [])),
  (94, (43, 1, 0, 0, 0, []))]
def sm_m73 : av_Mt := (⟨"StructureMapModel", "repeat", "(II)I"⟩, prog_12_method_16_code, 4, some (.int), sm_find sm_c73)
/-- Ref_children -/
def sm_c74 : List (Nat × av_I) := [
  (0, (4, 1, 0, 0, 0, [])),
  (1, (2, 1, 2, 0, 0, [])),
  (2, (4, 1, 0, 0, 0, [])),
  (3, (2, 1, 3, 0, 0, [])),
  (4, (0, 1, 3, 0, 0, [])),
  (5, (1, 1, 0, 0, 0, [])),
  (6, (30, 3, 10, 5, 0, [95])),
  (9, (16, 3, 3, 36, 0, [])),
  (12, (0, 1, 2, 0, 0, [])),
  (13, (1, 1, 0, 0, 0, [])),
  (14, (30, 3, 10, 7, 0, [19])),
  (17, (0, 1, 3, 0, 0, [])),
  (18, (33, 1, 0, 0, 0, [])),
  (19, (0, 1, 1, 0, 0, [])),
  (20, (16, 3, 1, 27, 0, [])),
  (23, (4, 1, 0, 0, 1, [])),
  (24, (20, 3, 0, 28, 0, [])),
  (27, (4, 1, 0, 0, 0, [])),
  (28, (7, 1, 0, 0, 0, [])),
  (29, (2, 1, 2, 0, 0, [])),
  (30, (6, 3, 3, 0, 1, [])),
  (33, (20, 3, 0, 4, 0, [])),
  (36, (0, 1, 2, 0, 0, [])),
  (37, (43, 1, 0, 0, 0, []))]
def sm_m74 : av_Mt := (⟨"StructureMapModel", "children", "(I)I"⟩, prog_12_method_13_code, 4, some (.int), sm_find sm_c74)
/-- Ref_comesBack -/
def sm_c75 : List (Nat × av_I) := [
  (0, (1, 1, 0, 0, 0, [])),
  (1, (0, 1, 2, 0, 0, [])),
  (2, (40, 3, 76, 2, 0, [1, 10, 109])),
  (5, (4, 1, 0, 0, 0, [])),
  (6, (2, 1, 3, 0, 0, [])),
  (7, (0, 1, 1, 0, 0, [])),
  (8, (2, 2, 4, 0, 0, [])),
  (10, (0, 2, 4, 0, 0, [])),
  (12, (15, 3, 2, 47, 0, [])),
  (15, (0, 1, 3, 0, 0, [])),
  (16, (15, 3, 1, 29, 0, [])),
  (19, (1, 1, 0, 0, 0, [])),
  (20, (30, 3, 10, 18, 0, [49])),
  (23, (0, 2, 4, 0, 0, [])),
  (25, (33, 1, 2, 0, 0, [])),
  (26, (15, 3, 0, 33, 0, [])),
  (29, (4, 1, 0, 0, 1, [])),
  (30, (20, 3, 0, 34, 0, [])),
  (33, (4, 1, 0, 0, 0, [])),
  (34, (2, 1, 3, 0, 0, [])),
  (35, (1, 1, 0, 0, 0, [])),
  (36, (30, 3, 10, 7, 0, [19])),
  (39, (0, 2, 4, 0, 0, [])),
  (41, (33, 1, 0, 0, 0, [])),
  (42, (2, 2, 4, 0, 0, [])),
  (44, (20, 3, 0, 10, 0, [])),
  (47, (0, 1, 3, 0, 0, [])),
  (48, (43, 1, 0, 0, 0, []))]
def sm_m75 : av_Mt := (⟨"StructureMapModel", "comesBack", "(II)Z"⟩, prog_12_method_15_code, 5, some (.boolean), sm_find sm_c75)
/-- Ref_reach -/
def sm_c76 : List (Nat × av_I) := [
  (0, (4, 1, 0, 0, 0, [])),
  (1, (2, 1, 2, 0, 0, [])),
  (2, (0, 1, 2, 0, 0, [])),
  (3, (1, 1, 0, 0, 0, [])),
  (4, (30, 3, 10, 5, 0, [95])),
  (7, (16, 3, 3, 32, 0, [])),
  (10, (1, 1, 0, 0, 0, [])),
  (11, (30, 3, 10, 18, 0, [49])),
  (14, (0, 1, 2, 0, 0, [])),
  (15, (0, 1, 2, 0, 0, [])),
  (16, (0, 1, 1, 0, 0, [])),
  (17, (16, 3, 1, 24, 0, [])),
  (20, (4, 1, 0, 0, 1, [])),
  (21, (20, 3, 0, 25, 0, [])),
  (24, (4, 1, 0, 0, 0, [])),
  (25, (34, 1, 2, 0, 0, [])),
  (26, (6, 3, 2, 0, 1, [])),
  (29, (20, 3, 0, 2, 0, [])),
  (32, (4, 1, 0, 0, 1, [])),
  (33, (2, 1, 2, 0, 0, [])),
  (34, (0, 1, 2, 0, 0, [])),
  (35, (15, 3, 0, 189, 0, [])),
  (38, (4, 1, 0, 0, 0, [])),
  (39, (2, 1, 2, 0, 0, [])),
  (40, (4, 1, 0, 0, 0, [])),
  (41, (2, 1, 3, 0, 0, [])),
  (42, (0, 1, 3, 0, 0, [])),
  (43, (1, 1, 0, 0, 0, [])),
  (44, (30, 3, 10, 5, 0, [95])),
  (47, (16, 3, 3, 186, 0, [])),
  (50, (1, 1, 0, 0, 0, [])),
  (51, (30, 3, 10, 7, 0, [19])),
  (54, (0, 1, 3, 0, 0, [])),
  (55, (33, 1, 0, 0, 0, [])),
  (56, (15, 3, 2, 77, 0, [])),
  (59, (1, 1, 0, 0, 0, [])),
  (60, (30, 3, 10, 18, 0, [49])),
  (63, (1, 1, 0, 0, 0, [])),
  (64, (30, 3, 10, 7, 0, [19])),
  (67, (0, 1, 3, 0, 0, [])),
  (68, (33, 1, 0, 0, 0, [])),
  (69, (33, 1, 2, 0, 0, [])),
  (70, (15, 3, 0, 77, 0, [])),
  (73, (4, 1, 0, 0, 1, [])),
  (74, (20, 3, 0, 78, 0, [])),
  (77, (4, 1, 0, 0, 0, [])),
  (78, (2, 2, 4, 0, 0, [])),
  (80, (4, 1, 0, 0, 0, [])),
  (81, (2, 2, 5, 0, 0, [])),
  (83, (0, 2, 5, 0, 0, [])),
  (85, (1, 1, 0, 0, 0, [])),
  (86, (30, 3, 10, 5, 0, [95])),
  (89, (16, 3, 3, 131, 0, [])),
  (92, (0, 2, 4, 0, 0, [])),
  (94, (15, 3, 1, 131, 0, [])),
  (97, (1, 1, 0, 0, 0, [])),
  (98, (30, 3, 10, 18, 0, [49])),
  (101, (0, 2, 5, 0, 0, [])),
  (103, (33, 1, 2, 0, 0, [])),
  (104, (15, 3, 0, 122, 0, [])),
  (107, (1, 1, 0, 0, 0, [])),
  (108, (30, 3, 10, 10, 0, [28])),
  (111, (0, 2, 5, 0, 0, [])),
  (113, (33, 1, 0, 0, 0, [])),
  (114, (0, 1, 3, 0, 0, [])),
  (115, (16, 3, 1, 122, 0, [])),
  (118, (4, 1, 0, 0, 1, [])),
  (119, (20, 3, 0, 123, 0, [])),
  (122, (4, 1, 0, 0, 0, [])),
  (123, (2, 2, 4, 0, 0, [])),
  (125, (6, 3, 5, 0, 1, [])),
  (128, (20, 3, 0, 83, 0, [])),
  (131, (0, 1, 2, 0, 0, [])),
  (132, (15, 3, 1, 149, 0, [])),
  (135, (0, 2, 4, 0, 0, [])),
  (137, (15, 3, 0, 153, 0, [])),
  (140, (1, 1, 0, 0, 0, [])),
  (141, (30, 3, 10, 18, 0, [49])),
  (144, (0, 1, 3, 0, 0, [])),
  (145, (33, 1, 2, 0, 0, [])),
  (146, (15, 3, 1, 153, 0, [])),
  (149, (4, 1, 0, 0, 1, [])),
  (150, (20, 3, 0, 154, 0, [])),
  (153, (4, 1, 0, 0, 0, [])),
  (154, (2, 1, 2, 0, 0, [])),
  (155, (1, 1, 0, 0, 0, [])),
  (156, (30, 3, 10, 18, 0, [49])),
  (159, (0, 1, 3, 0, 0, [])),
  (160, (1, 1, 0, 0, 0, [])),
  (161, (30, 3, 10, 18, 0, [49])),
  (164, (0, 1, 3, 0, 0, [])),
  (165, (33, 1, 2, 0, 0, [])),
  (166, (15, 3, 1, 174, 0, [])),
  (169, (0, 2, 4, 0, 0, [])),
  (171, (15, 3, 0, 178, 0, [])),
  (174, (4, 1, 0, 0, 1, [])),
  (175, (20, 3, 0, 179, 0, [])),
  (178, (4, 1, 0, 0, 0, [])),
  (179, (34, 1, 2, 0, 0, [])),
  (180, (6, 3, 3, 0, 1, [])),
  (183, (20, 3, 0, 42, 0, [])),
  (186, (20, 3, 0, 34, 0, [])),
  (189, (42, 1, 0, 0, 0, []))]
def sm_m76 : av_Mt := (⟨"StructureMapModel", "reach", "(I)V"⟩, prog_12_method_14_code, 6, none, sm_find sm_c76)
/-- Ref_move -/
def sm_c77 : List (Nat × av_I) := [
  (0, (1, 1, 0, 0, 0, [])),
  (1, (4, 1, 0, 0, 0, [])),
  (2, (31, 3, 10, 0, 0, [81])),
  (5, (1, 1, 0, 0, 0, [])),
  (6, (0, 1, 1, 0, 0, [])),
  (7, (40, 3, 71, 2, 0, [1, 10, 106])),
  (10, (15, 3, 0, 26, 0, [])),
  (13, (0, 1, 2, 0, 0, [])),
  (14, (4, 1, 0, 0, (-1), [])),
  (15, (16, 3, 0, 28, 0, [])),
  (18, (1, 1, 0, 0, 0, [])),
  (19, (0, 1, 2, 0, 0, [])),
  (20, (40, 3, 71, 2, 0, [1, 10, 106])),
  (23, (15, 3, 1, 28, 0, [])),
  (26, (4, 1, 0, 0, (-1), [])),
  (27, (43, 1, 0, 0, 0, [])),
  (28, (0, 1, 2, 0, 0, [])),
  (29, (15, 3, 2, 68, 0, [])),
  (32, (1, 1, 0, 0, 0, [])),
  (33, (30, 3, 10, 6, 0, [16])),
  (36, (0, 1, 2, 0, 0, [])),
  (37, (33, 1, 0, 0, 0, [])),
  (38, (1, 1, 0, 0, 0, [])),
  (39, (30, 3, 10, 6, 0, [16])),
  (42, (0, 1, 1, 0, 0, [])),
  (43, (33, 1, 0, 0, 0, [])),
  (44, (16, 3, 1, 65, 0, [])),
  (47, (1, 1, 0, 0, 0, [])),
  (48, (30, 3, 10, 10, 0, [28])),
  (51, (0, 1, 2, 0, 0, [])),
  (52, (33, 1, 0, 0, 0, [])),
  (53, (15, 3, 3, 65, 0, [])),
  (56, (1, 1, 0, 0, 0, [])),
  (57, (0, 1, 2, 0, 0, [])),
  (58, (0, 1, 1, 0, 0, [])),
  (59, (40, 3, 78, 3, 0, [1, 10, 121])),
  (62, (15, 3, 0, 68, 0, [])),
  (65, (4, 2, 1, 0, (-3), [])),
  (67, (43, 1, 0, 0, 0, [])),
  (68, (1, 1, 0, 0, 0, [])),
  (69, (30, 3, 10, 7, 0, [19])),
  (72, (0, 1, 1, 0, 0, [])),
  (73, (33, 1, 0, 0, 0, [])),
  (74, (2, 1, 3, 0, 0, [])),
  (75, (1, 1, 0, 0, 0, [])),
  (76, (30, 3, 10, 7, 0, [19])),
  (79, (0, 1, 1, 0, 0, [])),
  (80, (0, 1, 2, 0, 0, [])),
  (81, (34, 1, 0, 0, 0, [])),
  (82, (4, 1, 0, 0, 0, [])),
  (83, (2, 2, 4, 0, 0, [])),
  (85, (4, 1, 0, 0, 0, [])),
  (86, (2, 2, 5, 0, 0, [])),
  (88, (0, 2, 5, 0, 0, [])),
  (90, (1, 1, 0, 0, 0, [])),
  (91, (30, 3, 10, 5, 0, [95])),
  (94, (16, 3, 3, 141, 0, [])),
  (97, (0, 2, 4, 0, 0, [])),
  (99, (15, 3, 1, 128, 0, [])),
  (102, (1, 1, 0, 0, 0, [])),
  (103, (30, 3, 10, 10, 0, [28])),
  (106, (0, 2, 5, 0, 0, [])),
  (108, (33, 1, 0, 0, 0, [])),
  (109, (15, 3, 2, 132, 0, [])),
  (112, (1, 1, 0, 0, 0, [])),
  (113, (0, 2, 5, 0, 0, [])),
  (115, (1, 1, 0, 0, 0, [])),
  (116, (30, 3, 10, 10, 0, [28])),
  (119, (0, 2, 5, 0, 0, [])),
  (121, (33, 1, 0, 0, 0, [])),
  (122, (40, 3, 75, 3, 0, [1, 10, 117])),
  (125, (15, 3, 0, 132, 0, [])),
  (128, (4, 1, 0, 0, 1, [])),
  (129, (20, 3, 0, 133, 0, [])),
  (132, (4, 1, 0, 0, 0, [])),
  (133, (2, 2, 4, 0, 0, [])),
  (135, (6, 3, 5, 0, 1, [])),
  (138, (20, 3, 0, 88, 0, [])),
  (141, (0, 2, 4, 0, 0, [])),
  (143, (15, 3, 0, 153, 0, [])),
  (146, (1, 1, 0, 0, 0, [])),
  (147, (30, 3, 10, 7, 0, [19])),
  (150, (0, 1, 1, 0, 0, [])),
  (151, (0, 1, 3, 0, 0, [])),
  (152, (34, 1, 0, 0, 0, [])),
  (153, (0, 2, 4, 0, 0, [])),
  (155, (15, 3, 0, 163, 0, [])),
  (158, (4, 2, 1, 0, (-3), [])),
  (160, (20, 3, 0, 164, 0, [])),
  (163, (4, 1, 0, 0, 1, [])),
  (164, (43, 1, 0, 0, 0, []))]
def sm_m77 : av_Mt := (⟨"StructureMapModel", "move", "(II)I"⟩, prog_12_method_17_code, 6, some (.int), sm_find sm_c77)
/-- Ref_isUnder -/
def sm_c78 : List (Nat × av_I) := [
  (0, (0, 1, 1, 0, 0, [])),
  (1, (2, 1, 3, 0, 0, [])),
  (2, (0, 1, 3, 0, 0, [])),
  (3, (15, 3, 2, 21, 0, [])),
  (6, (0, 1, 3, 0, 0, [])),
  (7, (0, 1, 2, 0, 0, [])),
  (8, (16, 3, 0, 21, 0, [])),
  (11, (1, 1, 0, 0, 0, [])),
  (12, (30, 3, 10, 7, 0, [19])),
  (15, (0, 1, 3, 0, 0, [])),
  (16, (33, 1, 0, 0, 0, [])),
  (17, (2, 1, 3, 0, 0, [])),
  (18, (20, 3, 0, 2, 0, [])),
  (21, (0, 1, 3, 0, 0, [])),
  (22, (0, 1, 2, 0, 0, [])),
  (23, (16, 3, 1, 30, 0, [])),
  (26, (4, 1, 0, 0, 1, [])),
  (27, (20, 3, 0, 31, 0, [])),
  (30, (4, 1, 0, 0, 0, [])),
  (31, (43, 1, 0, 0, 0, []))]
def sm_m78 : av_Mt := (⟨"StructureMapModel", "isUnder", "(II)Z"⟩, prog_12_method_12_code, 4, some (.boolean), sm_find sm_c78)
/-- Ref_order -/
def sm_c79 : List (Nat × av_I) := [
  (0, (1, 1, 0, 0, 0, [])),
  (1, (4, 1, 0, 0, 0, [])),
  (2, (31, 3, 10, 0, 0, [81])),
  (5, (1, 1, 0, 0, 0, [])),
  (6, (0, 1, 1, 0, 0, [])),
  (7, (40, 3, 70, 2, 0, [1, 10, 103])),
  (10, (15, 3, 1, 15, 0, [])),
  (13, (4, 1, 0, 0, (-1), [])),
  (14, (43, 1, 0, 0, 0, [])),
  (15, (1, 1, 0, 0, 0, [])),
  (16, (0, 1, 1, 0, 0, [])),
  (17, (40, 3, 80, 2, 0, [1, 10, 137])),
  (20, (0, 1, 2, 0, 0, [])),
  (21, (4, 1, 0, 0, 0, [])),
  (22, (1, 1, 0, 0, 0, [])),
  (23, (30, 3, 10, 19, 0, [127])),
  (26, (4, 1, 0, 0, 1, [])),
  (27, (7, 1, 1, 0, 0, [])),
  (28, (40, 3, 65, 3, 0, [0, 0, 88])),
  (31, (15, 3, 0, 43, 0, [])),
  (34, (1, 1, 0, 0, 0, [])),
  (35, (30, 3, 10, 20, 0, [53])),
  (38, (0, 1, 2, 0, 0, [])),
  (39, (33, 1, 0, 0, 0, [])),
  (40, (20, 3, 0, 44, 0, [])),
  (43, (4, 1, 0, 0, (-1), [])),
  (44, (43, 1, 0, 0, 0, []))]
def sm_m79 : av_Mt := (⟨"StructureMapModel", "order", "(II)I"⟩, prog_12_method_21_code, 3, some (.int), sm_find sm_c79)
/-- Ref_go -/
def sm_c80 : List (Nat × av_I) := [
  (0, (1, 1, 0, 0, 0, [])),
  (1, (4, 1, 0, 0, 0, [])),
  (2, (31, 3, 10, 19, 0, [127])),
  (5, (1, 1, 0, 0, 0, [])),
  (6, (4, 1, 0, 0, 0, [])),
  (7, (31, 3, 10, 17, 0, [124])),
  (10, (1, 1, 0, 0, 0, [])),
  (11, (4, 1, 0, 0, (-1), [])),
  (12, (0, 1, 1, 0, 0, [])),
  (13, (7, 1, 1, 0, 0, [])),
  (14, (4, 1, 0, 0, (-1), [])),
  (15, (40, 3, 81, 3, 0, [1, 10, 130])),
  (18, (1, 1, 0, 0, 0, [])),
  (19, (30, 3, 10, 17, 0, [124])),
  (22, (15, 3, 5, 88, 0, [])),
  (25, (1, 1, 0, 0, 0, [])),
  (26, (10, 1, 0, 0, 0, [])),
  (27, (30, 3, 10, 17, 0, [124])),
  (30, (4, 1, 0, 0, 1, [])),
  (31, (7, 1, 1, 0, 0, [])),
  (32, (31, 3, 10, 17, 0, [124])),
  (35, (1, 1, 0, 0, 0, [])),
  (36, (30, 3, 10, 15, 0, [43])),
  (39, (1, 1, 0, 0, 0, [])),
  (40, (30, 3, 10, 17, 0, [124])),
  (43, (33, 1, 0, 0, 0, [])),
  (44, (2, 1, 2, 0, 0, [])),
  (45, (1, 1, 0, 0, 0, [])),
  (46, (30, 3, 10, 20, 0, [53])),
  (49, (1, 1, 0, 0, 0, [])),
  (50, (30, 3, 10, 19, 0, [127])),
  (53, (0, 1, 2, 0, 0, [])),
  (54, (34, 1, 0, 0, 0, [])),
  (55, (1, 1, 0, 0, 0, [])),
  (56, (30, 3, 10, 21, 0, [56])),
  (59, (1, 1, 0, 0, 0, [])),
  (60, (30, 3, 10, 19, 0, [127])),
  (63, (1, 1, 0, 0, 0, [])),
  (64, (0, 1, 2, 0, 0, [])),
  (65, (40, 3, 82, 2, 0, [1, 10, 134])),
  (68, (34, 1, 0, 0, 0, [])),
  (69, (1, 1, 0, 0, 0, [])),
  (70, (10, 1, 0, 0, 0, [])),
  (71, (30, 3, 10, 19, 0, [127])),
  (74, (4, 1, 0, 0, 1, [])),
  (75, (7, 1, 0, 0, 0, [])),
  (76, (31, 3, 10, 19, 0, [127])),
  (79, (1, 1, 0, 0, 0, [])),
  (80, (0, 1, 2, 0, 0, [])),
  (81, (4, 1, 0, 0, (-1), [])),
  (82, (40, 3, 81, 3, 0, [1, 10, 130])),
  (85, (20, 3, 0, 18, 0, [])),
  (88, (42, 1, 0, 0, 0, []))]
def sm_m80 : av_Mt := (⟨"StructureMapModel", "go", "(I)V"⟩, prog_12_method_20_code, 3, none, sm_find sm_c80)
/-- Ref_lay -/
def sm_c81 : List (Nat × av_I) := [
  (0, (1, 1, 0, 0, 0, [])),
  (1, (30, 3, 10, 17, 0, [124])),
  (4, (2, 1, 3, 0, 0, [])),
  (5, (4, 1, 0, 0, 0, [])),
  (6, (2, 2, 4, 0, 0, [])),
  (8, (0, 2, 4, 0, 0, [])),
  (10, (1, 1, 0, 0, 0, [])),
  (11, (30, 3, 10, 5, 0, [95])),
  (14, (16, 3, 3, 185, 0, [])),
  (17, (0, 1, 1, 0, 0, [])),
  (18, (15, 3, 2, 40, 0, [])),
  (21, (1, 1, 0, 0, 0, [])),
  (22, (30, 3, 10, 7, 0, [19])),
  (25, (0, 2, 4, 0, 0, [])),
  (27, (33, 1, 0, 0, 0, [])),
  (28, (0, 1, 1, 0, 0, [])),
  (29, (16, 3, 1, 36, 0, [])),
  (32, (4, 1, 0, 0, 1, [])),
  (33, (20, 3, 0, 68, 0, [])),
  (36, (4, 1, 0, 0, 0, [])),
  (37, (20, 3, 0, 68, 0, [])),
  (40, (1, 1, 0, 0, 0, [])),
  (41, (30, 3, 10, 7, 0, [19])),
  (44, (0, 2, 4, 0, 0, [])),
  (46, (33, 1, 0, 0, 0, [])),
  (47, (15, 3, 3, 67, 0, [])),
  (50, (1, 1, 0, 0, 0, [])),
  (51, (30, 3, 10, 6, 0, [16])),
  (54, (0, 2, 4, 0, 0, [])),
  (56, (33, 1, 0, 0, 0, [])),
  (57, (4, 1, 0, 0, (-1), [])),
  (58, (0, 1, 1, 0, 0, [])),
  (59, (7, 1, 1, 0, 0, [])),
  (60, (16, 3, 1, 67, 0, [])),
  (63, (4, 1, 0, 0, 1, [])),
  (64, (20, 3, 0, 68, 0, [])),
  (67, (4, 1, 0, 0, 0, [])),
  (68, (2, 2, 5, 0, 0, [])),
  (70, (0, 2, 5, 0, 0, [])),
  (72, (15, 3, 1, 78, 0, [])),
  (75, (20, 3, 0, 179, 0, [])),
  (78, (1, 1, 0, 0, 0, [])),
  (79, (30, 3, 10, 17, 0, [124])),
  (82, (2, 2, 6, 0, 0, [])),
  (84, (0, 2, 6, 0, 0, [])),
  (86, (0, 1, 3, 0, 0, [])),
  (87, (16, 3, 5, 152, 0, [])),
  (90, (1, 1, 0, 0, 0, [])),
  (91, (30, 3, 10, 8, 0, [22])),
  (94, (1, 1, 0, 0, 0, [])),
  (95, (30, 3, 10, 15, 0, [43])),
  (98, (0, 2, 6, 0, 0, [])),
  (100, (4, 1, 0, 0, 1, [])),
  (101, (7, 1, 1, 0, 0, [])),
  (102, (33, 1, 0, 0, 0, [])),
  (103, (33, 1, 0, 0, 0, [])),
  (104, (1, 1, 0, 0, 0, [])),
  (105, (30, 3, 10, 8, 0, [22])),
  (108, (0, 2, 4, 0, 0, [])),
  (110, (33, 1, 0, 0, 0, [])),
  (111, (16, 3, 4, 152, 0, [])),
  (114, (1, 1, 0, 0, 0, [])),
  (115, (30, 3, 10, 15, 0, [43])),
  (118, (0, 2, 6, 0, 0, [])),
  (120, (1, 1, 0, 0, 0, [])),
  (121, (30, 3, 10, 15, 0, [43])),
  (124, (0, 2, 6, 0, 0, [])),
  (126, (4, 1, 0, 0, 1, [])),
  (127, (7, 1, 1, 0, 0, [])),
  (128, (33, 1, 0, 0, 0, [])),
  (129, (34, 1, 0, 0, 0, [])),
  (130, (1, 1, 0, 0, 0, [])),
  (131, (30, 3, 10, 16, 0, [46])),
  (134, (0, 2, 6, 0, 0, [])),
  (136, (1, 1, 0, 0, 0, [])),
  (137, (30, 3, 10, 16, 0, [46])),
  (140, (0, 2, 6, 0, 0, [])),
  (142, (4, 1, 0, 0, 1, [])),
  (143, (7, 1, 1, 0, 0, [])),
  (144, (33, 1, 0, 0, 0, [])),
  (145, (34, 1, 0, 0, 0, [])),
  (146, (6, 3, 6, 0, (-1), [])),
  (149, (20, 3, 0, 84, 0, [])),
  (152, (1, 1, 0, 0, 0, [])),
  (153, (30, 3, 10, 15, 0, [43])),
  (156, (0, 2, 6, 0, 0, [])),
  (158, (0, 2, 4, 0, 0, [])),
  (160, (34, 1, 0, 0, 0, [])),
  (161, (1, 1, 0, 0, 0, [])),
  (162, (30, 3, 10, 16, 0, [46])),
  (165, (0, 2, 6, 0, 0, [])),
  (167, (0, 1, 2, 0, 0, [])),
  (168, (34, 1, 0, 0, 0, [])),
  (169, (1, 1, 0, 0, 0, [])),
  (170, (10, 1, 0, 0, 0, [])),
  (171, (30, 3, 10, 17, 0, [124])),
  (174, (4, 1, 0, 0, 1, [])),
  (175, (7, 1, 0, 0, 0, [])),
  (176, (31, 3, 10, 17, 0, [124])),
  (179, (6, 3, 4, 0, 1, [])),
  (182, (20, 3, 0, 8, 0, [])),
  (185, (42, 1, 0, 0, 0, []))]
def sm_m81 : av_Mt := (⟨"StructureMapModel", "lay", "(II)V"⟩, prog_12_method_18_code, 7, none, sm_find sm_c81)
/-- Ref_depth -/
def sm_c82 : List (Nat × av_I) := [
  (0, (4, 1, 0, 0, 0, [])),
  (1, (2, 1, 2, 0, 0, [])),
  (2, (1, 1, 0, 0, 0, [])),
  (3, (30, 3, 10, 7, 0, [19])),
  (6, (0, 1, 1, 0, 0, [])),
  (7, (33, 1, 0, 0, 0, [])),
  (8, (2, 1, 3, 0, 0, [])),
  (9, (0, 1, 3, 0, 0, [])),
  (10, (15, 3, 2, 26, 0, [])),
  (13, (6, 3, 2, 0, 1, [])),
  (16, (1, 1, 0, 0, 0, [])),
  (17, (30, 3, 10, 7, 0, [19])),
  (20, (0, 1, 3, 0, 0, [])),
  (21, (33, 1, 0, 0, 0, [])),
  (22, (2, 1, 3, 0, 0, [])),
  (23, (20, 3, 0, 9, 0, [])),
  (26, (0, 1, 2, 0, 0, [])),
  (27, (43, 1, 0, 0, 0, []))]
def sm_m82 : av_Mt := (⟨"StructureMapModel", "depth", "(I)I"⟩, prog_12_method_19_code, 4, some (.int), sm_find sm_c82)
/-- Ref_read -/
def sm_c83 : List (Nat × av_I) := [
  (0, (1, 1, 0, 0, 0, [])),
  (1, (4, 1, 0, 0, 0, [])),
  (2, (31, 3, 10, 0, 0, [81])),
  (5, (1, 1, 0, 0, 0, [])),
  (6, (0, 1, 1, 0, 0, [])),
  (7, (40, 3, 70, 2, 0, [1, 10, 103])),
  (10, (15, 3, 1, 15, 0, [])),
  (13, (4, 1, 0, 0, (-1), [])),
  (14, (43, 1, 0, 0, 0, [])),
  (15, (1, 1, 0, 0, 0, [])),
  (16, (1, 1, 0, 0, 0, [])),
  (17, (0, 1, 1, 0, 0, [])),
  (18, (1, 1, 0, 0, 0, [])),
  (19, (30, 3, 10, 26, 0, [65])),
  (22, (40, 3, 84, 3, 0, [1, 10, 140])),
  (25, (31, 3, 10, 25, 0, [144])),
  (28, (1, 1, 0, 0, 0, [])),
  (29, (30, 3, 10, 25, 0, [144])),
  (32, (43, 1, 0, 0, 0, []))]
def sm_m83 : av_Mt := (⟨"StructureMapModel", "read", "(I)I"⟩, prog_12_method_23_code, 2, some (.int), sm_find sm_c83)
/-- Ref_goes -/
def sm_c84 : List (Nat × av_I) := [
  (0, (4, 1, 0, 0, 0, [])),
  (1, (2, 1, 3, 0, 0, [])),
  (2, (4, 1, 0, 0, 0, [])),
  (3, (2, 2, 4, 0, 0, [])),
  (5, (1, 1, 0, 0, 0, [])),
  (6, (4, 1, 0, 0, 0, [])),
  (7, (31, 3, 10, 17, 0, [124])),
  (10, (1, 1, 0, 0, 0, [])),
  (11, (4, 1, 0, 0, (-1), [])),
  (12, (0, 1, 1, 0, 0, [])),
  (13, (7, 1, 1, 0, 0, [])),
  (14, (4, 1, 0, 0, (-1), [])),
  (15, (40, 3, 81, 3, 0, [1, 10, 130])),
  (18, (1, 1, 0, 0, 0, [])),
  (19, (30, 3, 10, 17, 0, [124])),
  (22, (15, 3, 5, 243, 0, [])),
  (25, (0, 2, 4, 0, 0, [])),
  (27, (4, 3, 2, 0, 1000, [])),
  (30, (16, 3, 3, 243, 0, [])),
  (33, (1, 1, 0, 0, 0, [])),
  (34, (10, 1, 0, 0, 0, [])),
  (35, (30, 3, 10, 17, 0, [124])),
  (38, (4, 1, 0, 0, 1, [])),
  (39, (7, 1, 1, 0, 0, [])),
  (40, (31, 3, 10, 17, 0, [124])),
  (43, (6, 3, 4, 0, 1, [])),
  (46, (1, 1, 0, 0, 0, [])),
  (47, (30, 3, 10, 15, 0, [43])),
  (50, (1, 1, 0, 0, 0, [])),
  (51, (30, 3, 10, 17, 0, [124])),
  (54, (33, 1, 0, 0, 0, [])),
  (55, (2, 2, 5, 0, 0, [])),
  (57, (1, 1, 0, 0, 0, [])),
  (58, (30, 3, 10, 16, 0, [46])),
  (61, (1, 1, 0, 0, 0, [])),
  (62, (30, 3, 10, 17, 0, [124])),
  (65, (33, 1, 0, 0, 0, [])),
  (66, (15, 3, 2, 81, 0, [])),
  (69, (1, 1, 0, 0, 0, [])),
  (70, (30, 3, 10, 16, 0, [46])),
  (73, (1, 1, 0, 0, 0, [])),
  (74, (30, 3, 10, 17, 0, [124])),
  (77, (33, 1, 0, 0, 0, [])),
  (78, (20, 3, 0, 83, 0, [])),
  (81, (0, 2, 5, 0, 0, [])),
  (83, (2, 2, 6, 0, 0, [])),
  (85, (4, 1, 0, 0, 5, [])),
  (86, (0, 2, 5, 0, 0, [])),
  (88, (7, 1, 2, 0, 0, [])),
  (89, (2, 2, 7, 0, 0, [])),
  (91, (0, 2, 7, 0, 0, [])),
  (93, (4, 1, 0, 0, 5, [])),
  (94, (0, 2, 5, 0, 0, [])),
  (96, (7, 1, 2, 0, 0, [])),
  (97, (1, 1, 0, 0, 0, [])),
  (98, (30, 3, 10, 11, 0, [31])),
  (101, (0, 2, 5, 0, 0, [])),
  (103, (33, 1, 0, 0, 0, [])),
  (104, (7, 1, 0, 0, 0, [])),
  (105, (16, 3, 3, 175, 0, [])),
  (108, (1, 1, 2, 0, 0, [])),
  (109, (4, 1, 0, 0, 5, [])),
  (110, (0, 1, 3, 0, 0, [])),
  (111, (7, 1, 2, 0, 0, [])),
  (112, (0, 2, 5, 0, 0, [])),
  (114, (34, 1, 0, 0, 0, [])),
  (115, (1, 1, 2, 0, 0, [])),
  (116, (4, 1, 0, 0, 5, [])),
  (117, (0, 1, 3, 0, 0, [])),
  (118, (7, 1, 2, 0, 0, [])),
  (119, (4, 1, 0, 0, 1, [])),
  (120, (7, 1, 0, 0, 0, [])),
  (121, (1, 1, 0, 0, 0, [])),
  (122, (30, 3, 10, 12, 0, [34])),
  (125, (0, 2, 7, 0, 0, [])),
  (127, (33, 1, 0, 0, 0, [])),
  (128, (34, 1, 0, 0, 0, [])),
  (129, (1, 1, 2, 0, 0, [])),
  (130, (4, 1, 0, 0, 5, [])),
  (131, (0, 1, 3, 0, 0, [])),
  (132, (7, 1, 2, 0, 0, [])),
  (133, (4, 1, 0, 0, 2, [])),
  (134, (7, 1, 0, 0, 0, [])),
  (135, (1, 1, 0, 0, 0, [])),
  (136, (30, 3, 10, 13, 0, [37])),
  (139, (0, 2, 7, 0, 0, [])),
  (141, (33, 1, 0, 0, 0, [])),
  (142, (34, 1, 0, 0, 0, [])),
  (143, (1, 1, 2, 0, 0, [])),
  (144, (4, 1, 0, 0, 5, [])),
  (145, (0, 1, 3, 0, 0, [])),
  (146, (7, 1, 2, 0, 0, [])),
  (147, (4, 1, 0, 0, 3, [])),
  (148, (7, 1, 0, 0, 0, [])),
  (149, (1, 1, 0, 0, 0, [])),
  (150, (30, 3, 10, 14, 0, [40])),
  (153, (0, 2, 7, 0, 0, [])),
  (155, (33, 1, 0, 0, 0, [])),
  (156, (34, 1, 0, 0, 0, [])),
  (157, (1, 1, 2, 0, 0, [])),
  (158, (4, 1, 0, 0, 5, [])),
  (159, (0, 1, 3, 0, 0, [])),
  (160, (7, 1, 2, 0, 0, [])),
  (161, (4, 1, 0, 0, 4, [])),
  (162, (7, 1, 0, 0, 0, [])),
  (163, (0, 2, 6, 0, 0, [])),
  (165, (34, 1, 0, 0, 0, [])),
  (166, (6, 3, 3, 0, 1, [])),
  (169, (6, 3, 7, 0, 1, [])),
  (172, (20, 3, 0, 91, 0, [])),
  (175, (1, 1, 0, 0, 0, [])),
  (176, (30, 3, 10, 10, 0, [28])),
  (179, (0, 2, 5, 0, 0, [])),
  (181, (33, 1, 0, 0, 0, [])),
  (182, (15, 3, 2, 225, 0, [])),
  (185, (1, 1, 0, 0, 0, [])),
  (186, (30, 3, 10, 15, 0, [43])),
  (189, (1, 1, 0, 0, 0, [])),
  (190, (30, 3, 10, 17, 0, [124])),
  (193, (1, 1, 0, 0, 0, [])),
  (194, (30, 3, 10, 10, 0, [28])),
  (197, (0, 2, 5, 0, 0, [])),
  (199, (33, 1, 0, 0, 0, [])),
  (200, (34, 1, 0, 0, 0, [])),
  (201, (1, 1, 0, 0, 0, [])),
  (202, (30, 3, 10, 16, 0, [46])),
  (205, (1, 1, 0, 0, 0, [])),
  (206, (30, 3, 10, 17, 0, [124])),
  (209, (0, 2, 6, 0, 0, [])),
  (211, (34, 1, 0, 0, 0, [])),
  (212, (1, 1, 0, 0, 0, [])),
  (213, (10, 1, 0, 0, 0, [])),
  (214, (30, 3, 10, 17, 0, [124])),
  (217, (4, 1, 0, 0, 1, [])),
  (218, (7, 1, 0, 0, 0, [])),
  (219, (31, 3, 10, 17, 0, [124])),
  (222, (20, 3, 0, 240, 0, [])),
  (225, (1, 1, 0, 0, 0, [])),
  (226, (0, 2, 5, 0, 0, [])),
  (228, (1, 1, 0, 0, 0, [])),
  (229, (30, 3, 10, 16, 0, [46])),
  (232, (1, 1, 0, 0, 0, [])),
  (233, (30, 3, 10, 17, 0, [124])),
  (236, (33, 1, 0, 0, 0, [])),
  (237, (40, 3, 81, 3, 0, [1, 10, 130])),
  (240, (20, 3, 0, 18, 0, [])),
  (243, (0, 1, 3, 0, 0, [])),
  (244, (43, 1, 0, 0, 0, []))]
def sm_m84 : av_Mt := (⟨"StructureMapModel", "goes", "(I[I)I"⟩, prog_12_method_22_code, 8, some (.int), sm_find sm_c84)
/-- Ref_step -/
def sm_c85 : List (Nat × av_I) := [
  (0, (1, 1, 0, 0, 0, [])),
  (1, (4, 1, 0, 0, 0, [])),
  (2, (31, 3, 10, 0, 0, [81])),
  (5, (0, 1, 1, 0, 0, [])),
  (6, (4, 1, 0, 0, 0, [])),
  (7, (1, 1, 0, 0, 0, [])),
  (8, (30, 3, 10, 25, 0, [144])),
  (11, (4, 1, 0, 0, 1, [])),
  (12, (7, 1, 1, 0, 0, [])),
  (13, (40, 3, 65, 3, 0, [0, 0, 88])),
  (16, (15, 3, 0, 41, 0, [])),
  (19, (0, 1, 2, 0, 0, [])),
  (20, (4, 1, 0, 0, 0, [])),
  (21, (4, 1, 0, 0, 4, [])),
  (22, (40, 3, 65, 3, 0, [0, 0, 88])),
  (25, (15, 3, 0, 41, 0, [])),
  (28, (1, 1, 0, 0, 0, [])),
  (29, (30, 3, 10, 26, 0, [65])),
  (32, (4, 1, 0, 0, 5, [])),
  (33, (0, 1, 1, 0, 0, [])),
  (34, (7, 1, 2, 0, 0, [])),
  (35, (0, 1, 2, 0, 0, [])),
  (36, (7, 1, 0, 0, 0, [])),
  (37, (33, 1, 0, 0, 0, [])),
  (38, (20, 3, 0, 42, 0, [])),
  (41, (4, 1, 0, 0, (-1), [])),
  (42, (43, 1, 0, 0, 0, []))]
def sm_m85 : av_Mt := (⟨"StructureMapModel", "step", "(II)I"⟩, prog_12_method_24_code, 3, some (.int), sm_find sm_c85)
/-- Ref_check -/
def sm_c86 : List (Nat × av_I) := [
  (0, (1, 1, 0, 0, 0, [])),
  (1, (4, 1, 0, 0, 0, [])),
  (2, (31, 3, 10, 0, 0, [81])),
  (5, (1, 1, 0, 0, 0, [])),
  (6, (0, 1, 1, 0, 0, [])),
  (7, (40, 3, 70, 2, 0, [1, 10, 103])),
  (10, (15, 3, 1, 15, 0, [])),
  (13, (4, 1, 0, 0, (-1), [])),
  (14, (43, 1, 0, 0, 0, [])),
  (15, (1, 1, 0, 0, 0, [])),
  (16, (4, 1, 0, 0, 0, [])),
  (17, (31, 3, 10, 29, 0, [147])),
  (20, (4, 1, 0, 0, 0, [])),
  (21, (2, 1, 2, 0, 0, [])),
  (22, (0, 1, 2, 0, 0, [])),
  (23, (1, 1, 0, 0, 0, [])),
  (24, (30, 3, 10, 5, 0, [95])),
  (27, (16, 3, 3, 51, 0, [])),
  (30, (1, 1, 0, 0, 0, [])),
  (31, (30, 3, 10, 6, 0, [16])),
  (34, (0, 1, 2, 0, 0, [])),
  (35, (33, 1, 0, 0, 0, [])),
  (36, (0, 1, 1, 0, 0, [])),
  (37, (16, 3, 1, 45, 0, [])),
  (40, (1, 1, 0, 0, 0, [])),
  (41, (0, 1, 2, 0, 0, [])),
  (42, (40, 3, 87, 2, 0, [1, 10, 156])),
  (45, (6, 3, 2, 0, 1, [])),
  (48, (20, 3, 0, 22, 0, [])),
  (51, (1, 1, 0, 0, 0, [])),
  (52, (30, 3, 10, 4, 0, [13])),
  (55, (0, 1, 1, 0, 0, [])),
  (56, (33, 1, 0, 0, 0, [])),
  (57, (15, 3, 1, 94, 0, [])),
  (60, (1, 1, 0, 0, 0, [])),
  (61, (1, 1, 0, 0, 0, [])),
  (62, (0, 1, 1, 0, 0, [])),
  (63, (1, 1, 0, 0, 0, [])),
  (64, (30, 3, 10, 28, 0, [68])),
  (67, (40, 3, 84, 3, 0, [1, 10, 140])),
  (70, (31, 3, 10, 27, 0, [153])),
  (73, (4, 1, 0, 0, 0, [])),
  (74, (2, 1, 2, 0, 0, [])),
  (75, (0, 1, 2, 0, 0, [])),
  (76, (1, 1, 0, 0, 0, [])),
  (77, (30, 3, 10, 1, 0, [85])),
  (80, (16, 3, 3, 94, 0, [])),
  (83, (1, 1, 0, 0, 0, [])),
  (84, (0, 1, 2, 0, 0, [])),
  (85, (40, 3, 89, 2, 0, [1, 10, 159])),
  (88, (6, 3, 2, 0, 1, [])),
  (91, (20, 3, 0, 75, 0, [])),
  (94, (1, 1, 0, 0, 0, [])),
  (95, (30, 3, 10, 29, 0, [147])),
  (98, (43, 1, 0, 0, 0, []))]
def sm_m86 : av_Mt := (⟨"StructureMapModel", "check", "(I)I"⟩, prog_12_method_28_code, 3, some (.int), sm_find sm_c86)
/-- Ref_checkDivision -/
def sm_c87 : List (Nat × av_I) := [
  (0, (1, 1, 0, 0, 0, [])),
  (1, (30, 3, 10, 11, 0, [31])),
  (4, (0, 1, 1, 0, 0, [])),
  (5, (33, 1, 0, 0, 0, [])),
  (6, (15, 3, 1, 32, 0, [])),
  (9, (1, 1, 0, 0, 0, [])),
  (10, (0, 1, 1, 0, 0, [])),
  (11, (40, 3, 74, 2, 0, [1, 10, 113])),
  (14, (15, 3, 1, 32, 0, [])),
  (17, (1, 1, 0, 0, 0, [])),
  (18, (30, 3, 10, 10, 0, [28])),
  (21, (0, 1, 1, 0, 0, [])),
  (22, (33, 1, 0, 0, 0, [])),
  (23, (15, 3, 3, 32, 0, [])),
  (26, (1, 1, 0, 0, 0, [])),
  (27, (4, 1, 0, 0, 1, [])),
  (28, (0, 1, 1, 0, 0, [])),
  (29, (40, 3, 88, 3, 0, [1, 10, 150])),
  (32, (4, 1, 0, 0, 0, [])),
  (33, (2, 1, 2, 0, 0, [])),
  (34, (4, 1, 0, 0, 0, [])),
  (35, (2, 1, 3, 0, 0, [])),
  (36, (0, 1, 3, 0, 0, [])),
  (37, (0, 1, 1, 0, 0, [])),
  (38, (16, 3, 3, 102, 0, [])),
  (41, (0, 1, 2, 0, 0, [])),
  (42, (15, 3, 1, 90, 0, [])),
  (45, (1, 1, 0, 0, 0, [])),
  (46, (30, 3, 10, 6, 0, [16])),
  (49, (0, 1, 3, 0, 0, [])),
  (50, (33, 1, 0, 0, 0, [])),
  (51, (1, 1, 0, 0, 0, [])),
  (52, (30, 3, 10, 6, 0, [16])),
  (55, (0, 1, 1, 0, 0, [])),
  (56, (33, 1, 0, 0, 0, [])),
  (57, (16, 3, 1, 94, 0, [])),
  (60, (1, 1, 0, 0, 0, [])),
  (61, (30, 3, 10, 7, 0, [19])),
  (64, (0, 1, 3, 0, 0, [])),
  (65, (33, 1, 0, 0, 0, [])),
  (66, (1, 1, 0, 0, 0, [])),
  (67, (30, 3, 10, 7, 0, [19])),
  (70, (0, 1, 1, 0, 0, [])),
  (71, (33, 1, 0, 0, 0, [])),
  (72, (16, 3, 1, 94, 0, [])),
  (75, (1, 1, 0, 0, 0, [])),
  (76, (30, 3, 10, 8, 0, [22])),
  (79, (0, 1, 3, 0, 0, [])),
  (80, (33, 1, 0, 0, 0, [])),
  (81, (1, 1, 0, 0, 0, [])),
  (82, (30, 3, 10, 8, 0, [22])),
  (85, (0, 1, 1, 0, 0, [])),
  (86, (33, 1, 0, 0, 0, [])),
  (87, (16, 3, 1, 94, 0, [])),
  (90, (4, 1, 0, 0, 1, [])),
  (91, (20, 3, 0, 95, 0, [])),
  (94, (4, 1, 0, 0, 0, [])),
  (95, (2, 1, 2, 0, 0, [])),
  (96, (6, 3, 3, 0, 1, [])),
  (99, (20, 3, 0, 36, 0, [])),
  (102, (0, 1, 2, 0, 0, [])),
  (103, (15, 3, 0, 112, 0, [])),
  (106, (1, 1, 0, 0, 0, [])),
  (107, (4, 1, 0, 0, 2, [])),
  (108, (0, 1, 1, 0, 0, [])),
  (109, (40, 3, 88, 3, 0, [1, 10, 150])),
  (112, (4, 1, 0, 0, 0, [])),
  (113, (2, 1, 3, 0, 0, [])),
  (114, (4, 1, 0, 0, 5, [])),
  (115, (0, 1, 1, 0, 0, [])),
  (116, (7, 1, 2, 0, 0, [])),
  (117, (2, 2, 4, 0, 0, [])),
  (119, (0, 2, 4, 0, 0, [])),
  (121, (4, 1, 0, 0, 5, [])),
  (122, (0, 1, 1, 0, 0, [])),
  (123, (7, 1, 2, 0, 0, [])),
  (124, (1, 1, 0, 0, 0, [])),
  (125, (30, 3, 10, 11, 0, [31])),
  (128, (0, 1, 1, 0, 0, [])),
  (129, (33, 1, 0, 0, 0, [])),
  (130, (7, 1, 0, 0, 0, [])),
  (131, (16, 3, 3, 172, 0, [])),
  (134, (0, 1, 3, 0, 0, [])),
  (135, (15, 3, 1, 160, 0, [])),
  (138, (1, 1, 0, 0, 0, [])),
  (139, (30, 3, 10, 14, 0, [40])),
  (142, (0, 2, 4, 0, 0, [])),
  (144, (33, 1, 0, 0, 0, [])),
  (145, (1, 1, 0, 0, 0, [])),
  (146, (30, 3, 10, 2, 0, [7])),
  (149, (1, 1, 0, 0, 0, [])),
  (150, (30, 3, 10, 12, 0, [34])),
  (153, (0, 2, 4, 0, 0, [])),
  (155, (33, 1, 0, 0, 0, [])),
  (156, (33, 1, 0, 0, 0, [])),
  (157, (16, 3, 5, 164, 0, [])),
  (160, (4, 1, 0, 0, 1, [])),
  (161, (20, 3, 0, 165, 0, [])),
  (164, (4, 1, 0, 0, 0, [])),
  (165, (2, 1, 3, 0, 0, [])),
  (166, (6, 3, 4, 0, 1, [])),
  (169, (20, 3, 0, 119, 0, [])),
  (172, (0, 1, 3, 0, 0, [])),
  (173, (15, 3, 0, 182, 0, [])),
  (176, (1, 1, 0, 0, 0, [])),
  (177, (4, 1, 0, 0, 3, [])),
  (178, (0, 1, 1, 0, 0, [])),
  (179, (40, 3, 88, 3, 0, [1, 10, 150])),
  (182, (42, 1, 0, 0, 0, []))]
def sm_m87 : av_Mt := (⟨"StructureMapModel", "checkDivision", "(I)V"⟩, prog_12_method_26_code, 5, none, sm_find sm_c87)
/-- Ref_blame -/
def sm_c88 : List (Nat × av_I) := [
  (0, (1, 1, 0, 0, 0, [])),
  (1, (30, 3, 10, 30, 0, [71])),
  (4, (1, 1, 0, 0, 0, [])),
  (5, (30, 3, 10, 29, 0, [147])),
  (8, (0, 1, 1, 0, 0, [])),
  (9, (34, 1, 0, 0, 0, [])),
  (10, (1, 1, 0, 0, 0, [])),
  (11, (30, 3, 10, 31, 0, [74])),
  (14, (1, 1, 0, 0, 0, [])),
  (15, (30, 3, 10, 29, 0, [147])),
  (18, (0, 1, 2, 0, 0, [])),
  (19, (34, 1, 0, 0, 0, [])),
  (20, (1, 1, 0, 0, 0, [])),
  (21, (10, 1, 0, 0, 0, [])),
  (22, (30, 3, 10, 29, 0, [147])),
  (25, (4, 1, 0, 0, 1, [])),
  (26, (7, 1, 0, 0, 0, [])),
  (27, (31, 3, 10, 29, 0, [147])),
  (30, (42, 1, 0, 0, 0, []))]
def sm_m88 : av_Mt := (⟨"StructureMapModel", "blame", "(II)V"⟩, prog_12_method_25_code, 3, none, sm_find sm_c88)
/-- Ref_checkFile -/
def sm_c89 : List (Nat × av_I) := [
  (0, (4, 1, 0, 0, 0, [])),
  (1, (2, 1, 2, 0, 0, [])),
  (2, (4, 1, 0, 0, 0, [])),
  (3, (2, 1, 3, 0, 0, [])),
  (4, (4, 1, 0, 0, 0, [])),
  (5, (2, 2, 4, 0, 0, [])),
  (7, (0, 2, 4, 0, 0, [])),
  (9, (1, 1, 0, 0, 0, [])),
  (10, (30, 3, 10, 2, 0, [7])),
  (13, (0, 1, 1, 0, 0, [])),
  (14, (33, 1, 0, 0, 0, [])),
  (15, (16, 3, 3, 199, 0, [])),
  (18, (4, 1, 0, 0, 0, [])),
  (19, (2, 2, 5, 0, 0, [])),
  (21, (1, 1, 0, 0, 0, [])),
  (22, (30, 3, 10, 2, 0, [7])),
  (25, (0, 1, 1, 0, 0, [])),
  (26, (33, 1, 0, 0, 0, [])),
  (27, (2, 2, 6, 0, 0, [])),
  (29, (4, 1, 0, 0, 0, [])),
  (30, (2, 2, 7, 0, 0, [])),
  (32, (0, 2, 7, 0, 0, [])),
  (34, (1, 1, 0, 0, 0, [])),
  (35, (30, 3, 10, 27, 0, [153])),
  (38, (16, 3, 3, 161, 0, [])),
  (41, (1, 1, 0, 0, 0, [])),
  (42, (30, 3, 10, 28, 0, [68])),
  (45, (4, 1, 0, 0, 5, [])),
  (46, (0, 2, 7, 0, 0, [])),
  (48, (7, 1, 2, 0, 0, [])),
  (49, (4, 1, 0, 0, 1, [])),
  (50, (7, 1, 0, 0, 0, [])),
  (51, (33, 1, 0, 0, 0, [])),
  (52, (0, 1, 1, 0, 0, [])),
  (53, (16, 3, 0, 59, 0, [])),
  (56, (20, 3, 0, 155, 0, [])),
  (59, (1, 1, 0, 0, 0, [])),
  (60, (30, 3, 10, 28, 0, [68])),
  (63, (4, 1, 0, 0, 5, [])),
  (64, (0, 2, 7, 0, 0, [])),
  (66, (7, 1, 2, 0, 0, [])),
  (67, (4, 1, 0, 0, 2, [])),
  (68, (7, 1, 0, 0, 0, [])),
  (69, (33, 1, 0, 0, 0, [])),
  (70, (2, 2, 8, 0, 0, [])),
  (72, (1, 1, 0, 0, 0, [])),
  (73, (30, 3, 10, 28, 0, [68])),
  (76, (4, 1, 0, 0, 5, [])),
  (77, (0, 2, 7, 0, 0, [])),
  (79, (7, 1, 2, 0, 0, [])),
  (80, (4, 1, 0, 0, 3, [])),
  (81, (7, 1, 0, 0, 0, [])),
  (82, (33, 1, 0, 0, 0, [])),
  (83, (2, 2, 9, 0, 0, [])),
  (85, (0, 2, 5, 0, 0, [])),
  (87, (0, 2, 8, 0, 0, [])),
  (89, (0, 2, 4, 0, 0, [])),
  (91, (16, 3, 4, 105, 0, [])),
  (94, (0, 2, 4, 0, 0, [])),
  (96, (0, 2, 9, 0, 0, [])),
  (98, (16, 3, 3, 105, 0, [])),
  (101, (4, 1, 0, 0, 1, [])),
  (102, (20, 3, 0, 106, 0, [])),
  (105, (4, 1, 0, 0, 0, [])),
  (106, (7, 1, 0, 0, 0, [])),
  (107, (2, 2, 5, 0, 0, [])),
  (109, (0, 2, 8, 0, 0, [])),
  (111, (0, 2, 4, 0, 0, [])),
  (113, (16, 3, 5, 128, 0, [])),
  (116, (0, 2, 8, 0, 0, [])),
  (118, (0, 2, 6, 0, 0, [])),
  (120, (16, 3, 3, 128, 0, [])),
  (123, (0, 2, 8, 0, 0, [])),
  (125, (20, 3, 0, 130, 0, [])),
  (128, (0, 2, 6, 0, 0, [])),
  (130, (2, 2, 6, 0, 0, [])),
  (132, (0, 2, 9, 0, 0, [])),
  (134, (0, 2, 4, 0, 0, [])),
  (136, (16, 3, 5, 151, 0, [])),
  (139, (0, 2, 9, 0, 0, [])),
  (141, (0, 2, 6, 0, 0, [])),
  (143, (16, 3, 3, 151, 0, [])),
  (146, (0, 2, 9, 0, 0, [])),
  (148, (20, 3, 0, 153, 0, [])),
  (151, (0, 2, 6, 0, 0, [])),
  (153, (2, 2, 6, 0, 0, [])),
  (155, (6, 3, 7, 0, 1, [])),
  (158, (20, 3, 0, 32, 0, [])),
  (161, (0, 1, 2, 0, 0, [])),
  (162, (15, 3, 1, 171, 0, [])),
  (165, (0, 2, 5, 0, 0, [])),
  (167, (4, 1, 0, 0, 1, [])),
  (168, (16, 3, 5, 175, 0, [])),
  (171, (4, 1, 0, 0, 1, [])),
  (172, (20, 3, 0, 176, 0, [])),
  (175, (4, 1, 0, 0, 0, [])),
  (176, (2, 1, 2, 0, 0, [])),
  (177, (0, 1, 3, 0, 0, [])),
  (178, (15, 3, 1, 186, 0, [])),
  (181, (0, 2, 5, 0, 0, [])),
  (183, (15, 3, 1, 190, 0, [])),
  (186, (4, 1, 0, 0, 1, [])),
  (187, (20, 3, 0, 191, 0, [])),
  (190, (4, 1, 0, 0, 0, [])),
  (191, (2, 1, 3, 0, 0, [])),
  (192, (0, 2, 6, 0, 0, [])),
  (194, (2, 2, 4, 0, 0, [])),
  (196, (20, 3, 0, 7, 0, [])),
  (199, (0, 1, 2, 0, 0, [])),
  (200, (15, 3, 0, 209, 0, [])),
  (203, (1, 1, 0, 0, 0, [])),
  (204, (4, 1, 0, 0, 4, [])),
  (205, (0, 1, 1, 0, 0, [])),
  (206, (40, 3, 88, 3, 0, [1, 10, 150])),
  (209, (0, 1, 3, 0, 0, [])),
  (210, (15, 3, 0, 219, 0, [])),
  (213, (1, 1, 0, 0, 0, [])),
  (214, (4, 1, 0, 0, 5, [])),
  (215, (0, 1, 1, 0, 0, [])),
  (216, (40, 3, 88, 3, 0, [1, 10, 150])),
  (219, (42, 1, 0, 0, 0, []))]
def sm_m89 : av_Mt := (⟨"StructureMapModel", "checkFile", "(I)V"⟩, prog_12_method_27_code, 10, none, sm_find sm_c89)
/-- Ref_fault -/
def sm_c90 : List (Nat × av_I) := [
  (0, (1, 1, 0, 0, 0, [])),
  (1, (0, 1, 1, 0, 0, [])),
  (2, (4, 1, 0, 0, 0, [])),
  (3, (1, 1, 0, 0, 0, [])),
  (4, (30, 3, 10, 29, 0, [147])),
  (7, (4, 1, 0, 0, 1, [])),
  (8, (7, 1, 1, 0, 0, [])),
  (9, (40, 3, 65, 3, 0, [0, 0, 88])),
  (12, (15, 3, 0, 24, 0, [])),
  (15, (0, 1, 2, 0, 0, [])),
  (16, (4, 1, 0, 0, 0, [])),
  (17, (4, 1, 0, 0, 1, [])),
  (18, (40, 3, 65, 3, 0, [0, 0, 88])),
  (21, (15, 3, 1, 28, 0, [])),
  (24, (4, 1, 0, 0, 1, [])),
  (25, (20, 3, 0, 29, 0, [])),
  (28, (4, 1, 0, 0, 0, [])),
  (29, (31, 3, 10, 0, 0, [81])),
  (32, (1, 1, 0, 0, 0, [])),
  (33, (30, 3, 10, 0, 0, [81])),
  (36, (15, 3, 5, 41, 0, [])),
  (39, (4, 1, 0, 0, 0, [])),
  (40, (43, 1, 0, 0, 0, [])),
  (41, (0, 1, 2, 0, 0, [])),
  (42, (15, 3, 1, 54, 0, [])),
  (45, (1, 1, 0, 0, 0, [])),
  (46, (30, 3, 10, 30, 0, [71])),
  (49, (0, 1, 1, 0, 0, [])),
  (50, (33, 1, 0, 0, 0, [])),
  (51, (20, 3, 0, 60, 0, [])),
  (54, (1, 1, 0, 0, 0, [])),
  (55, (30, 3, 10, 31, 0, [74])),
  (58, (0, 1, 1, 0, 0, [])),
  (59, (33, 1, 0, 0, 0, [])),
  (60, (43, 1, 0, 0, 0, []))]
def sm_m90 : av_Mt := (⟨"StructureMapModel", "fault", "(II)I"⟩, prog_12_method_29_code, 3, some (.int), sm_find sm_c90)
/-- Ref_print -/
def sm_c91 : List (Nat × av_I) := [
  (0, (1, 1, 0, 0, 0, [])),
  (1, (4, 1, 0, 0, 0, [])),
  (2, (31, 3, 10, 0, 0, [81])),
  (5, (1, 1, 0, 0, 0, [])),
  (6, (0, 1, 1, 0, 0, [])),
  (7, (40, 3, 70, 2, 0, [1, 10, 103])),
  (10, (15, 3, 1, 15, 0, [])),
  (13, (4, 1, 0, 0, (-1), [])),
  (14, (43, 1, 0, 0, 0, [])),
  (15, (1, 1, 0, 0, 0, [])),
  (16, (0, 1, 1, 0, 0, [])),
  (17, (40, 3, 80, 2, 0, [1, 10, 137])),
  (20, (1, 1, 0, 0, 0, [])),
  (21, (4, 1, 0, 0, 0, [])),
  (22, (31, 3, 10, 32, 0, [162])),
  (25, (4, 1, 0, 0, 0, [])),
  (26, (2, 1, 2, 0, 0, [])),
  (27, (0, 1, 2, 0, 0, [])),
  (28, (1, 1, 0, 0, 0, [])),
  (29, (30, 3, 10, 19, 0, [127])),
  (32, (16, 3, 3, 151, 0, [])),
  (35, (1, 1, 0, 0, 0, [])),
  (36, (30, 3, 10, 20, 0, [53])),
  (39, (0, 1, 2, 0, 0, [])),
  (40, (33, 1, 0, 0, 0, [])),
  (41, (2, 1, 3, 0, 0, [])),
  (42, (4, 1, 0, 0, 0, [])),
  (43, (2, 2, 4, 0, 0, [])),
  (45, (0, 2, 4, 0, 0, [])),
  (47, (1, 1, 0, 0, 0, [])),
  (48, (30, 3, 10, 21, 0, [56])),
  (51, (0, 1, 2, 0, 0, [])),
  (52, (33, 1, 0, 0, 0, [])),
  (53, (16, 3, 3, 68, 0, [])),
  (56, (1, 1, 0, 0, 0, [])),
  (57, (4, 2, 1, 0, 32, [])),
  (59, (40, 3, 92, 2, 0, [1, 10, 165])),
  (62, (6, 3, 4, 0, 1, [])),
  (65, (20, 3, 0, 45, 0, [])),
  (68, (4, 3, 2, 0, 1000, [])),
  (71, (2, 2, 4, 0, 0, [])),
  (73, (0, 2, 4, 0, 0, [])),
  (75, (15, 3, 5, 124, 0, [])),
  (78, (1, 1, 0, 0, 0, [])),
  (79, (30, 3, 10, 9, 0, [25])),
  (82, (0, 1, 3, 0, 0, [])),
  (83, (33, 1, 0, 0, 0, [])),
  (84, (0, 2, 4, 0, 0, [])),
  (86, (16, 3, 3, 95, 0, [])),
  (89, (0, 2, 4, 0, 0, [])),
  (91, (4, 1, 0, 0, 1, [])),
  (92, (16, 3, 1, 114, 0, [])),
  (95, (1, 1, 0, 0, 0, [])),
  (96, (4, 2, 1, 0, 48, [])),
  (98, (1, 1, 0, 0, 0, [])),
  (99, (30, 3, 10, 9, 0, [25])),
  (102, (0, 1, 3, 0, 0, [])),
  (103, (33, 1, 0, 0, 0, [])),
  (104, (0, 2, 4, 0, 0, [])),
  (106, (7, 1, 3, 0, 0, [])),
  (107, (4, 2, 1, 0, 10, [])),
  (109, (7, 1, 4, 0, 0, [])),
  (110, (7, 1, 0, 0, 0, [])),
  (111, (40, 3, 92, 2, 0, [1, 10, 165])),
  (114, (0, 2, 4, 0, 0, [])),
  (116, (4, 2, 1, 0, 10, [])),
  (118, (7, 1, 3, 0, 0, [])),
  (119, (2, 2, 4, 0, 0, [])),
  (121, (20, 3, 0, 73, 0, [])),
  (124, (1, 1, 0, 0, 0, [])),
  (125, (30, 3, 10, 10, 0, [28])),
  (128, (0, 1, 3, 0, 0, [])),
  (129, (33, 1, 0, 0, 0, [])),
  (130, (15, 3, 2, 139, 0, [])),
  (133, (1, 1, 0, 0, 0, [])),
  (134, (4, 2, 1, 0, 61, [])),
  (136, (40, 3, 92, 2, 0, [1, 10, 165])),
  (139, (1, 1, 0, 0, 0, [])),
  (140, (4, 2, 1, 0, 10, [])),
  (142, (40, 3, 92, 2, 0, [1, 10, 165])),
  (145, (6, 3, 2, 0, 1, [])),
  (148, (20, 3, 0, 27, 0, [])),
  (151, (1, 1, 0, 0, 0, [])),
  (152, (30, 3, 10, 32, 0, [162])),
  (155, (43, 1, 0, 0, 0, []))]
def sm_m91 : av_Mt := (⟨"StructureMapModel", "print", "(I)I"⟩, prog_12_method_31_code, 5, some (.int), sm_find sm_c91)
/-- Ref_put -/
def sm_c92 : List (Nat × av_I) := [
  (0, (1, 1, 0, 0, 0, [])),
  (1, (30, 3, 10, 33, 0, [77])),
  (4, (1, 1, 0, 0, 0, [])),
  (5, (30, 3, 10, 32, 0, [162])),
  (8, (0, 1, 1, 0, 0, [])),
  (9, (22, 1, 0, 0, 0, [])),
  (10, (34, 1, 3, 0, 0, [])),
  (11, (1, 1, 0, 0, 0, [])),
  (12, (10, 1, 0, 0, 0, [])),
  (13, (30, 3, 10, 32, 0, [162])),
  (16, (4, 1, 0, 0, 1, [])),
  (17, (7, 1, 0, 0, 0, [])),
  (18, (31, 3, 10, 32, 0, [162])),
  (21, (42, 1, 0, 0, 0, []))]
def sm_m92 : av_Mt := (⟨"StructureMapModel", "put", "(I)V"⟩, prog_12_method_30_code, 2, none, sm_find sm_c92)
/-- Ref_at -/
def sm_c93 : List (Nat × av_I) := [
  (0, (1, 1, 0, 0, 0, [])),
  (1, (4, 1, 0, 0, 0, [])),
  (2, (31, 3, 10, 0, 0, [81])),
  (5, (0, 1, 1, 0, 0, [])),
  (6, (4, 1, 0, 0, 0, [])),
  (7, (1, 1, 0, 0, 0, [])),
  (8, (30, 3, 10, 32, 0, [162])),
  (11, (4, 1, 0, 0, 1, [])),
  (12, (7, 1, 1, 0, 0, [])),
  (13, (40, 3, 65, 3, 0, [0, 0, 88])),
  (16, (15, 3, 0, 28, 0, [])),
  (19, (1, 1, 0, 0, 0, [])),
  (20, (30, 3, 10, 33, 0, [77])),
  (23, (0, 1, 1, 0, 0, [])),
  (24, (33, 1, 3, 0, 0, [])),
  (25, (20, 3, 0, 29, 0, [])),
  (28, (4, 1, 0, 0, (-1), [])),
  (29, (43, 1, 0, 0, 0, []))]
def sm_m93 : av_Mt := (⟨"StructureMapModel", "at", "(I)I"⟩, prog_12_method_32_code, 2, some (.int), sm_find sm_c93)
/-- Ref_differ -/
def sm_c94 : List (Nat × av_I) := [
  (0, (1, 1, 0, 0, 0, [])),
  (1, (4, 1, 0, 0, 0, [])),
  (2, (31, 3, 10, 0, 0, [81])),
  (5, (1, 1, 0, 0, 0, [])),
  (6, (0, 1, 1, 0, 0, [])),
  (7, (40, 3, 70, 2, 0, [1, 10, 103])),
  (10, (15, 3, 0, 21, 0, [])),
  (13, (1, 1, 0, 0, 0, [])),
  (14, (0, 1, 2, 0, 0, [])),
  (15, (40, 3, 70, 2, 0, [1, 10, 103])),
  (18, (15, 3, 1, 23, 0, [])),
  (21, (4, 1, 0, 0, (-1), [])),
  (22, (43, 1, 0, 0, 0, [])),
  (23, (1, 1, 0, 0, 0, [])),
  (24, (0, 1, 1, 0, 0, [])),
  (25, (40, 3, 80, 2, 0, [1, 10, 137])),
  (28, (1, 1, 0, 0, 0, [])),
  (29, (1, 1, 0, 0, 0, [])),
  (30, (30, 3, 10, 19, 0, [127])),
  (33, (31, 3, 10, 22, 0, [168])),
  (36, (4, 1, 0, 0, 0, [])),
  (37, (2, 1, 3, 0, 0, [])),
  (38, (0, 1, 3, 0, 0, [])),
  (39, (1, 1, 0, 0, 0, [])),
  (40, (30, 3, 10, 19, 0, [127])),
  (43, (16, 3, 3, 76, 0, [])),
  (46, (1, 1, 0, 0, 0, [])),
  (47, (30, 3, 10, 23, 0, [59])),
  (50, (0, 1, 3, 0, 0, [])),
  (51, (1, 1, 0, 0, 0, [])),
  (52, (30, 3, 10, 20, 0, [53])),
  (55, (0, 1, 3, 0, 0, [])),
  (56, (33, 1, 0, 0, 0, [])),
  (57, (34, 1, 0, 0, 0, [])),
  (58, (1, 1, 0, 0, 0, [])),
  (59, (30, 3, 10, 24, 0, [62])),
  (62, (0, 1, 3, 0, 0, [])),
  (63, (1, 1, 0, 0, 0, [])),
  (64, (30, 3, 10, 21, 0, [56])),
  (67, (0, 1, 3, 0, 0, [])),
  (68, (33, 1, 0, 0, 0, [])),
  (69, (34, 1, 0, 0, 0, [])),
  (70, (6, 3, 3, 0, 1, [])),
  (73, (20, 3, 0, 38, 0, [])),
  (76, (1, 1, 0, 0, 0, [])),
  (77, (0, 1, 2, 0, 0, [])),
  (78, (40, 3, 80, 2, 0, [1, 10, 137])),
  (81, (4, 1, 0, 0, 0, [])),
  (82, (2, 1, 3, 0, 0, [])),
  (83, (4, 1, 0, 0, 0, [])),
  (84, (2, 2, 4, 0, 0, [])),
  (86, (0, 2, 4, 0, 0, [])),
  (88, (1, 1, 0, 0, 0, [])),
  (89, (30, 3, 10, 19, 0, [127])),
  (92, (16, 3, 2, 104, 0, [])),
  (95, (0, 2, 4, 0, 0, [])),
  (97, (1, 1, 0, 0, 0, [])),
  (98, (30, 3, 10, 22, 0, [168])),
  (101, (16, 3, 3, 192, 0, [])),
  (104, (0, 2, 4, 0, 0, [])),
  (106, (1, 1, 0, 0, 0, [])),
  (107, (30, 3, 10, 19, 0, [127])),
  (110, (16, 3, 3, 126, 0, [])),
  (113, (0, 2, 4, 0, 0, [])),
  (115, (1, 1, 0, 0, 0, [])),
  (116, (30, 3, 10, 22, 0, [168])),
  (119, (16, 3, 3, 126, 0, [])),
  (122, (4, 1, 0, 0, 1, [])),
  (123, (20, 3, 0, 127, 0, [])),
  (126, (4, 1, 0, 0, 0, [])),
  (127, (2, 2, 5, 0, 0, [])),
  (129, (0, 1, 3, 0, 0, [])),
  (130, (0, 2, 5, 0, 0, [])),
  (132, (15, 3, 0, 179, 0, [])),
  (135, (1, 1, 0, 0, 0, [])),
  (136, (30, 3, 10, 9, 0, [25])),
  (139, (1, 1, 0, 0, 0, [])),
  (140, (30, 3, 10, 20, 0, [53])),
  (143, (0, 2, 4, 0, 0, [])),
  (145, (33, 1, 0, 0, 0, [])),
  (146, (33, 1, 0, 0, 0, [])),
  (147, (1, 1, 0, 0, 0, [])),
  (148, (30, 3, 10, 9, 0, [25])),
  (151, (1, 1, 0, 0, 0, [])),
  (152, (30, 3, 10, 23, 0, [59])),
  (155, (0, 2, 4, 0, 0, [])),
  (157, (33, 1, 0, 0, 0, [])),
  (158, (33, 1, 0, 0, 0, [])),
  (159, (16, 3, 1, 179, 0, [])),
  (162, (1, 1, 0, 0, 0, [])),
  (163, (30, 3, 10, 21, 0, [56])),
  (166, (0, 2, 4, 0, 0, [])),
  (168, (33, 1, 0, 0, 0, [])),
  (169, (1, 1, 0, 0, 0, [])),
  (170, (30, 3, 10, 24, 0, [62])),
  (173, (0, 2, 4, 0, 0, [])),
  (175, (33, 1, 0, 0, 0, [])),
  (176, (16, 3, 0, 183, 0, [])),
  (179, (4, 1, 0, 0, 1, [])),
  (180, (20, 3, 0, 184, 0, [])),
  (183, (4, 1, 0, 0, 0, [])),
  (184, (7, 1, 0, 0, 0, [])),
  (185, (2, 1, 3, 0, 0, [])),
  (186, (6, 3, 4, 0, 1, [])),
  (189, (20, 3, 0, 86, 0, [])),
  (192, (0, 1, 3, 0, 0, [])),
  (193, (43, 1, 0, 0, 0, []))]
def sm_m94 : av_Mt := (⟨"StructureMapModel", "differ", "(II)I"⟩, prog_12_method_33_code, 6, some (.int), sm_find sm_c94)
/-- Ref_about -/
def sm_c95 : List (Nat × av_I) := [
  (0, (1, 1, 0, 0, 0, [])),
  (1, (4, 1, 0, 0, 0, [])),
  (2, (31, 3, 10, 0, 0, [81])),
  (5, (1, 1, 0, 0, 0, [])),
  (6, (0, 1, 1, 0, 0, [])),
  (7, (40, 3, 71, 2, 0, [1, 10, 106])),
  (10, (15, 3, 1, 15, 0, [])),
  (13, (4, 1, 0, 0, (-1), [])),
  (14, (43, 1, 0, 0, 0, [])),
  (15, (0, 1, 2, 0, 0, [])),
  (16, (21, 44, 0, 148, 0, [60, 67, 74, 81, 88, 95, 102])),
  (60, (1, 1, 0, 0, 0, [])),
  (61, (30, 3, 10, 6, 0, [16])),
  (64, (0, 1, 1, 0, 0, [])),
  (65, (33, 1, 0, 0, 0, [])),
  (66, (43, 1, 0, 0, 0, [])),
  (67, (1, 1, 0, 0, 0, [])),
  (68, (30, 3, 10, 7, 0, [19])),
  (71, (0, 1, 1, 0, 0, [])),
  (72, (33, 1, 0, 0, 0, [])),
  (73, (43, 1, 0, 0, 0, [])),
  (74, (1, 1, 0, 0, 0, [])),
  (75, (30, 3, 10, 8, 0, [22])),
  (78, (0, 1, 1, 0, 0, [])),
  (79, (33, 1, 0, 0, 0, [])),
  (80, (43, 1, 0, 0, 0, [])),
  (81, (1, 1, 0, 0, 0, [])),
  (82, (30, 3, 10, 9, 0, [25])),
  (85, (0, 1, 1, 0, 0, [])),
  (86, (33, 1, 0, 0, 0, [])),
  (87, (43, 1, 0, 0, 0, [])),
  (88, (1, 1, 0, 0, 0, [])),
  (89, (30, 3, 10, 11, 0, [31])),
  (92, (0, 1, 1, 0, 0, [])),
  (93, (33, 1, 0, 0, 0, [])),
  (94, (43, 1, 0, 0, 0, [])),
  (95, (1, 1, 0, 0, 0, [])),
  (96, (30, 3, 10, 10, 0, [28])),
  (99, (0, 1, 1, 0, 0, [])),
  (100, (33, 1, 0, 0, 0, [])),
  (101, (43, 1, 0, 0, 0, [])),
  (102, (4, 1, 0, 0, 0, [])),
  (103, (2, 1, 3, 0, 0, [])),
  (104, (4, 1, 0, 0, 0, [])),
  (105, (2, 2, 4, 0, 0, [])),
  (107, (0, 2, 4, 0, 0, [])),
  (109, (1, 1, 0, 0, 0, [])),
  (110, (30, 3, 10, 5, 0, [95])),
  (113, (16, 3, 3, 146, 0, [])),
  (116, (0, 1, 3, 0, 0, [])),
  (117, (0, 2, 4, 0, 0, [])),
  (119, (0, 1, 1, 0, 0, [])),
  (120, (16, 3, 0, 137, 0, [])),
  (123, (1, 1, 0, 0, 0, [])),
  (124, (0, 2, 4, 0, 0, [])),
  (126, (0, 1, 1, 0, 0, [])),
  (127, (40, 3, 78, 3, 0, [1, 10, 121])),
  (130, (15, 3, 0, 137, 0, [])),
  (133, (4, 1, 0, 0, 1, [])),
  (134, (20, 3, 0, 138, 0, [])),
  (137, (4, 1, 0, 0, 0, [])),
  (138, (7, 1, 0, 0, 0, [])),
  (139, (2, 1, 3, 0, 0, [])),
  (140, (6, 3, 4, 0, 1, [])),
  (143, (20, 3, 0, 107, 0, [])),
  (146, (0, 1, 3, 0, 0, [])),
  (147, (43, 1, 0, 0, 0, [])),
  (148, (4, 1, 0, 0, (-1), [])),
  (149, (43, 1, 0, 0, 0, []))]
def sm_m95 : av_Mt := (⟨"StructureMapModel", "about", "(II)I"⟩, prog_12_method_34_code, 5, some (.int), sm_find sm_c95)
/-- Arrays_fill -/
def sm_c96 : List (Nat × av_I) := [
  (0, (4, 1, 0, 0, 0, [])),
  (1, (2, 1, 2, 0, 0, [])),
  (2, (1, 1, 0, 0, 0, [])),
  (3, (32, 1, 0, 0, 0, [])),
  (4, (2, 1, 3, 0, 0, [])),
  (5, (0, 1, 2, 0, 0, [])),
  (6, (0, 1, 3, 0, 0, [])),
  (7, (16, 3, 3, 20, 0, [])),
  (10, (1, 1, 0, 0, 0, [])),
  (11, (0, 1, 2, 0, 0, [])),
  (12, (0, 1, 1, 0, 0, [])),
  (13, (34, 1, 0, 0, 0, [])),
  (14, (6, 3, 2, 0, 1, [])),
  (17, (20, 3, 0, 5, 0, [])),
  (20, (42, 1, 0, 0, 0, []))]
def sm_m96 : av_Mt := (⟨"java/util/Arrays", "fill", "([II)V"⟩, prog_18_method_103_code, 4, none, sm_find sm_c96)
/-- Math_max -/
def sm_c97 : List (Nat × av_I) := [
  (0, (0, 1, 0, 0, 0, [])),
  (1, (0, 1, 1, 0, 0, [])),
  (2, (16, 3, 2, 9, 0, [])),
  (5, (0, 1, 0, 0, 0, [])),
  (6, (20, 3, 0, 10, 0, [])),
  (9, (0, 1, 1, 0, 0, [])),
  (10, (43, 1, 0, 0, 0, []))]
def sm_m97 : av_Mt := (⟨"java/lang/Math", "max", "(II)I"⟩, prog_15_method_65_code, 2, some (.int), sm_find sm_c97)
def sm_c98_0 : List (Nat × av_I) := [
  (0, (36, 3, 0, 0, 0, [8])),
  (3, (10, 1, 0, 0, 0, [])),
  (4, (40, 3, 0, 1, 0, [2, 0, 15])),
  (7, (3, 1, 1, 0, 0, [])),
  (8, (36, 3, 10, 0, 0, [16])),
  (11, (10, 1, 0, 0, 0, [])),
  (12, (40, 3, 62, 1, 0, [2, 10, 18])),
  (15, (3, 1, 2, 0, 0, [])),
  (16, (4, 1, 0, 0, 1, [])),
  (17, (37, 2, 4, 0, 0, [])),
  (19, (3, 1, 3, 0, 0, [])),
  (20, (4, 1, 0, 0, 0, [])),
  (21, (2, 2, 4, 0, 0, [])),
  (23, (0, 2, 4, 0, 0, [])),
  (25, (1, 1, 0, 0, 0, [])),
  (26, (32, 1, 0, 0, 0, [])),
  (27, (4, 1, 0, 0, 5, [])),
  (28, (7, 1, 1, 0, 0, [])),
  (29, (16, 3, 4, 721, 0, [])),
  (32, (1, 1, 0, 0, 0, [])),
  (33, (0, 2, 4, 0, 0, [])),
  (35, (33, 1, 0, 0, 0, [])),
  (36, (4, 2, 1, 0, 15, [])),
  (38, (7, 1, 5, 0, 0, [])),
  (39, (21, 77, 0, 715, 0, [116, 141, 178, 203, 264, 325, 362, 399, 436, 461, 498, 523, 591, 616, 641, 678])),
  (116, (1, 1, 1, 0, 0, [])),
  (117, (1, 1, 0, 0, 0, [])),
  (118, (0, 2, 4, 0, 0, [])),
  (120, (4, 1, 0, 0, 1, [])),
  (121, (7, 1, 0, 0, 0, [])),
  (122, (33, 1, 0, 0, 0, [])),
  (123, (40, 3, 1, 2, 0, [1, 0, 19])),
  (126, (1, 1, 2, 0, 0, [])),
  (127, (1, 1, 0, 0, 0, [])),
  (128, (0, 2, 4, 0, 0, [])),
  (130, (4, 1, 0, 0, 1, [])),
  (131, (7, 1, 0, 0, 0, [])),
  (132, (33, 1, 0, 0, 0, [])),
  (133, (40, 3, 64, 2, 0, [1, 10, 23])),
  (136, (16, 3, 0, 715, 0, [])),
  (139, (4, 1, 0, 0, 0, [])),
  (140, (43, 1, 0, 0, 0, [])),
  (141, (1, 1, 1, 0, 0, [])),
  (142, (1, 1, 0, 0, 0, [])),
  (143, (0, 2, 4, 0, 0, [])),
  (145, (4, 1, 0, 0, 1, []))]
def sm_c98_1 : List (Nat × av_I) := [
  (146, (7, 1, 0, 0, 0, [])),
  (147, (33, 1, 0, 0, 0, [])),
  (148, (1, 1, 0, 0, 0, [])),
  (149, (0, 2, 4, 0, 0, [])),
  (151, (4, 1, 0, 0, 2, [])),
  (152, (7, 1, 0, 0, 0, [])),
  (153, (33, 1, 0, 0, 0, [])),
  (154, (40, 3, 3, 3, 0, [1, 0, 24])),
  (157, (1, 1, 2, 0, 0, [])),
  (158, (1, 1, 0, 0, 0, [])),
  (159, (0, 2, 4, 0, 0, [])),
  (161, (4, 1, 0, 0, 1, [])),
  (162, (7, 1, 0, 0, 0, [])),
  (163, (33, 1, 0, 0, 0, [])),
  (164, (1, 1, 0, 0, 0, [])),
  (165, (0, 2, 4, 0, 0, [])),
  (167, (4, 1, 0, 0, 2, [])),
  (168, (7, 1, 0, 0, 0, [])),
  (169, (33, 1, 0, 0, 0, [])),
  (170, (40, 3, 66, 3, 0, [1, 10, 27])),
  (173, (16, 3, 0, 715, 0, [])),
  (176, (4, 1, 0, 0, 0, [])),
  (177, (43, 1, 0, 0, 0, [])),
  (178, (1, 1, 1, 0, 0, [])),
  (179, (1, 1, 0, 0, 0, [])),
  (180, (0, 2, 4, 0, 0, [])),
  (182, (4, 1, 0, 0, 1, [])),
  (183, (7, 1, 0, 0, 0, [])),
  (184, (33, 1, 0, 0, 0, [])),
  (185, (40, 3, 5, 2, 0, [1, 0, 28])),
  (188, (1, 1, 2, 0, 0, [])),
  (189, (1, 1, 0, 0, 0, [])),
  (190, (0, 2, 4, 0, 0, [])),
  (192, (4, 1, 0, 0, 1, [])),
  (193, (7, 1, 0, 0, 0, [])),
  (194, (33, 1, 0, 0, 0, [])),
  (195, (40, 3, 68, 2, 0, [1, 10, 31])),
  (198, (16, 3, 0, 715, 0, [])),
  (201, (4, 1, 0, 0, 0, [])),
  (202, (43, 1, 0, 0, 0, [])),
  (203, (1, 1, 1, 0, 0, [])),
  (204, (1, 1, 0, 0, 0, [])),
  (205, (0, 2, 4, 0, 0, [])),
  (207, (4, 1, 0, 0, 1, [])),
  (208, (7, 1, 0, 0, 0, [])),
  (209, (33, 1, 0, 0, 0, []))]
def sm_c98_2 : List (Nat × av_I) := [
  (210, (1, 1, 0, 0, 0, [])),
  (211, (0, 2, 4, 0, 0, [])),
  (213, (4, 1, 0, 0, 2, [])),
  (214, (7, 1, 0, 0, 0, [])),
  (215, (33, 1, 0, 0, 0, [])),
  (216, (1, 1, 0, 0, 0, [])),
  (217, (0, 2, 4, 0, 0, [])),
  (219, (4, 1, 0, 0, 3, [])),
  (220, (7, 1, 0, 0, 0, [])),
  (221, (33, 1, 0, 0, 0, [])),
  (222, (1, 1, 0, 0, 0, [])),
  (223, (0, 2, 4, 0, 0, [])),
  (225, (4, 1, 0, 0, 4, [])),
  (226, (7, 1, 0, 0, 0, [])),
  (227, (33, 1, 0, 0, 0, [])),
  (228, (40, 3, 6, 5, 0, [1, 0, 32])),
  (231, (1, 1, 2, 0, 0, [])),
  (232, (1, 1, 0, 0, 0, [])),
  (233, (0, 2, 4, 0, 0, [])),
  (235, (4, 1, 0, 0, 1, [])),
  (236, (7, 1, 0, 0, 0, [])),
  (237, (33, 1, 0, 0, 0, [])),
  (238, (1, 1, 0, 0, 0, [])),
  (239, (0, 2, 4, 0, 0, [])),
  (241, (4, 1, 0, 0, 2, [])),
  (242, (7, 1, 0, 0, 0, [])),
  (243, (33, 1, 0, 0, 0, [])),
  (244, (1, 1, 0, 0, 0, [])),
  (245, (0, 2, 4, 0, 0, [])),
  (247, (4, 1, 0, 0, 3, [])),
  (248, (7, 1, 0, 0, 0, [])),
  (249, (33, 1, 0, 0, 0, [])),
  (250, (1, 1, 0, 0, 0, [])),
  (251, (0, 2, 4, 0, 0, [])),
  (253, (4, 1, 0, 0, 4, [])),
  (254, (7, 1, 0, 0, 0, [])),
  (255, (33, 1, 0, 0, 0, [])),
  (256, (40, 3, 69, 5, 0, [1, 10, 36])),
  (259, (16, 3, 0, 715, 0, [])),
  (262, (4, 1, 0, 0, 0, [])),
  (263, (43, 1, 0, 0, 0, [])),
  (264, (1, 1, 1, 0, 0, [])),
  (265, (1, 1, 0, 0, 0, [])),
  (266, (0, 2, 4, 0, 0, [])),
  (268, (4, 1, 0, 0, 1, [])),
  (269, (7, 1, 0, 0, 0, []))]
def sm_c98_3 : List (Nat × av_I) := [
  (270, (33, 1, 0, 0, 0, [])),
  (271, (1, 1, 0, 0, 0, [])),
  (272, (0, 2, 4, 0, 0, [])),
  (274, (4, 1, 0, 0, 2, [])),
  (275, (7, 1, 0, 0, 0, [])),
  (276, (33, 1, 0, 0, 0, [])),
  (277, (1, 1, 0, 0, 0, [])),
  (278, (0, 2, 4, 0, 0, [])),
  (280, (4, 1, 0, 0, 3, [])),
  (281, (7, 1, 0, 0, 0, [])),
  (282, (33, 1, 0, 0, 0, [])),
  (283, (1, 1, 0, 0, 0, [])),
  (284, (0, 2, 4, 0, 0, [])),
  (286, (4, 1, 0, 0, 4, [])),
  (287, (7, 1, 0, 0, 0, [])),
  (288, (33, 1, 0, 0, 0, [])),
  (289, (40, 3, 10, 5, 0, [1, 0, 37])),
  (292, (1, 1, 2, 0, 0, [])),
  (293, (1, 1, 0, 0, 0, [])),
  (294, (0, 2, 4, 0, 0, [])),
  (296, (4, 1, 0, 0, 1, [])),
  (297, (7, 1, 0, 0, 0, [])),
  (298, (33, 1, 0, 0, 0, [])),
  (299, (1, 1, 0, 0, 0, [])),
  (300, (0, 2, 4, 0, 0, [])),
  (302, (4, 1, 0, 0, 2, [])),
  (303, (7, 1, 0, 0, 0, [])),
  (304, (33, 1, 0, 0, 0, [])),
  (305, (1, 1, 0, 0, 0, [])),
  (306, (0, 2, 4, 0, 0, [])),
  (308, (4, 1, 0, 0, 3, [])),
  (309, (7, 1, 0, 0, 0, [])),
  (310, (33, 1, 0, 0, 0, [])),
  (311, (1, 1, 0, 0, 0, [])),
  (312, (0, 2, 4, 0, 0, [])),
  (314, (4, 1, 0, 0, 4, [])),
  (315, (7, 1, 0, 0, 0, [])),
  (316, (33, 1, 0, 0, 0, [])),
  (317, (40, 3, 72, 5, 0, [1, 10, 40])),
  (320, (16, 3, 0, 715, 0, [])),
  (323, (4, 1, 0, 0, 0, [])),
  (324, (43, 1, 0, 0, 0, [])),
  (325, (1, 1, 1, 0, 0, [])),
  (326, (1, 1, 0, 0, 0, [])),
  (327, (0, 2, 4, 0, 0, [])),
  (329, (4, 1, 0, 0, 1, []))]
def sm_c98_4 : List (Nat × av_I) := [
  (330, (7, 1, 0, 0, 0, [])),
  (331, (33, 1, 0, 0, 0, [])),
  (332, (1, 1, 0, 0, 0, [])),
  (333, (0, 2, 4, 0, 0, [])),
  (335, (4, 1, 0, 0, 2, [])),
  (336, (7, 1, 0, 0, 0, [])),
  (337, (33, 1, 0, 0, 0, [])),
  (338, (40, 3, 11, 3, 0, [1, 0, 41])),
  (341, (1, 1, 2, 0, 0, [])),
  (342, (1, 1, 0, 0, 0, [])),
  (343, (0, 2, 4, 0, 0, [])),
  (345, (4, 1, 0, 0, 1, [])),
  (346, (7, 1, 0, 0, 0, [])),
  (347, (33, 1, 0, 0, 0, [])),
  (348, (1, 1, 0, 0, 0, [])),
  (349, (0, 2, 4, 0, 0, [])),
  (351, (4, 1, 0, 0, 2, [])),
  (352, (7, 1, 0, 0, 0, [])),
  (353, (33, 1, 0, 0, 0, [])),
  (354, (40, 3, 73, 3, 0, [1, 10, 44])),
  (357, (16, 3, 0, 715, 0, [])),
  (360, (4, 1, 0, 0, 0, [])),
  (361, (43, 1, 0, 0, 0, [])),
  (362, (1, 1, 1, 0, 0, [])),
  (363, (1, 1, 0, 0, 0, [])),
  (364, (0, 2, 4, 0, 0, [])),
  (366, (4, 1, 0, 0, 1, [])),
  (367, (7, 1, 0, 0, 0, [])),
  (368, (33, 1, 0, 0, 0, [])),
  (369, (1, 1, 0, 0, 0, [])),
  (370, (0, 2, 4, 0, 0, [])),
  (372, (4, 1, 0, 0, 2, [])),
  (373, (7, 1, 0, 0, 0, [])),
  (374, (33, 1, 0, 0, 0, [])),
  (375, (40, 3, 12, 3, 0, [1, 0, 45])),
  (378, (1, 1, 2, 0, 0, [])),
  (379, (1, 1, 0, 0, 0, [])),
  (380, (0, 2, 4, 0, 0, [])),
  (382, (4, 1, 0, 0, 1, [])),
  (383, (7, 1, 0, 0, 0, [])),
  (384, (33, 1, 0, 0, 0, [])),
  (385, (1, 1, 0, 0, 0, [])),
  (386, (0, 2, 4, 0, 0, [])),
  (388, (4, 1, 0, 0, 2, [])),
  (389, (7, 1, 0, 0, 0, [])),
  (390, (33, 1, 0, 0, 0, []))]
def sm_c98_5 : List (Nat × av_I) := [
  (391, (40, 3, 77, 3, 0, [1, 10, 48])),
  (394, (16, 3, 0, 715, 0, [])),
  (397, (4, 1, 0, 0, 0, [])),
  (398, (43, 1, 0, 0, 0, [])),
  (399, (1, 1, 1, 0, 0, [])),
  (400, (1, 1, 0, 0, 0, [])),
  (401, (0, 2, 4, 0, 0, [])),
  (403, (4, 1, 0, 0, 1, [])),
  (404, (7, 1, 0, 0, 0, [])),
  (405, (33, 1, 0, 0, 0, [])),
  (406, (1, 1, 0, 0, 0, [])),
  (407, (0, 2, 4, 0, 0, [])),
  (409, (4, 1, 0, 0, 2, [])),
  (410, (7, 1, 0, 0, 0, [])),
  (411, (33, 1, 0, 0, 0, [])),
  (412, (40, 3, 13, 3, 0, [1, 0, 49])),
  (415, (1, 1, 2, 0, 0, [])),
  (416, (1, 1, 0, 0, 0, [])),
  (417, (0, 2, 4, 0, 0, [])),
  (419, (4, 1, 0, 0, 1, [])),
  (420, (7, 1, 0, 0, 0, [])),
  (421, (33, 1, 0, 0, 0, [])),
  (422, (1, 1, 0, 0, 0, [])),
  (423, (0, 2, 4, 0, 0, [])),
  (425, (4, 1, 0, 0, 2, [])),
  (426, (7, 1, 0, 0, 0, [])),
  (427, (33, 1, 0, 0, 0, [])),
  (428, (40, 3, 79, 3, 0, [1, 10, 52])),
  (431, (16, 3, 0, 715, 0, [])),
  (434, (4, 1, 0, 0, 0, [])),
  (435, (43, 1, 0, 0, 0, [])),
  (436, (1, 1, 1, 0, 0, [])),
  (437, (1, 1, 0, 0, 0, [])),
  (438, (0, 2, 4, 0, 0, [])),
  (440, (4, 1, 0, 0, 1, [])),
  (441, (7, 1, 0, 0, 0, [])),
  (442, (33, 1, 0, 0, 0, [])),
  (443, (40, 3, 14, 2, 0, [1, 0, 53])),
  (446, (1, 1, 2, 0, 0, [])),
  (447, (1, 1, 0, 0, 0, [])),
  (448, (0, 2, 4, 0, 0, [])),
  (450, (4, 1, 0, 0, 1, [])),
  (451, (7, 1, 0, 0, 0, [])),
  (452, (33, 1, 0, 0, 0, [])),
  (453, (40, 3, 83, 2, 0, [1, 10, 56])),
  (456, (16, 3, 0, 715, 0, []))]
def sm_c98_6 : List (Nat × av_I) := [
  (459, (4, 1, 0, 0, 0, [])),
  (460, (43, 1, 0, 0, 0, [])),
  (461, (1, 1, 1, 0, 0, [])),
  (462, (1, 1, 0, 0, 0, [])),
  (463, (0, 2, 4, 0, 0, [])),
  (465, (4, 1, 0, 0, 1, [])),
  (466, (7, 1, 0, 0, 0, [])),
  (467, (33, 1, 0, 0, 0, [])),
  (468, (1, 1, 0, 0, 0, [])),
  (469, (0, 2, 4, 0, 0, [])),
  (471, (4, 1, 0, 0, 2, [])),
  (472, (7, 1, 0, 0, 0, [])),
  (473, (33, 1, 0, 0, 0, [])),
  (474, (40, 3, 15, 3, 0, [1, 0, 57])),
  (477, (1, 1, 2, 0, 0, [])),
  (478, (1, 1, 0, 0, 0, [])),
  (479, (0, 2, 4, 0, 0, [])),
  (481, (4, 1, 0, 0, 1, [])),
  (482, (7, 1, 0, 0, 0, [])),
  (483, (33, 1, 0, 0, 0, [])),
  (484, (1, 1, 0, 0, 0, [])),
  (485, (0, 2, 4, 0, 0, [])),
  (487, (4, 1, 0, 0, 2, [])),
  (488, (7, 1, 0, 0, 0, [])),
  (489, (33, 1, 0, 0, 0, [])),
  (490, (40, 3, 85, 3, 0, [1, 10, 60])),
  (493, (16, 3, 0, 715, 0, [])),
  (496, (4, 1, 0, 0, 0, [])),
  (497, (43, 1, 0, 0, 0, [])),
  (498, (1, 1, 1, 0, 0, [])),
  (499, (1, 1, 0, 0, 0, [])),
  (500, (0, 2, 4, 0, 0, [])),
  (502, (4, 1, 0, 0, 1, [])),
  (503, (7, 1, 0, 0, 0, [])),
  (504, (33, 1, 0, 0, 0, [])),
  (505, (40, 3, 16, 2, 0, [1, 0, 61])),
  (508, (1, 1, 2, 0, 0, [])),
  (509, (1, 1, 0, 0, 0, [])),
  (510, (0, 2, 4, 0, 0, [])),
  (512, (4, 1, 0, 0, 1, [])),
  (513, (7, 1, 0, 0, 0, [])),
  (514, (33, 1, 0, 0, 0, [])),
  (515, (40, 3, 86, 2, 0, [1, 10, 64])),
  (518, (16, 3, 0, 715, 0, [])),
  (521, (4, 1, 0, 0, 0, [])),
  (522, (43, 1, 0, 0, 0, []))]
def sm_c98_7 : List (Nat × av_I) := [
  (523, (1, 1, 1, 0, 0, [])),
  (524, (1, 1, 0, 0, 0, [])),
  (525, (0, 2, 4, 0, 0, [])),
  (527, (4, 1, 0, 0, 1, [])),
  (528, (7, 1, 0, 0, 0, [])),
  (529, (33, 1, 0, 0, 0, [])),
  (530, (1, 1, 0, 0, 0, [])),
  (531, (0, 2, 4, 0, 0, [])),
  (533, (4, 1, 0, 0, 2, [])),
  (534, (7, 1, 0, 0, 0, [])),
  (535, (33, 1, 0, 0, 0, [])),
  (536, (1, 1, 3, 0, 0, [])),
  (537, (45, 3, 0, 4, 0, [65])),
  (540, (2, 2, 5, 0, 0, [])),
  (542, (1, 1, 2, 0, 0, [])),
  (543, (1, 1, 0, 0, 0, [])),
  (544, (0, 2, 4, 0, 0, [])),
  (546, (4, 1, 0, 0, 1, [])),
  (547, (7, 1, 0, 0, 0, [])),
  (548, (33, 1, 0, 0, 0, [])),
  (549, (1, 1, 0, 0, 0, [])),
  (550, (0, 2, 4, 0, 0, [])),
  (552, (4, 1, 0, 0, 2, [])),
  (553, (7, 1, 0, 0, 0, [])),
  (554, (33, 1, 0, 0, 0, [])),
  (555, (40, 3, 90, 3, 0, [1, 10, 70])),
  (558, (2, 2, 6, 0, 0, [])),
  (560, (1, 1, 2, 0, 0, [])),
  (561, (40, 3, 63, 1, 0, [1, 10, 71])),
  (564, (0, 2, 5, 0, 0, [])),
  (566, (16, 3, 0, 571, 0, [])),
  (569, (4, 1, 0, 0, 0, [])),
  (570, (43, 1, 0, 0, 0, [])),
  (571, (0, 2, 5, 0, 0, [])),
  (573, (15, 3, 1, 588, 0, [])),
  (576, (1, 1, 3, 0, 0, [])),
  (577, (4, 1, 0, 0, 0, [])),
  (578, (33, 1, 4, 0, 0, [])),
  (579, (0, 2, 6, 0, 0, [])),
  (581, (23, 1, 0, 0, 0, [])),
  (582, (24, 1, 0, 0, 0, [])),
  (583, (15, 3, 0, 588, 0, [])),
  (586, (4, 1, 0, 0, 0, [])),
  (587, (43, 1, 0, 0, 0, [])),
  (588, (20, 3, 0, 715, 0, [])),
  (591, (1, 1, 1, 0, 0, []))]
def sm_c98_8 : List (Nat × av_I) := [
  (592, (1, 1, 0, 0, 0, [])),
  (593, (0, 2, 4, 0, 0, [])),
  (595, (4, 1, 0, 0, 1, [])),
  (596, (7, 1, 0, 0, 0, [])),
  (597, (33, 1, 0, 0, 0, [])),
  (598, (40, 3, 19, 2, 0, [1, 0, 75])),
  (601, (1, 1, 2, 0, 0, [])),
  (602, (1, 1, 0, 0, 0, [])),
  (603, (0, 2, 4, 0, 0, [])),
  (605, (4, 1, 0, 0, 1, [])),
  (606, (7, 1, 0, 0, 0, [])),
  (607, (33, 1, 0, 0, 0, [])),
  (608, (40, 3, 91, 2, 0, [1, 10, 78])),
  (611, (16, 3, 0, 715, 0, [])),
  (614, (4, 1, 0, 0, 0, [])),
  (615, (43, 1, 0, 0, 0, [])),
  (616, (1, 1, 1, 0, 0, [])),
  (617, (1, 1, 0, 0, 0, [])),
  (618, (0, 2, 4, 0, 0, [])),
  (620, (4, 1, 0, 0, 1, [])),
  (621, (7, 1, 0, 0, 0, [])),
  (622, (33, 1, 0, 0, 0, [])),
  (623, (40, 3, 20, 2, 0, [1, 0, 79])),
  (626, (1, 1, 2, 0, 0, [])),
  (627, (1, 1, 0, 0, 0, [])),
  (628, (0, 2, 4, 0, 0, [])),
  (630, (4, 1, 0, 0, 1, [])),
  (631, (7, 1, 0, 0, 0, [])),
  (632, (33, 1, 0, 0, 0, [])),
  (633, (40, 3, 93, 2, 0, [1, 10, 82])),
  (636, (16, 3, 0, 715, 0, [])),
  (639, (4, 1, 0, 0, 0, [])),
  (640, (43, 1, 0, 0, 0, [])),
  (641, (1, 1, 1, 0, 0, [])),
  (642, (1, 1, 0, 0, 0, [])),
  (643, (0, 2, 4, 0, 0, [])),
  (645, (4, 1, 0, 0, 1, [])),
  (646, (7, 1, 0, 0, 0, [])),
  (647, (33, 1, 0, 0, 0, [])),
  (648, (1, 1, 0, 0, 0, [])),
  (649, (0, 2, 4, 0, 0, [])),
  (651, (4, 1, 0, 0, 2, [])),
  (652, (7, 1, 0, 0, 0, [])),
  (653, (33, 1, 0, 0, 0, [])),
  (654, (40, 3, 21, 3, 0, [1, 0, 83])),
  (657, (1, 1, 2, 0, 0, []))]
def sm_c98_9 : List (Nat × av_I) := [
  (658, (1, 1, 0, 0, 0, [])),
  (659, (0, 2, 4, 0, 0, [])),
  (661, (4, 1, 0, 0, 1, [])),
  (662, (7, 1, 0, 0, 0, [])),
  (663, (33, 1, 0, 0, 0, [])),
  (664, (1, 1, 0, 0, 0, [])),
  (665, (0, 2, 4, 0, 0, [])),
  (667, (4, 1, 0, 0, 2, [])),
  (668, (7, 1, 0, 0, 0, [])),
  (669, (33, 1, 0, 0, 0, [])),
  (670, (40, 3, 94, 3, 0, [1, 10, 86])),
  (673, (16, 3, 0, 715, 0, [])),
  (676, (4, 1, 0, 0, 0, [])),
  (677, (43, 1, 0, 0, 0, [])),
  (678, (1, 1, 1, 0, 0, [])),
  (679, (1, 1, 0, 0, 0, [])),
  (680, (0, 2, 4, 0, 0, [])),
  (682, (4, 1, 0, 0, 1, [])),
  (683, (7, 1, 0, 0, 0, [])),
  (684, (33, 1, 0, 0, 0, [])),
  (685, (1, 1, 0, 0, 0, [])),
  (686, (0, 2, 4, 0, 0, [])),
  (688, (4, 1, 0, 0, 2, [])),
  (689, (7, 1, 0, 0, 0, [])),
  (690, (33, 1, 0, 0, 0, [])),
  (691, (40, 3, 23, 3, 0, [1, 0, 87])),
  (694, (1, 1, 2, 0, 0, [])),
  (695, (1, 1, 0, 0, 0, [])),
  (696, (0, 2, 4, 0, 0, [])),
  (698, (4, 1, 0, 0, 1, [])),
  (699, (7, 1, 0, 0, 0, [])),
  (700, (33, 1, 0, 0, 0, [])),
  (701, (1, 1, 0, 0, 0, [])),
  (702, (0, 2, 4, 0, 0, [])),
  (704, (4, 1, 0, 0, 2, [])),
  (705, (7, 1, 0, 0, 0, [])),
  (706, (33, 1, 0, 0, 0, [])),
  (707, (40, 3, 95, 3, 0, [1, 10, 90])),
  (710, (16, 3, 0, 715, 0, [])),
  (713, (4, 1, 0, 0, 0, [])),
  (714, (43, 1, 0, 0, 0, [])),
  (715, (6, 3, 4, 0, 5, [])),
  (718, (20, 3, 0, 23, 0, [])),
  (721, (4, 1, 0, 0, 1, [])),
  (722, (43, 1, 0, 0, 0, []))]
def sm_c98 : List (Nat × av_I) := sm_c98_0 ++ (sm_c98_1 ++ (sm_c98_2 ++ (sm_c98_3 ++ (sm_c98_4 ++ (sm_c98_5 ++ (sm_c98_6 ++ (sm_c98_7 ++ (sm_c98_8 ++ (sm_c98_9)))))))))
def sm_m98 : av_Mt := (x, code, maxLocals, ret, sm_find sm_c98)
def sm_ms : List av_Mt := [sm_m0, sm_m1, sm_m2, sm_m3, sm_m4, sm_m5, sm_m6, sm_m7, sm_m8, sm_m9, sm_m10, sm_m11, sm_m12, sm_m13, sm_m14, sm_m15, sm_m16, sm_m17, sm_m18, sm_m19, sm_m20, sm_m21, sm_m22, sm_m23, sm_m24, sm_m25, sm_m26, sm_m27, sm_m28, sm_m29, sm_m30, sm_m31, sm_m32, sm_m33, sm_m34, sm_m35, sm_m36, sm_m37, sm_m38, sm_m39, sm_m40, sm_m41, sm_m42, sm_m43, sm_m44, sm_m45, sm_m46, sm_m47, sm_m48, sm_m49, sm_m50, sm_m51, sm_m52, sm_m53, sm_m54, sm_m55, sm_m56, sm_m57, sm_m58, sm_m59, sm_m60, sm_m61, sm_m62, sm_m63, sm_m64, sm_m65, sm_m66, sm_m67, sm_m68, sm_m69, sm_m70, sm_m71, sm_m72, sm_m73, sm_m74, sm_m75, sm_m76, sm_m77, sm_m78, sm_m79, sm_m80, sm_m81, sm_m82, sm_m83, sm_m84, sm_m85, sm_m86, sm_m87, sm_m88, sm_m89, sm_m90, sm_m91, sm_m92, sm_m93, sm_m94, sm_m95, sm_m96, sm_m97, sm_m98]
def sm_mt : Nat → Option av_Mt := fun y => sm_ms[y]?
def sm_Ts : List Jvm.Cond := lw_tbl.filter goodWord
end
section
theorem sm_ok0 : sm_c0.all (fun r => av_chk sm_Ts sm_cl sm_fT sm_aT sm_ao sm_mt sm_m0 r.1 r.2) = true := by decide +kernel
theorem sm_ok1 : sm_c1.all (fun r => av_chk sm_Ts sm_cl sm_fT sm_aT sm_ao sm_mt sm_m1 r.1 r.2) = true := by decide +kernel
theorem sm_ok2 : sm_c2.all (fun r => av_chk sm_Ts sm_cl sm_fT sm_aT sm_ao sm_mt sm_m2 r.1 r.2) = true := by decide +kernel
theorem sm_ok3 : sm_c3.all (fun r => av_chk sm_Ts sm_cl sm_fT sm_aT sm_ao sm_mt sm_m3 r.1 r.2) = true := by decide +kernel
theorem sm_ok4 : sm_c4.all (fun r => av_chk sm_Ts sm_cl sm_fT sm_aT sm_ao sm_mt sm_m4 r.1 r.2) = true := by decide +kernel
theorem sm_ok5 : sm_c5.all (fun r => av_chk sm_Ts sm_cl sm_fT sm_aT sm_ao sm_mt sm_m5 r.1 r.2) = true := by decide +kernel
theorem sm_ok6 : sm_c6.all (fun r => av_chk sm_Ts sm_cl sm_fT sm_aT sm_ao sm_mt sm_m6 r.1 r.2) = true := by decide +kernel
theorem sm_ok7 : sm_c7.all (fun r => av_chk sm_Ts sm_cl sm_fT sm_aT sm_ao sm_mt sm_m7 r.1 r.2) = true := by decide +kernel
theorem sm_ok8 : sm_c8.all (fun r => av_chk sm_Ts sm_cl sm_fT sm_aT sm_ao sm_mt sm_m8 r.1 r.2) = true := by decide +kernel
theorem sm_ok9 : sm_c9.all (fun r => av_chk sm_Ts sm_cl sm_fT sm_aT sm_ao sm_mt sm_m9 r.1 r.2) = true := by decide +kernel
theorem sm_ok10 : sm_c10.all (fun r => av_chk sm_Ts sm_cl sm_fT sm_aT sm_ao sm_mt sm_m10 r.1 r.2) = true := by decide +kernel
theorem sm_ok11 : sm_c11.all (fun r => av_chk sm_Ts sm_cl sm_fT sm_aT sm_ao sm_mt sm_m11 r.1 r.2) = true := by decide +kernel
theorem sm_ok12 : sm_c12.all (fun r => av_chk sm_Ts sm_cl sm_fT sm_aT sm_ao sm_mt sm_m12 r.1 r.2) = true := by decide +kernel
theorem sm_ok13 : sm_c13.all (fun r => av_chk sm_Ts sm_cl sm_fT sm_aT sm_ao sm_mt sm_m13 r.1 r.2) = true := by decide +kernel
theorem sm_ok14 : sm_c14.all (fun r => av_chk sm_Ts sm_cl sm_fT sm_aT sm_ao sm_mt sm_m14 r.1 r.2) = true := by decide +kernel
theorem sm_ok15 : sm_c15.all (fun r => av_chk sm_Ts sm_cl sm_fT sm_aT sm_ao sm_mt sm_m15 r.1 r.2) = true := by decide +kernel
theorem sm_ok16 : sm_c16.all (fun r => av_chk sm_Ts sm_cl sm_fT sm_aT sm_ao sm_mt sm_m16 r.1 r.2) = true := by decide +kernel
theorem sm_ok17 : sm_c17.all (fun r => av_chk sm_Ts sm_cl sm_fT sm_aT sm_ao sm_mt sm_m17 r.1 r.2) = true := by decide +kernel
theorem sm_ok18 : sm_c18.all (fun r => av_chk sm_Ts sm_cl sm_fT sm_aT sm_ao sm_mt sm_m18 r.1 r.2) = true := by decide +kernel
theorem sm_ok19 : sm_c19.all (fun r => av_chk sm_Ts sm_cl sm_fT sm_aT sm_ao sm_mt sm_m19 r.1 r.2) = true := by decide +kernel
theorem sm_ok20 : sm_c20.all (fun r => av_chk sm_Ts sm_cl sm_fT sm_aT sm_ao sm_mt sm_m20 r.1 r.2) = true := by decide +kernel
theorem sm_ok21 : sm_c21.all (fun r => av_chk sm_Ts sm_cl sm_fT sm_aT sm_ao sm_mt sm_m21 r.1 r.2) = true := by decide +kernel
theorem sm_ok22 : sm_c22.all (fun r => av_chk sm_Ts sm_cl sm_fT sm_aT sm_ao sm_mt sm_m22 r.1 r.2) = true := by decide +kernel
theorem sm_ok23 : sm_c23.all (fun r => av_chk sm_Ts sm_cl sm_fT sm_aT sm_ao sm_mt sm_m23 r.1 r.2) = true := by decide +kernel
theorem sm_ok24 : sm_c24.all (fun r => av_chk sm_Ts sm_cl sm_fT sm_aT sm_ao sm_mt sm_m24 r.1 r.2) = true := by decide +kernel
theorem sm_ok25 : sm_c25.all (fun r => av_chk sm_Ts sm_cl sm_fT sm_aT sm_ao sm_mt sm_m25 r.1 r.2) = true := by decide +kernel
theorem sm_ok26 : sm_c26.all (fun r => av_chk sm_Ts sm_cl sm_fT sm_aT sm_ao sm_mt sm_m26 r.1 r.2) = true := by decide +kernel
theorem sm_ok27 : sm_c27.all (fun r => av_chk sm_Ts sm_cl sm_fT sm_aT sm_ao sm_mt sm_m27 r.1 r.2) = true := by decide +kernel
theorem sm_ok28 : sm_c28.all (fun r => av_chk sm_Ts sm_cl sm_fT sm_aT sm_ao sm_mt sm_m28 r.1 r.2) = true := by decide +kernel
theorem sm_ok29 : sm_c29.all (fun r => av_chk sm_Ts sm_cl sm_fT sm_aT sm_ao sm_mt sm_m29 r.1 r.2) = true := by decide +kernel
end
section
theorem sm_ok30 : sm_c30.all (fun r => av_chk sm_Ts sm_cl sm_fT sm_aT sm_ao sm_mt sm_m30 r.1 r.2) = true := by decide +kernel
theorem sm_ok31 : sm_c31.all (fun r => av_chk sm_Ts sm_cl sm_fT sm_aT sm_ao sm_mt sm_m31 r.1 r.2) = true := by decide +kernel
theorem sm_ok32 : sm_c32.all (fun r => av_chk sm_Ts sm_cl sm_fT sm_aT sm_ao sm_mt sm_m32 r.1 r.2) = true := by decide +kernel
theorem sm_ok33 : sm_c33.all (fun r => av_chk sm_Ts sm_cl sm_fT sm_aT sm_ao sm_mt sm_m33 r.1 r.2) = true := by decide +kernel
theorem sm_ok34 : sm_c34.all (fun r => av_chk sm_Ts sm_cl sm_fT sm_aT sm_ao sm_mt sm_m34 r.1 r.2) = true := by decide +kernel
theorem sm_ok35 : sm_c35.all (fun r => av_chk sm_Ts sm_cl sm_fT sm_aT sm_ao sm_mt sm_m35 r.1 r.2) = true := by decide +kernel
theorem sm_ok36 : sm_c36.all (fun r => av_chk sm_Ts sm_cl sm_fT sm_aT sm_ao sm_mt sm_m36 r.1 r.2) = true := by decide +kernel
theorem sm_ok37 : sm_c37.all (fun r => av_chk sm_Ts sm_cl sm_fT sm_aT sm_ao sm_mt sm_m37 r.1 r.2) = true := by decide +kernel
theorem sm_ok38 : sm_c38.all (fun r => av_chk sm_Ts sm_cl sm_fT sm_aT sm_ao sm_mt sm_m38 r.1 r.2) = true := by decide +kernel
theorem sm_ok39 : sm_c39.all (fun r => av_chk sm_Ts sm_cl sm_fT sm_aT sm_ao sm_mt sm_m39 r.1 r.2) = true := by decide +kernel
theorem sm_ok40 : sm_c40.all (fun r => av_chk sm_Ts sm_cl sm_fT sm_aT sm_ao sm_mt sm_m40 r.1 r.2) = true := by decide +kernel
theorem sm_ok41 : sm_c41.all (fun r => av_chk sm_Ts sm_cl sm_fT sm_aT sm_ao sm_mt sm_m41 r.1 r.2) = true := by decide +kernel
theorem sm_ok42 : sm_c42.all (fun r => av_chk sm_Ts sm_cl sm_fT sm_aT sm_ao sm_mt sm_m42 r.1 r.2) = true := by decide +kernel
theorem sm_ok43 : sm_c43.all (fun r => av_chk sm_Ts sm_cl sm_fT sm_aT sm_ao sm_mt sm_m43 r.1 r.2) = true := by decide +kernel
theorem sm_ok44 : sm_c44.all (fun r => av_chk sm_Ts sm_cl sm_fT sm_aT sm_ao sm_mt sm_m44 r.1 r.2) = true := by decide +kernel
theorem sm_ok45 : sm_c45.all (fun r => av_chk sm_Ts sm_cl sm_fT sm_aT sm_ao sm_mt sm_m45 r.1 r.2) = true := by decide +kernel
theorem sm_ok46 : sm_c46.all (fun r => av_chk sm_Ts sm_cl sm_fT sm_aT sm_ao sm_mt sm_m46 r.1 r.2) = true := by decide +kernel
theorem sm_ok47 : sm_c47.all (fun r => av_chk sm_Ts sm_cl sm_fT sm_aT sm_ao sm_mt sm_m47 r.1 r.2) = true := by decide +kernel
theorem sm_ok48 : sm_c48.all (fun r => av_chk sm_Ts sm_cl sm_fT sm_aT sm_ao sm_mt sm_m48 r.1 r.2) = true := by decide +kernel
theorem sm_ok49 : sm_c49.all (fun r => av_chk sm_Ts sm_cl sm_fT sm_aT sm_ao sm_mt sm_m49 r.1 r.2) = true := by decide +kernel
theorem sm_ok50 : sm_c50.all (fun r => av_chk sm_Ts sm_cl sm_fT sm_aT sm_ao sm_mt sm_m50 r.1 r.2) = true := by decide +kernel
theorem sm_ok51 : sm_c51.all (fun r => av_chk sm_Ts sm_cl sm_fT sm_aT sm_ao sm_mt sm_m51 r.1 r.2) = true := by decide +kernel
theorem sm_ok52 : sm_c52.all (fun r => av_chk sm_Ts sm_cl sm_fT sm_aT sm_ao sm_mt sm_m52 r.1 r.2) = true := by decide +kernel
theorem sm_ok53 : sm_c53.all (fun r => av_chk sm_Ts sm_cl sm_fT sm_aT sm_ao sm_mt sm_m53 r.1 r.2) = true := by decide +kernel
theorem sm_ok54 : sm_c54.all (fun r => av_chk sm_Ts sm_cl sm_fT sm_aT sm_ao sm_mt sm_m54 r.1 r.2) = true := by decide +kernel
theorem sm_ok55 : sm_c55.all (fun r => av_chk sm_Ts sm_cl sm_fT sm_aT sm_ao sm_mt sm_m55 r.1 r.2) = true := by decide +kernel
theorem sm_ok56 : sm_c56.all (fun r => av_chk sm_Ts sm_cl sm_fT sm_aT sm_ao sm_mt sm_m56 r.1 r.2) = true := by decide +kernel
theorem sm_ok57 : sm_c57.all (fun r => av_chk sm_Ts sm_cl sm_fT sm_aT sm_ao sm_mt sm_m57 r.1 r.2) = true := by decide +kernel
theorem sm_ok58 : sm_c58.all (fun r => av_chk sm_Ts sm_cl sm_fT sm_aT sm_ao sm_mt sm_m58 r.1 r.2) = true := by decide +kernel
theorem sm_ok59 : sm_c59.all (fun r => av_chk sm_Ts sm_cl sm_fT sm_aT sm_ao sm_mt sm_m59 r.1 r.2) = true := by decide +kernel
theorem sm_ok60 : sm_c60.all (fun r => av_chk sm_Ts sm_cl sm_fT sm_aT sm_ao sm_mt sm_m60 r.1 r.2) = true := by decide +kernel
theorem sm_ok61 : sm_c61.all (fun r => av_chk sm_Ts sm_cl sm_fT sm_aT sm_ao sm_mt sm_m61 r.1 r.2) = true := by decide +kernel
end
section
theorem sm_ok62 : sm_c62.all (fun r => av_chk sm_Ts sm_cl sm_fT sm_aT sm_ao sm_mt sm_m62 r.1 r.2) = true := by decide +kernel
theorem sm_ok63 : sm_c63.all (fun r => av_chk sm_Ts sm_cl sm_fT sm_aT sm_ao sm_mt sm_m63 r.1 r.2) = true := by decide +kernel
theorem sm_ok64 : sm_c64.all (fun r => av_chk sm_Ts sm_cl sm_fT sm_aT sm_ao sm_mt sm_m64 r.1 r.2) = true := by decide +kernel
theorem sm_ok65 : sm_c65.all (fun r => av_chk sm_Ts sm_cl sm_fT sm_aT sm_ao sm_mt sm_m65 r.1 r.2) = true := by decide +kernel
theorem sm_ok66 : sm_c66.all (fun r => av_chk sm_Ts sm_cl sm_fT sm_aT sm_ao sm_mt sm_m66 r.1 r.2) = true := by decide +kernel
theorem sm_ok67 : sm_c67.all (fun r => av_chk sm_Ts sm_cl sm_fT sm_aT sm_ao sm_mt sm_m67 r.1 r.2) = true := by decide +kernel
theorem sm_ok68 : sm_c68.all (fun r => av_chk sm_Ts sm_cl sm_fT sm_aT sm_ao sm_mt sm_m68 r.1 r.2) = true := by decide +kernel
theorem sm_ok69 : sm_c69.all (fun r => av_chk sm_Ts sm_cl sm_fT sm_aT sm_ao sm_mt sm_m69 r.1 r.2) = true := by decide +kernel
theorem sm_ok70 : sm_c70.all (fun r => av_chk sm_Ts sm_cl sm_fT sm_aT sm_ao sm_mt sm_m70 r.1 r.2) = true := by decide +kernel
theorem sm_ok71 : sm_c71.all (fun r => av_chk sm_Ts sm_cl sm_fT sm_aT sm_ao sm_mt sm_m71 r.1 r.2) = true := by decide +kernel
theorem sm_ok72 : sm_c72.all (fun r => av_chk sm_Ts sm_cl sm_fT sm_aT sm_ao sm_mt sm_m72 r.1 r.2) = true := by decide +kernel
theorem sm_ok73 : sm_c73.all (fun r => av_chk sm_Ts sm_cl sm_fT sm_aT sm_ao sm_mt sm_m73 r.1 r.2) = true := by decide +kernel
theorem sm_ok74 : sm_c74.all (fun r => av_chk sm_Ts sm_cl sm_fT sm_aT sm_ao sm_mt sm_m74 r.1 r.2) = true := by decide +kernel
theorem sm_ok75 : sm_c75.all (fun r => av_chk sm_Ts sm_cl sm_fT sm_aT sm_ao sm_mt sm_m75 r.1 r.2) = true := by decide +kernel
theorem sm_ok76 : sm_c76.all (fun r => av_chk sm_Ts sm_cl sm_fT sm_aT sm_ao sm_mt sm_m76 r.1 r.2) = true := by decide +kernel
theorem sm_ok77 : sm_c77.all (fun r => av_chk sm_Ts sm_cl sm_fT sm_aT sm_ao sm_mt sm_m77 r.1 r.2) = true := by decide +kernel
theorem sm_ok78 : sm_c78.all (fun r => av_chk sm_Ts sm_cl sm_fT sm_aT sm_ao sm_mt sm_m78 r.1 r.2) = true := by decide +kernel
theorem sm_ok79 : sm_c79.all (fun r => av_chk sm_Ts sm_cl sm_fT sm_aT sm_ao sm_mt sm_m79 r.1 r.2) = true := by decide +kernel
theorem sm_ok80 : sm_c80.all (fun r => av_chk sm_Ts sm_cl sm_fT sm_aT sm_ao sm_mt sm_m80 r.1 r.2) = true := by decide +kernel
theorem sm_ok81 : sm_c81.all (fun r => av_chk sm_Ts sm_cl sm_fT sm_aT sm_ao sm_mt sm_m81 r.1 r.2) = true := by decide +kernel
theorem sm_ok82 : sm_c82.all (fun r => av_chk sm_Ts sm_cl sm_fT sm_aT sm_ao sm_mt sm_m82 r.1 r.2) = true := by decide +kernel
theorem sm_ok83 : sm_c83.all (fun r => av_chk sm_Ts sm_cl sm_fT sm_aT sm_ao sm_mt sm_m83 r.1 r.2) = true := by decide +kernel
end
section
theorem sm_ok84 : sm_c84.all (fun r => av_chk sm_Ts sm_cl sm_fT sm_aT sm_ao sm_mt sm_m84 r.1 r.2) = true := by decide +kernel
theorem sm_ok85 : sm_c85.all (fun r => av_chk sm_Ts sm_cl sm_fT sm_aT sm_ao sm_mt sm_m85 r.1 r.2) = true := by decide +kernel
theorem sm_ok86 : sm_c86.all (fun r => av_chk sm_Ts sm_cl sm_fT sm_aT sm_ao sm_mt sm_m86 r.1 r.2) = true := by decide +kernel
theorem sm_ok87 : sm_c87.all (fun r => av_chk sm_Ts sm_cl sm_fT sm_aT sm_ao sm_mt sm_m87 r.1 r.2) = true := by decide +kernel
theorem sm_ok88 : sm_c88.all (fun r => av_chk sm_Ts sm_cl sm_fT sm_aT sm_ao sm_mt sm_m88 r.1 r.2) = true := by decide +kernel
theorem sm_ok89 : sm_c89.all (fun r => av_chk sm_Ts sm_cl sm_fT sm_aT sm_ao sm_mt sm_m89 r.1 r.2) = true := by decide +kernel
theorem sm_ok90 : sm_c90.all (fun r => av_chk sm_Ts sm_cl sm_fT sm_aT sm_ao sm_mt sm_m90 r.1 r.2) = true := by decide +kernel
theorem sm_ok91 : sm_c91.all (fun r => av_chk sm_Ts sm_cl sm_fT sm_aT sm_ao sm_mt sm_m91 r.1 r.2) = true := by decide +kernel
theorem sm_ok92 : sm_c92.all (fun r => av_chk sm_Ts sm_cl sm_fT sm_aT sm_ao sm_mt sm_m92 r.1 r.2) = true := by decide +kernel
theorem sm_ok93 : sm_c93.all (fun r => av_chk sm_Ts sm_cl sm_fT sm_aT sm_ao sm_mt sm_m93 r.1 r.2) = true := by decide +kernel
theorem sm_ok94 : sm_c94.all (fun r => av_chk sm_Ts sm_cl sm_fT sm_aT sm_ao sm_mt sm_m94 r.1 r.2) = true := by decide +kernel
theorem sm_ok95 : sm_c95.all (fun r => av_chk sm_Ts sm_cl sm_fT sm_aT sm_ao sm_mt sm_m95 r.1 r.2) = true := by decide +kernel
theorem sm_ok96 : sm_c96.all (fun r => av_chk sm_Ts sm_cl sm_fT sm_aT sm_ao sm_mt sm_m96 r.1 r.2) = true := by decide +kernel
theorem sm_ok97 : sm_c97.all (fun r => av_chk sm_Ts sm_cl sm_fT sm_aT sm_ao sm_mt sm_m97 r.1 r.2) = true := by decide +kernel
end
section
theorem sm_ok98_0 : sm_c98_0.all (fun r => av_chk sm_Ts sm_cl sm_fT sm_aT sm_ao sm_mt sm_m98 r.1 r.2) = true := by decide +kernel
end
section
theorem sm_ok98_1 : sm_c98_1.all (fun r => av_chk sm_Ts sm_cl sm_fT sm_aT sm_ao sm_mt sm_m98 r.1 r.2) = true := by decide +kernel
end
section
theorem sm_ok98_2 : sm_c98_2.all (fun r => av_chk sm_Ts sm_cl sm_fT sm_aT sm_ao sm_mt sm_m98 r.1 r.2) = true := by decide +kernel
end
section
theorem sm_ok98_3 : sm_c98_3.all (fun r => av_chk sm_Ts sm_cl sm_fT sm_aT sm_ao sm_mt sm_m98 r.1 r.2) = true := by decide +kernel
end
section
theorem sm_ok98_4 : sm_c98_4.all (fun r => av_chk sm_Ts sm_cl sm_fT sm_aT sm_ao sm_mt sm_m98 r.1 r.2) = true := by decide +kernel
end
section
theorem sm_ok98_5 : sm_c98_5.all (fun r => av_chk sm_Ts sm_cl sm_fT sm_aT sm_ao sm_mt sm_m98 r.1 r.2) = true := by decide +kernel
end
section
theorem sm_ok98_6 : sm_c98_6.all (fun r => av_chk sm_Ts sm_cl sm_fT sm_aT sm_ao sm_mt sm_m98 r.1 r.2) = true := by decide +kernel
end
section
theorem sm_ok98_7 : sm_c98_7.all (fun r => av_chk sm_Ts sm_cl sm_fT sm_aT sm_ao sm_mt sm_m98 r.1 r.2) = true := by decide +kernel
end
section
theorem sm_ok98_8 : sm_c98_8.all (fun r => av_chk sm_Ts sm_cl sm_fT sm_aT sm_ao sm_mt sm_m98 r.1 r.2) = true := by decide +kernel
end
section
theorem sm_ok98_9 : sm_c98_9.all (fun r => av_chk sm_Ts sm_cl sm_fT sm_aT sm_ao sm_mt sm_m98 r.1 r.2) = true := by decide +kernel
end
section
theorem sm_ok98 : sm_c98.all (fun r => av_chk sm_Ts sm_cl sm_fT sm_aT sm_ao sm_mt sm_m98 r.1 r.2) = true := by
  unfold sm_c98
  simp only [List.all_append, sm_ok98_0, sm_ok98_1, sm_ok98_2, sm_ok98_3, sm_ok98_4, sm_ok98_5, sm_ok98_6, sm_ok98_7, sm_ok98_8, sm_ok98_9, Bool.and_self]
theorem sm_find_mem : ∀ (l : List (Nat × av_I)) (pc : Nat) (I : av_I), sm_find l pc = some I → (pc, I) ∈ l
  | [], pc, I, h => by cases h
  | (k, i) :: l, pc, I, h => by
    unfold sm_find at h
    split at h
    · rename_i e
      subst e
      cases h
      exact List.mem_cons_self
    · exact List.mem_cons_of_mem _ (sm_find_mem l pc I h)
theorem sm_each (y : Nat) (M : av_Mt) (h : sm_mt y = some M) : ∃ l, M.2.2.2.2 = sm_find l ∧ l.all (fun r => av_chk sm_Ts sm_cl sm_fT sm_aT sm_ao sm_mt M r.1 r.2) = true := by
  match y, h with
  | 0, h => cases h; exact ⟨sm_c0, rfl, sm_ok0⟩
  | 1, h => cases h; exact ⟨sm_c1, rfl, sm_ok1⟩
  | 2, h => cases h; exact ⟨sm_c2, rfl, sm_ok2⟩
  | 3, h => cases h; exact ⟨sm_c3, rfl, sm_ok3⟩
  | 4, h => cases h; exact ⟨sm_c4, rfl, sm_ok4⟩
  | 5, h => cases h; exact ⟨sm_c5, rfl, sm_ok5⟩
  | 6, h => cases h; exact ⟨sm_c6, rfl, sm_ok6⟩
  | 7, h => cases h; exact ⟨sm_c7, rfl, sm_ok7⟩
  | 8, h => cases h; exact ⟨sm_c8, rfl, sm_ok8⟩
  | 9, h => cases h; exact ⟨sm_c9, rfl, sm_ok9⟩
  | 10, h => cases h; exact ⟨sm_c10, rfl, sm_ok10⟩
  | 11, h => cases h; exact ⟨sm_c11, rfl, sm_ok11⟩
  | 12, h => cases h; exact ⟨sm_c12, rfl, sm_ok12⟩
  | 13, h => cases h; exact ⟨sm_c13, rfl, sm_ok13⟩
  | 14, h => cases h; exact ⟨sm_c14, rfl, sm_ok14⟩
  | 15, h => cases h; exact ⟨sm_c15, rfl, sm_ok15⟩
  | 16, h => cases h; exact ⟨sm_c16, rfl, sm_ok16⟩
  | 17, h => cases h; exact ⟨sm_c17, rfl, sm_ok17⟩
  | 18, h => cases h; exact ⟨sm_c18, rfl, sm_ok18⟩
  | 19, h => cases h; exact ⟨sm_c19, rfl, sm_ok19⟩
  | 20, h => cases h; exact ⟨sm_c20, rfl, sm_ok20⟩
  | 21, h => cases h; exact ⟨sm_c21, rfl, sm_ok21⟩
  | 22, h => cases h; exact ⟨sm_c22, rfl, sm_ok22⟩
  | 23, h => cases h; exact ⟨sm_c23, rfl, sm_ok23⟩
  | 24, h => cases h; exact ⟨sm_c24, rfl, sm_ok24⟩
  | 25, h => cases h; exact ⟨sm_c25, rfl, sm_ok25⟩
  | 26, h => cases h; exact ⟨sm_c26, rfl, sm_ok26⟩
  | 27, h => cases h; exact ⟨sm_c27, rfl, sm_ok27⟩
  | 28, h => cases h; exact ⟨sm_c28, rfl, sm_ok28⟩
  | 29, h => cases h; exact ⟨sm_c29, rfl, sm_ok29⟩
  | 30, h => cases h; exact ⟨sm_c30, rfl, sm_ok30⟩
  | 31, h => cases h; exact ⟨sm_c31, rfl, sm_ok31⟩
  | 32, h => cases h; exact ⟨sm_c32, rfl, sm_ok32⟩
  | 33, h => cases h; exact ⟨sm_c33, rfl, sm_ok33⟩
  | 34, h => cases h; exact ⟨sm_c34, rfl, sm_ok34⟩
  | 35, h => cases h; exact ⟨sm_c35, rfl, sm_ok35⟩
  | 36, h => cases h; exact ⟨sm_c36, rfl, sm_ok36⟩
  | 37, h => cases h; exact ⟨sm_c37, rfl, sm_ok37⟩
  | 38, h => cases h; exact ⟨sm_c38, rfl, sm_ok38⟩
  | 39, h => cases h; exact ⟨sm_c39, rfl, sm_ok39⟩
  | 40, h => cases h; exact ⟨sm_c40, rfl, sm_ok40⟩
  | 41, h => cases h; exact ⟨sm_c41, rfl, sm_ok41⟩
  | 42, h => cases h; exact ⟨sm_c42, rfl, sm_ok42⟩
  | 43, h => cases h; exact ⟨sm_c43, rfl, sm_ok43⟩
  | 44, h => cases h; exact ⟨sm_c44, rfl, sm_ok44⟩
  | 45, h => cases h; exact ⟨sm_c45, rfl, sm_ok45⟩
  | 46, h => cases h; exact ⟨sm_c46, rfl, sm_ok46⟩
  | 47, h => cases h; exact ⟨sm_c47, rfl, sm_ok47⟩
  | 48, h => cases h; exact ⟨sm_c48, rfl, sm_ok48⟩
  | 49, h => cases h; exact ⟨sm_c49, rfl, sm_ok49⟩
  | 50, h => cases h; exact ⟨sm_c50, rfl, sm_ok50⟩
  | 51, h => cases h; exact ⟨sm_c51, rfl, sm_ok51⟩
  | 52, h => cases h; exact ⟨sm_c52, rfl, sm_ok52⟩
  | 53, h => cases h; exact ⟨sm_c53, rfl, sm_ok53⟩
  | 54, h => cases h; exact ⟨sm_c54, rfl, sm_ok54⟩
  | 55, h => cases h; exact ⟨sm_c55, rfl, sm_ok55⟩
  | 56, h => cases h; exact ⟨sm_c56, rfl, sm_ok56⟩
  | 57, h => cases h; exact ⟨sm_c57, rfl, sm_ok57⟩
  | 58, h => cases h; exact ⟨sm_c58, rfl, sm_ok58⟩
  | 59, h => cases h; exact ⟨sm_c59, rfl, sm_ok59⟩
  | 60, h => cases h; exact ⟨sm_c60, rfl, sm_ok60⟩
  | 61, h => cases h; exact ⟨sm_c61, rfl, sm_ok61⟩
  | 62, h => cases h; exact ⟨sm_c62, rfl, sm_ok62⟩
  | 63, h => cases h; exact ⟨sm_c63, rfl, sm_ok63⟩
  | 64, h => cases h; exact ⟨sm_c64, rfl, sm_ok64⟩
  | 65, h => cases h; exact ⟨sm_c65, rfl, sm_ok65⟩
  | 66, h => cases h; exact ⟨sm_c66, rfl, sm_ok66⟩
  | 67, h => cases h; exact ⟨sm_c67, rfl, sm_ok67⟩
  | 68, h => cases h; exact ⟨sm_c68, rfl, sm_ok68⟩
  | 69, h => cases h; exact ⟨sm_c69, rfl, sm_ok69⟩
  | 70, h => cases h; exact ⟨sm_c70, rfl, sm_ok70⟩
  | 71, h => cases h; exact ⟨sm_c71, rfl, sm_ok71⟩
  | 72, h => cases h; exact ⟨sm_c72, rfl, sm_ok72⟩
  | 73, h => cases h; exact ⟨sm_c73, rfl, sm_ok73⟩
  | 74, h => cases h; exact ⟨sm_c74, rfl, sm_ok74⟩
  | 75, h => cases h; exact ⟨sm_c75, rfl, sm_ok75⟩
  | 76, h => cases h; exact ⟨sm_c76, rfl, sm_ok76⟩
  | 77, h => cases h; exact ⟨sm_c77, rfl, sm_ok77⟩
  | 78, h => cases h; exact ⟨sm_c78, rfl, sm_ok78⟩
  | 79, h => cases h; exact ⟨sm_c79, rfl, sm_ok79⟩
  | 80, h => cases h; exact ⟨sm_c80, rfl, sm_ok80⟩
  | 81, h => cases h; exact ⟨sm_c81, rfl, sm_ok81⟩
  | 82, h => cases h; exact ⟨sm_c82, rfl, sm_ok82⟩
  | 83, h => cases h; exact ⟨sm_c83, rfl, sm_ok83⟩
  | 84, h => cases h; exact ⟨sm_c84, rfl, sm_ok84⟩
  | 85, h => cases h; exact ⟨sm_c85, rfl, sm_ok85⟩
  | 86, h => cases h; exact ⟨sm_c86, rfl, sm_ok86⟩
  | 87, h => cases h; exact ⟨sm_c87, rfl, sm_ok87⟩
  | 88, h => cases h; exact ⟨sm_c88, rfl, sm_ok88⟩
  | 89, h => cases h; exact ⟨sm_c89, rfl, sm_ok89⟩
  | 90, h => cases h; exact ⟨sm_c90, rfl, sm_ok90⟩
  | 91, h => cases h; exact ⟨sm_c91, rfl, sm_ok91⟩
  | 92, h => cases h; exact ⟨sm_c92, rfl, sm_ok92⟩
  | 93, h => cases h; exact ⟨sm_c93, rfl, sm_ok93⟩
  | 94, h => cases h; exact ⟨sm_c94, rfl, sm_ok94⟩
  | 95, h => cases h; exact ⟨sm_c95, rfl, sm_ok95⟩
  | 96, h => cases h; exact ⟨sm_c96, rfl, sm_ok96⟩
  | 97, h => cases h; exact ⟨sm_c97, rfl, sm_ok97⟩
  | 98, h => cases h; exact ⟨sm_c98, rfl, sm_ok98⟩
  | n + 99, h => cases h
theorem sm_all (y : Nat) (M : av_Mt) (pc : Nat) (I : av_I) (h : sm_mt y = some M) (hI : M.2.2.2.2 pc = some I) : av_chk sm_Ts sm_cl sm_fT sm_aT sm_ao sm_mt M pc I = true := by
  obtain ⟨l, h1, h2⟩ := sm_each y M h
  rw [h1] at hI
  exact List.all_eq_true.mp h2 (pc, I) (sm_find_mem l pc I hI)
theorem sm_good : ∀ w ∈ sm_Ts, goodWord w = true := fun w h => (List.mem_filter.mp h).2
theorem sm_ts {args : Array Value} {s : State} (h : ∀ w ∈ lw_tbl, w.before args s = true) : ∀ w ∈ sm_Ts, w.before args s = true := fun w hw => h w (List.mem_filter.mp hw).1
theorem sm_u0 : (u_ws "StructureMap" sm_T0 11).all (fun w => decide (w ∈ sm_Ts)) = true := by decide +kernel
theorem sm_p0 : ∀ k, k < 11 → parseFieldDescriptor (sm_T0 k).2.2.1 = some (sm_t0 k) := by decide +kernel
theorem sm_n0 : ∀ a, a < 11 → ∀ b, b < 11 → a ≠ b → (sm_T0 a).2.1 ≠ (sm_T0 b).2.1 := by decide +kernel
theorem sm_u1 : (u_ws "StructureMap$Search" sm_T1 3).all (fun w => decide (w ∈ sm_Ts)) = true := by decide +kernel
theorem sm_p1 : ∀ k, k < 3 → parseFieldDescriptor (sm_T1 k).2.2.1 = some (sm_t1 k) := by decide +kernel
theorem sm_n1 : ∀ a, a < 3 → ∀ b, b < 3 → a ≠ b → (sm_T1 a).2.1 ≠ (sm_T1 b).2.1 := by decide +kernel
theorem sm_u2 : (u_ws "StructureMap$Reading" sm_T2 6).all (fun w => decide (w ∈ sm_Ts)) = true := by decide +kernel
theorem sm_p2 : ∀ k, k < 6 → parseFieldDescriptor (sm_T2 k).2.2.1 = some (sm_t2 k) := by decide +kernel
theorem sm_n2 : ∀ a, a < 6 → ∀ b, b < 6 → a ≠ b → (sm_T2 a).2.1 ≠ (sm_T2 b).2.1 := by decide +kernel
theorem sm_u3 : (u_ws "StructureMap$Steps" sm_T3 3).all (fun w => decide (w ∈ sm_Ts)) = true := by decide +kernel
theorem sm_p3 : ∀ k, k < 3 → parseFieldDescriptor (sm_T3 k).2.2.1 = some (sm_t3 k) := by decide +kernel
theorem sm_n3 : ∀ a, a < 3 → ∀ b, b < 3 → a ≠ b → (sm_T3 a).2.1 ≠ (sm_T3 b).2.1 := by decide +kernel
theorem sm_u4 : (u_ws "StructureMap$Faults" sm_T4 3).all (fun w => decide (w ∈ sm_Ts)) = true := by decide +kernel
theorem sm_p4 : ∀ k, k < 3 → parseFieldDescriptor (sm_T4 k).2.2.1 = some (sm_t4 k) := by decide +kernel
theorem sm_n4 : ∀ a, a < 3 → ∀ b, b < 3 → a ≠ b → (sm_T4 a).2.1 ≠ (sm_T4 b).2.1 := by decide +kernel
theorem sm_u5 : (u_ws "StructureMap$Signs" sm_T5 2).all (fun w => decide (w ∈ sm_Ts)) = true := by decide +kernel
theorem sm_p5 : ∀ k, k < 2 → parseFieldDescriptor (sm_T5 k).2.2.1 = some (sm_t5 k) := by decide +kernel
theorem sm_n5 : ∀ a, a < 2 → ∀ b, b < 2 → a ≠ b → (sm_T5 a).2.1 ≠ (sm_T5 b).2.1 := by decide +kernel
theorem sm_u6 : (u_ws "StructureMap$SizedFile" sm_T6 3).all (fun w => decide (w ∈ sm_Ts)) = true := by decide +kernel
theorem sm_p6 : ∀ k, k < 3 → parseFieldDescriptor (sm_T6 k).2.2.1 = some (sm_t6 k) := by decide +kernel
theorem sm_n6 : ∀ a, a < 3 → ∀ b, b < 3 → a ≠ b → (sm_T6 a).2.1 ≠ (sm_T6 b).2.1 := by decide +kernel
theorem sm_u7 : (u_ws "StructureMap$Tree" sm_T7 2).all (fun w => decide (w ∈ sm_Ts)) = true := by decide +kernel
theorem sm_p7 : ∀ k, k < 2 → parseFieldDescriptor (sm_T7 k).2.2.1 = some (sm_t7 k) := by decide +kernel
theorem sm_n7 : ∀ a, a < 2 → ∀ b, b < 2 → a ≠ b → (sm_T7 a).2.1 ≠ (sm_T7 b).2.1 := by decide +kernel
theorem sm_u8 : (u_ws "StructureMap$Division" sm_T8 10).all (fun w => decide (w ∈ sm_Ts)) = true := by decide +kernel
theorem sm_p8 : ∀ k, k < 10 → parseFieldDescriptor (sm_T8 k).2.2.1 = some (sm_t8 k) := by decide +kernel
theorem sm_n8 : ∀ a, a < 10 → ∀ b, b < 10 → a ≠ b → (sm_T8 a).2.1 ≠ (sm_T8 b).2.1 := by decide +kernel
theorem sm_u9 : (u_ws "StructureMap$Link" sm_T9 5).all (fun w => decide (w ∈ sm_Ts)) = true := by decide +kernel
theorem sm_p9 : ∀ k, k < 5 → parseFieldDescriptor (sm_T9 k).2.2.1 = some (sm_t9 k) := by decide +kernel
theorem sm_n9 : ∀ a, a < 5 → ∀ b, b < 5 → a ≠ b → (sm_T9 a).2.1 ≠ (sm_T9 b).2.1 := by decide +kernel
theorem sm_u10 : (u_ws "StructureMapModel" sm_T10 34).all (fun w => decide (w ∈ sm_Ts)) = true := by decide +kernel
theorem sm_p10 : ∀ k, k < 34 → parseFieldDescriptor (sm_T10 k).2.2.1 = some (sm_t10 k) := by decide +kernel
theorem sm_n10 : ∀ a, a < 34 → ∀ b, b < 34 → a ≠ b → (sm_T10 a).2.1 ≠ (sm_T10 b).2.1 := by decide +kernel
theorem sm_tk : av_Tk sm_Ts sm_cl sm_fT sm_fN := by
  intro ci q h
  match ci, h with
  | 0, h => cases h; exact ⟨fun w hw => of_decide_eq_true (List.all_eq_true.mp sm_u0 w hw), sm_p0, sm_n0, rfl⟩
  | 1, h => cases h; exact ⟨fun w hw => of_decide_eq_true (List.all_eq_true.mp sm_u1 w hw), sm_p1, sm_n1, rfl⟩
  | 2, h => cases h; exact ⟨fun w hw => of_decide_eq_true (List.all_eq_true.mp sm_u2 w hw), sm_p2, sm_n2, rfl⟩
  | 3, h => cases h; exact ⟨fun w hw => of_decide_eq_true (List.all_eq_true.mp sm_u3 w hw), sm_p3, sm_n3, rfl⟩
  | 4, h => cases h; exact ⟨fun w hw => of_decide_eq_true (List.all_eq_true.mp sm_u4 w hw), sm_p4, sm_n4, rfl⟩
  | 5, h => cases h; exact ⟨fun w hw => of_decide_eq_true (List.all_eq_true.mp sm_u5 w hw), sm_p5, sm_n5, rfl⟩
  | 6, h => cases h; exact ⟨fun w hw => of_decide_eq_true (List.all_eq_true.mp sm_u6 w hw), sm_p6, sm_n6, rfl⟩
  | 7, h => cases h; exact ⟨fun w hw => of_decide_eq_true (List.all_eq_true.mp sm_u7 w hw), sm_p7, sm_n7, rfl⟩
  | 8, h => cases h; exact ⟨fun w hw => of_decide_eq_true (List.all_eq_true.mp sm_u8 w hw), sm_p8, sm_n8, rfl⟩
  | 9, h => cases h; exact ⟨fun w hw => of_decide_eq_true (List.all_eq_true.mp sm_u9 w hw), sm_p9, sm_n9, rfl⟩
  | 10, h => cases h; exact ⟨fun w hw => of_decide_eq_true (List.all_eq_true.mp sm_u10 w hw), sm_p10, sm_n10, rfl⟩
  | n + 11, h => cases h
end
section
/-! WALKING THE SMALL MACHINE: 'from here it comes to its end with Q' -/
def sm_at (y pc : Nat) : Option av_I := match sm_mt y with
  | some M => M.2.2.2.2 pc
  | none => none
def sm_rt (y : Nat) : Option FieldType := match sm_mt y with
  | some M => M.2.2.2.1
  | none => none
def sm_ml (y : Nat) : Nat := match sm_mt y with
  | some M => M.2.2.1
  | none => 0
abbrev av_X : Type := List Value → av_St → Option (Option Value × av_St)
abbrev sm_run (ext : av_X) := av_run sm_fT sm_fN sm_aT ext sm_mt
def aw (ext : av_X) (d y pc : Nat) (L : av_Ls) (K : List Value) (S : av_St) (Q : Option Value → av_St → Prop) : Prop := ∃ (n : Nat) (r : Option Value) (S' : av_St), sm_run ext n d y pc L K S = some (r, S') ∧ Q r S'
/-- a method's contract -/
def ct (ext : av_X) (d y : Nat) (as : List Value) (S : av_St) (Q : Option Value → av_St → Prop) : Prop := aw ext d y 0 (av_ent as (sm_ml y)) [] S Q
section AW
variable {fT : Nat → Nat → FieldType} {fN : Nat → Nat} {aT : Nat → FieldType} {mt : Nat → Option av_Mt} {ext : av_X}
theorem av_run_mono : ∀ (n m d e y pc : Nat) (L : av_Ls) (K : List Value) (S : av_St) (x : Option Value × av_St), n ≤ m → d ≤ e → av_run fT fN aT ext mt n d y pc L K S = some x → av_run fT fN aT ext mt m e y pc L K S = some x
  | 0, m, d, e, y, pc, L, K, S, x, _, _, h => by cases h
  | n + 1, 0, d, e, y, pc, L, K, S, x, h0, _, h => by omega
  | n + 1, m + 1, d, e, y, pc, L, K, S, x, h0, h1, h => by
    have h0' : n ≤ m := by omega
    unfold av_run at h ⊢
    split at h
    · cases h
    · split at h
      · cases h
      · split at h
        · split at h
          · rename_i d' N hN
            obtain ⟨e', rfl⟩ : ∃ e', e = e' + 1 := ⟨e - 1, by omega⟩
            split at h
            · split at h
              · cases h
              · rename_i hc v S1 hr
                simp only [hN]
                rw [if_pos hc, av_run_mono n m d' e' _ _ _ _ _ _ h0' (by omega) hr]
                exact av_run_mono n m _ _ _ _ _ _ _ _ h0' h1 h
            · cases h
          · cases h
        · split at h
          · rename_i d' a K'
            obtain ⟨e', rfl⟩ : ∃ e', e = e' + 1 := ⟨e - 1, by omega⟩
            split at h
            · rename_i hc
              simp only []
              rw [if_pos hc]
              exact av_run_mono n m _ _ _ _ _ _ _ _ h0' h1 h
            · cases h
          · cases h
        · split at h
          · rename_i d'
            obtain ⟨e', rfl⟩ : ∃ e', e = e' + 1 := ⟨e - 1, by omega⟩
            split at h
            · rename_i hc
              split at h
              · cases h
              · rename_i v S1 hr
                split at h
                · rename_i hz
                  simp only []
                  rw [if_pos ⟨by have := hc.1; omega, hc.2⟩, hr]
                  simp only []
                  rw [if_pos hz]
                  exact av_run_mono n m _ _ _ _ _ _ _ _ h0' h1 h
                · cases h
            · cases h
          · cases h
        · exact h
        · exact h
        · split at h
          · cases h
          · rename_i hs
            simp only [hs]
            exact av_run_mono n m _ _ _ _ _ _ _ _ h0' h1 h
end AW
section AW2
variable {ext : av_X} {d y pc : Nat} {L : av_Ls} {K : List Value} {S : av_St} {Q : Option Value → av_St → Prop}
theorem aw.mono {e : Nat} (h : aw ext d y pc L K S Q) (hd : d ≤ e) : aw ext e y pc L K S Q := by
  obtain ⟨n, r, S', h1, h2⟩ := h
  exact ⟨n, r, S', av_run_mono n n d e y pc L K S _ (Nat.le_refl _) hd h1, h2⟩
theorem aw.post {Q' : Option Value → av_St → Prop} (h : aw ext d y pc L K S Q) (hq : ∀ r S', Q r S' → Q' r S') : aw ext d y pc L K S Q' := by
  obtain ⟨n, r, S', h1, h2⟩ := h
  exact ⟨n, r, S', h1, hq r S' h2⟩
theorem ct.mono {e : Nat} {as : List Value} (h : ct ext d y as S Q) (hd : d ≤ e) : ct ext e y as S Q := aw.mono h hd
theorem ct.post {as : List Value} {Q' : Option Value → av_St → Prop} (h : ct ext d y as S Q) (hq : ∀ r S', Q r S' → Q' r S') : ct ext d y as S Q' := aw.post h hq
theorem sm_at_some {I : av_I} (h : sm_at y pc = some I) : ∃ M, sm_mt y = some M ∧ M.2.2.2.2 pc = some I ∧ sm_rt y = M.2.2.2.1 ∧ sm_ml y = M.2.2.1 := by
  unfold sm_at at h
  cases hm : sm_mt y with
  | none => rw [hm] at h; cases h
  | some M => rw [hm] at h; exact ⟨M, rfl, h, by unfold sm_rt; rw [hm], by unfold sm_ml; rw [hm]⟩
theorem aw_step {I : av_I} {pc' : Nat} {L' : av_Ls} {K' : List Value} {S' : av_St} (j : sm_at y pc = some I) (hop : I.1 < 40) (h : av_step sm_fT sm_fN sm_aT I pc L K S = some (pc', L', K', S')) (k : aw ext d y pc' L' K' S' Q) : aw ext d y pc L K S Q := by
  obtain ⟨M, h1, h2, -, -⟩ := sm_at_some j
  obtain ⟨n, r, S1, h3, h4⟩ := k
  refine ⟨n + 1, r, S1, ?_, h4⟩
  unfold sm_run av_run
  rw [h1]
  simp only [h2]
  split
  · rename_i e; omega
  · rename_i e; omega
  · rename_i e; omega
  · rename_i e; omega
  · rename_i e; omega
  · rw [h]
    exact h3
theorem aw_call {ln y' na : Nat} {v0 : Int32} {q : List Nat} {as rest : List Value} {Qc : Option Value → av_St → Prop} (j : sm_at y pc = some (40, ln, y', na, v0, q)) (hK : K = as.reverse ++ rest) (hna : as.length = na) (hr : rest.length ≤ 4) (hm : na ≤ sm_ml y') (hy : sm_mt y' ≠ none) (hc : ∀ v ∈ as, v.category = 1) (hv : av_rcv q S as = true) (h : ct ext d y' as S Qc) (k : ∀ r S1, Qc r S1 → aw ext (d + 1) y (pc + 3) L (r.toList ++ rest) S1 Q) : aw ext (d + 1) y pc L K S Q := by
  obtain ⟨M, h1, h2, -, -⟩ := sm_at_some j
  obtain ⟨n1, r1, S1, h3, h4⟩ := h
  obtain ⟨n2, r, S2, h5, h6⟩ := k r1 S1 h4
  cases hN : sm_mt y' with
  | none => exact absurd hN hy
  | some N =>
  have hml : sm_ml y' = N.2.2.1 := by unfold sm_ml; rw [hN]
  refine ⟨max n1 n2 + 1, r, S2, ?_, h6⟩
  subst hK
  have hrl : as.reverse.length = na := by rw [List.length_reverse]; exact hna
  have ht : (as.reverse ++ rest).take na = as.reverse := by rw [← hrl]; exact List.take_left' rfl
  have hdr : (as.reverse ++ rest).drop na = rest := by rw [← hrl]; exact List.drop_left' rfl
  unfold sm_run av_run
  rw [h1]
  simp only [h2, hN, ht, hdr, List.reverse_reverse]
  rw [if_pos ⟨by rw [List.length_append, hrl]; omega, by rw [List.length_append, hrl]; omega, by rw [← hml]; exact hm, fun v hv => hc v (List.mem_reverse.mp hv), hv⟩]
  rw [hml] at h3
  rw [av_run_mono n1 (max n1 n2) d d _ _ _ _ _ _ (Nat.le_max_left _ _) (Nat.le_refl _) h3]
  exact av_run_mono n2 (max n1 n2) _ _ _ _ _ _ _ _ (Nat.le_max_right _ _) (Nat.le_refl _) h5
theorem aw_ext {ln a na : Nat} {v0 : Int32} {q : List Nat} {as rest : List Value} {r1 : Option Value} {S1 : av_St} (j : sm_at y pc = some (45, ln, a, na, v0, q)) (hK : K = as.reverse ++ rest) (hna : as.length = na) (hr : rest.length ≤ 4) (hd : 8 ≤ d) (h : ext as S = some (r1, S1)) (hz : S.2.2.1 ≤ S1.2.2.1 ∧ S.2.2.2 ≤ S1.2.2.2) (k : aw ext (d + 1) y (pc + 3) L (r1.toList ++ rest) S1 Q) : aw ext (d + 1) y pc L K S Q := by
  obtain ⟨M, h1, h2, -, -⟩ := sm_at_some j
  obtain ⟨n2, r, S2, h5, h6⟩ := k
  refine ⟨n2 + 1, r, S2, ?_, h6⟩
  subst hK
  have hrl : as.reverse.length = na := by rw [List.length_reverse]; exact hna
  have ht : (as.reverse ++ rest).take na = as.reverse := by rw [← hrl]; exact List.take_left' rfl
  have hdr : (as.reverse ++ rest).drop na = rest := by rw [← hrl]; exact List.drop_left' rfl
  unfold sm_run av_run
  rw [h1]
  simp only [h2, ht, hdr, List.reverse_reverse]
  rw [if_pos ⟨hd, by rw [List.length_append, hrl]; omega, by rw [List.length_append, hrl]; omega⟩, h]
  simp only []
  rw [if_pos hz]
  exact h5
theorem aw_obj {ln a b : Nat} {v0 : Int32} {q : List Nat} {o : Nat} {rest : List Value} (j : sm_at y pc = some (41, ln, a, b, v0, q)) (hr : rest.length ≤ 4) (k : aw ext (d + 1) y (pc + 3) L rest S Q) : aw ext (d + 1) y pc L (.ref o :: rest) S Q := by
  obtain ⟨M, h1, h2, -, -⟩ := sm_at_some j
  obtain ⟨n2, r, S2, h5, h6⟩ := k
  refine ⟨n2 + 1, r, S2, ?_, h6⟩
  unfold sm_run av_run
  rw [h1]
  simp only [h2]
  rw [if_pos hr]
  exact h5
theorem aw_vret {ln a b : Nat} {v0 : Int32} {q : List Nat} (j : sm_at y pc = some (42, ln, a, b, v0, q)) (hr : sm_rt y = none) (k : Q none S) : aw ext d y pc L [] S Q := by
  obtain ⟨M, h1, h2, h3, -⟩ := sm_at_some j
  refine ⟨1, none, S, ?_, k⟩
  unfold sm_run av_run
  rw [h1]
  simp only [h2]
  rw [if_pos (h3.symm.trans hr)]
theorem aw_ret {ln a b : Nat} {v0 : Int32} {q : List Nat} {v : Value} (j : sm_at y pc = some (43, ln, a, b, v0, q)) (hr : av_rok (sm_rt y) v = true) (k : Q (some v) S) : aw ext d y pc L [v] S Q := by
  obtain ⟨M, h1, h2, h3, -⟩ := sm_at_some j
  refine ⟨1, some v, S, ?_, k⟩
  unfold sm_run av_run
  rw [h1]
  simp only [h2]
  rw [if_pos (by rw [← h3]; exact hr)]
theorem av_isR_rf (r : Option Nat) : av_isR (va_rf r) = true := by cases r <;> rfl
theorem av_cat_rf (r : Option Nat) : (va_rf r).category = 1 := by cases r <;> rfl
theorem av_fo_rf (C : String) (r : Option Nat) : av_fits (.object C) (va_rf r) = true := by cases r <;> rfl
theorem av_fa_rf (t : FieldType) (r : Option Nat) : av_fits (.array t) (va_rf r) = true := by cases r <;> rfl
theorem aw_ild {ln a b : Nat} {v0 x : Int32} {q : List Nat} (j : sm_at y pc = some (0, ln, a, b, v0, q)) (h : av_ld L a = some (.int x)) (k : aw ext d y (pc + ln) L (.int x :: K) S Q) : aw ext d y pc L K S Q :=
  aw_step j (by decide) (by simp only [av_step, h]) k
theorem aw_ald {ln a b : Nat} {v0 : Int32} {v : Value} {q : List Nat} (j : sm_at y pc = some (1, ln, a, b, v0, q)) (h : av_ld L a = some v) (hv : av_isR v = true) (k : aw ext d y (pc + ln) L (v :: K) S Q) : aw ext d y pc L K S Q :=
  aw_step j (by decide) (by simp only [av_step, h]; rw [if_pos hv]) k
theorem aw_ist {ln a b : Nat} {v0 x : Int32} {q : List Nat} (j : sm_at y pc = some (2, ln, a, b, v0, q)) (h : a < L.length) (k : aw ext d y (pc + ln) (L.set a (some (.int x))) K S Q) : aw ext d y pc L (.int x :: K) S Q :=
  aw_step j (by decide) (by simp only [av_step]; rw [if_pos h]) k
theorem aw_ast {ln a b : Nat} {v0 : Int32} {v : Value} {q : List Nat} (j : sm_at y pc = some (3, ln, a, b, v0, q)) (hv : av_isR v = true) (h : a < L.length) (k : aw ext d y (pc + ln) (L.set a (some v)) K S Q) : aw ext d y pc L (v :: K) S Q :=
  aw_step j (by decide) (by simp only [av_step]; rw [if_pos ⟨hv, h⟩]) k
theorem aw_con {ln a b : Nat} {v0 : Int32} {q : List Nat} (j : sm_at y pc = some (4, ln, a, b, v0, q)) (k : aw ext d y (pc + ln) L (.int v0 :: K) S Q) : aw ext d y pc L K S Q :=
  aw_step j (by decide) (by simp only [av_step]) k
theorem aw_nul {ln a b : Nat} {v0 : Int32} {q : List Nat} (j : sm_at y pc = some (5, ln, a, b, v0, q)) (k : aw ext d y (pc + ln) L (.null :: K) S Q) : aw ext d y pc L K S Q :=
  aw_step j (by decide) (by simp only [av_step]) k
theorem aw_inc {ln a b : Nat} {v0 x : Int32} {q : List Nat} (j : sm_at y pc = some (6, ln, a, b, v0, q)) (h : av_ld L a = some (.int x)) (k : aw ext d y (pc + ln) (L.set a (some (.int (x + v0)))) K S Q) : aw ext d y pc L K S Q :=
  aw_step j (by decide) (by simp only [av_step, h]) k
theorem aw_bin {ln a b : Nat} {v0 x1 x2 z : Int32} {q : List Nat} (j : sm_at y pc = some (7, ln, a, b, v0, q)) (h : av_bin a x1 x2 = some z) (k : aw ext d y (pc + ln) L (.int z :: K) S Q) : aw ext d y pc L (.int x2 :: .int x1 :: K) S Q :=
  aw_step j (by decide) (by simp only [av_step, h]) k
theorem aw_i2c {ln a b : Nat} {v0 x : Int32} {q : List Nat} (j : sm_at y pc = some (8, ln, a, b, v0, q)) (k : aw ext d y (pc + ln) L (.int (x.toUInt32 % 65536).toInt32 :: K) S Q) : aw ext d y pc L (.int x :: K) S Q :=
  aw_step j (by decide) (by simp only [av_step]) k
theorem aw_i2b {ln a b : Nat} {v0 x : Int32} {q : List Nat} (j : sm_at y pc = some (22, ln, a, b, v0, q)) (k : aw ext d y (pc + ln) L (.int x.toInt8.toInt32 :: K) S Q) : aw ext d y pc L (.int x :: K) S Q :=
  aw_step j (by decide) (by simp only [av_step]) k
theorem aw_i2l {ln a b : Nat} {v0 x : Int32} {q : List Nat} (j : sm_at y pc = some (23, ln, a, b, v0, q)) (k : aw ext d y (pc + ln) L (.long x.toInt64 :: K) S Q) : aw ext d y pc L (.int x :: K) S Q :=
  aw_step j (by decide) (by simp only [av_step]) k
theorem aw_lcmp {ln a b : Nat} {v0 : Int32} {x1 x2 : Int64} {q : List Nat} (j : sm_at y pc = some (24, ln, a, b, v0, q)) (k : aw ext d y (pc + ln) L (.int (lg_cmp x1 x2) :: K) S Q) : aw ext d y pc L (.long x2 :: .long x1 :: K) S Q :=
  aw_step j (by decide) (by simp only [av_step]) k
theorem aw_dup {ln a b : Nat} {v0 : Int32} {v : Value} {q : List Nat} (j : sm_at y pc = some (10, ln, a, b, v0, q)) (hv : v.category = 1) (k : aw ext d y (pc + ln) L (v :: v :: K) S Q) : aw ext d y pc L (v :: K) S Q :=
  aw_step j (by decide) (by simp only [av_step]; rw [if_pos hv]) k
theorem aw_pop {ln a b : Nat} {v0 : Int32} {v : Value} {q : List Nat} (j : sm_at y pc = some (11, ln, a, b, v0, q)) (hv : v.category = 1) (k : aw ext d y (pc + ln) L K S Q) : aw ext d y pc L (v :: K) S Q :=
  aw_step j (by decide) (by simp only [av_step]; rw [if_pos hv]) k
theorem aw_dup2 {ln a b : Nat} {v0 : Int32} {v w : Value} {q : List Nat} (j : sm_at y pc = some (13, ln, a, b, v0, q)) (hv : v.category = 1) (hw : w.category = 1) (k : aw ext d y (pc + ln) L (v :: w :: v :: w :: K) S Q) : aw ext d y pc L (v :: w :: K) S Q :=
  aw_step j (by decide) (by simp only [av_step]; rw [if_pos ⟨hv, hw⟩]) k
theorem aw_goto {ln a t : Nat} {v0 : Int32} {q : List Nat} (j : sm_at y pc = some (20, ln, a, t, v0, q)) (k : aw ext d y t L K S Q) : aw ext d y pc L K S Q :=
  aw_step j (by decide) (by simp only [av_step]) k
theorem aw_if {ln a t : Nat} {v0 x : Int32} {q : List Nat} (j : sm_at y pc = some (15, ln, a, t, v0, q)) (k1 : av_cmp a x 0 = true → aw ext d y t L K S Q) (k2 : av_cmp a x 0 = false → aw ext d y (pc + ln) L K S Q) : aw ext d y pc L (.int x :: K) S Q := by
  cases h : av_cmp a x 0 with
  | true => exact aw_step j (by decide) (by simp only [av_step, h]; rfl) (k1 h)
  | false => exact aw_step j (by decide) (by simp only [av_step, h]; rfl) (k2 h)
theorem aw_ic {ln a t : Nat} {v0 x1 x2 : Int32} {q : List Nat} (j : sm_at y pc = some (16, ln, a, t, v0, q)) (k1 : av_cmp a x1 x2 = true → aw ext d y t L K S Q) (k2 : av_cmp a x1 x2 = false → aw ext d y (pc + ln) L K S Q) : aw ext d y pc L (.int x2 :: .int x1 :: K) S Q := by
  cases h : av_cmp a x1 x2 with
  | true => exact aw_step j (by decide) (by simp only [av_step, h]; rfl) (k1 h)
  | false => exact aw_step j (by decide) (by simp only [av_step, h]; rfl) (k2 h)
theorem aw_ac {ln a t : Nat} {v0 : Int32} {r1 r2 : Option Nat} {q : List Nat} (j : sm_at y pc = some (17, ln, a, t, v0, q)) (k1 : (r1 = r2) = (a = 0) → aw ext d y t L K S Q) (k2 : ¬ (r1 = r2) = (a = 0) → aw ext d y (pc + ln) L K S Q) : aw ext d y pc L (va_rf r2 :: va_rf r1 :: K) S Q := by
  by_cases h : (r1 = r2) = (a = 0)
  · exact aw_step j (by decide) (by simp only [av_step, av_isR_rf, av_rf_inj]; rw [if_pos ⟨trivial, trivial⟩, if_pos h]) (k1 h)
  · exact aw_step j (by decide) (by simp only [av_step, av_isR_rf, av_rf_inj]; rw [if_pos ⟨trivial, trivial⟩, if_neg h]) (k2 h)
theorem aw_null {ln a t : Nat} {v0 : Int32} {r : Option Nat} {q : List Nat} (j : sm_at y pc = some (18, ln, a, t, v0, q)) (k1 : r = none → aw ext d y t L K S Q) (k2 : ∀ o, r = some o → aw ext d y (pc + ln) L K S Q) : aw ext d y pc L (va_rf r :: K) S Q := by
  cases r with
  | none => exact aw_step j (by decide) (by simp only [av_step, va_rf]) (k1 rfl)
  | some o => exact aw_step j (by decide) (by simp only [av_step, va_rf]) (k2 o rfl)
theorem aw_nonn {ln a t : Nat} {v0 : Int32} {r : Option Nat} {q : List Nat} (j : sm_at y pc = some (19, ln, a, t, v0, q)) (k1 : r = none → aw ext d y (pc + ln) L K S Q) (k2 : ∀ o, r = some o → aw ext d y t L K S Q) : aw ext d y pc L (va_rf r :: K) S Q := by
  cases r with
  | none => exact aw_step j (by decide) (by simp only [av_step, va_rf]) (k1 rfl)
  | some o => exact aw_step j (by decide) (by simp only [av_step, va_rf]) (k2 o rfl)
theorem aw_tsw {ln a t : Nat} {lo x : Int32} {ts : List Nat} (j : sm_at y pc = some (21, ln, a, t, lo, ts)) (k : aw ext d y (if x.toInt < lo.toInt then t else ts.getD (x.toInt - lo.toInt).toNat t) L K S Q) : aw ext d y pc L (.int x :: K) S Q := by
  by_cases h : x.toInt < lo.toInt
  · rw [if_pos h] at k
    exact aw_step j (by decide) (by simp only [av_step]; rw [if_pos h]) k
  · rw [if_neg h] at k
    exact aw_step j (by decide) (by simp only [av_step]; rw [if_neg h]) k
theorem aw_get {ln ci f : Nat} {v0 : Int32} {q : List Nat} {o : Nat} {v : Value} (j : sm_at y pc = some (30, ln, ci, f, v0, q)) (t : S.1 o = some (.inl ci)) (hv : S.2.1 o f = v) (k : aw ext d y (pc + ln) L (v :: K) S Q) : aw ext d y pc L (.ref o :: K) S Q :=
  aw_step j (by decide) (by simp only [av_step]; rw [if_pos t, hv]) k
theorem aw_put {ln ci f : Nat} {v0 : Int32} {q : List Nat} {o : Nat} {v : Value} (j : sm_at y pc = some (31, ln, ci, f, v0, q)) (t : S.1 o = some (.inl ci)) (hv : av_fits (sm_fT ci f) v = true) (k : aw ext d y (pc + ln) L K (av_set S o f v) Q) : aw ext d y pc L (v :: .ref o :: K) S Q :=
  aw_step j (by decide) (by simp only [av_step]; rw [if_pos ⟨t, hv⟩]) k
theorem aw_len {ln a b : Nat} {v0 : Int32} {q : List Nat} {o jj n : Nat} (j : sm_at y pc = some (32, ln, a, b, v0, q)) (t : S.1 o = some (.inr (jj, n))) (k : aw ext d y (pc + ln) L (.int (nI n) :: K) S Q) : aw ext d y pc L (.ref o :: K) S Q :=
  aw_step j (by decide) (by simp only [av_step, t]; rfl) k
theorem av_inb_nI {i n : Nat} (h : i < n) (hn : n < 2147483648) : av_inb (nI i) n = true := by
  unfold av_inb
  rw [Bool.and_eq_true, decide_eq_true_eq, decide_eq_true_eq]
  exact ⟨nI_pos' (by omega), by rw [nI_clamp (by omega)]; exact h⟩
theorem aw_xld {ln jj b : Nat} {v0 ii : Int32} {q : List Nat} {o n i : Nat} {v : Value} (j : sm_at y pc = some (33, ln, jj, b, v0, q)) (t : S.1 o = some (.inr (jj, n))) (hi : ii = nI i) (h : i < n) (hn : n < 2147483648) (hv : S.2.1 o i = v) (k : aw ext d y (pc + ln) L (v :: K) S Q) : aw ext d y pc L (.int ii :: .ref o :: K) S Q := by
  subst hi
  exact aw_step j (by decide) (by simp only [av_step, t]; rw [if_pos ⟨Or.inl trivial, av_inb_nI h hn⟩, nI_clamp (by omega), hv]) k
theorem aw_xldR {ln jj b : Nat} {v0 ii : Int32} {q : List Nat} {o n i : Nat} {v : Value} (j : sm_at y pc = some (33, ln, jj, b, v0, q)) (t : S.1 o = some (.inr (jj + 50, n))) (hi : ii = nI i) (h : i < n) (hn : n < 2147483648) (hv : S.2.1 o i = v) (k : aw ext d y (pc + ln) L (v :: K) S Q) : aw ext d y pc L (.int ii :: .ref o :: K) S Q := by
  subst hi
  exact aw_step j (by decide) (by simp only [av_step, t]; rw [if_pos ⟨Or.inr trivial, av_inb_nI h hn⟩, nI_clamp (by omega), hv]) k
theorem aw_xst {ln jj b : Nat} {v0 x ii : Int32} {q : List Nat} {o n i : Nat} (j : sm_at y pc = some (34, ln, jj, b, v0, q)) (t : S.1 o = some (.inr (jj, n))) (hi : ii = nI i) (h : i < n) (hn : n < 2147483648) (k : aw ext d y (pc + ln) L K (av_set S o i (narrow (sm_aT jj) (.int x))) Q) : aw ext d y pc L (.int x :: .int ii :: .ref o :: K) S Q := by
  subst hi
  exact aw_step j (by decide) (by simp only [av_step, t]; rw [if_pos ⟨trivial, av_inb_nI h hn⟩, nI_clamp (by omega)]) k
theorem aw_ast2 {ln jj ci : Nat} {v0 ii : Int32} {q : List Nat} {o n i : Nat} {r : Option Nat} (j : sm_at y pc = some (35, ln, jj, ci, v0, q)) (t : S.1 o = some (.inr (jj, n))) (hi : ii = nI i) (h : i < n) (hn : n < 2147483648) (tv : ∀ w, r = some w → S.1 w = some (.inl ci)) (k : aw ext d y (pc + ln) L K (av_set S o i (va_rf r)) Q) : aw ext d y pc L (va_rf r :: .int ii :: .ref o :: K) S Q := by
  subst hi
  cases r with
  | none => exact aw_step j (by decide) (by simp only [av_step, va_rf, t]; rw [if_pos ⟨trivial, av_inb_nI h hn⟩, nI_clamp (by omega)]) k
  | some w => exact aw_step j (by decide) (by simp only [av_step, va_rf, t]; rw [if_pos ⟨trivial, av_inb_nI h hn, tv w rfl⟩, nI_clamp (by omega)]) k
theorem aw_new {ln ci b : Nat} {v0 : Int32} {q : List Nat} (j : sm_at y pc = some (36, ln, ci, b, v0, q)) (k : aw ext d y (pc + ln) L (.ref S.2.2.1 :: K) (av_new S (.inl ci) (fun f => defaultValue (sm_fT ci f)) (sm_fN ci)) Q) : aw ext d y pc L K S Q :=
  aw_step j (by decide) (by simp only [av_step]) k
theorem aw_newa {ln jj b : Nat} {v0 ii : Int32} {q : List Nat} {n : Nat} (j : sm_at y pc = some (37, ln, jj, b, v0, q)) (hi : ii = nI n) (h : n ≤ 65536) (k : aw ext d y (pc + ln) L (.ref S.2.2.1 :: K) (av_new S (.inr (jj, n)) (fun _ => defaultValue (sm_aT jj)) n) Q) : aw ext d y pc L (.int ii :: K) S Q := by
  subst hi
  exact aw_step j (by decide) (by simp only [av_step]; rw [nI_clamp (by omega), if_pos ⟨nI_pos' (by omega), h⟩]) k
theorem aw_newr {ln jj b : Nat} {v0 ii : Int32} {q : List Nat} {n : Nat} (j : sm_at y pc = some (38, ln, jj, b, v0, q)) (hi : ii = nI n) (h : n ≤ 65536) (k : aw ext d y (pc + ln) L (.ref S.2.2.1 :: K) (av_new S (.inr (jj, n)) (fun _ => .null) n) Q) : aw ext d y pc L (.int ii :: K) S Q := by
  subst hi
  exact aw_step j (by decide) (by simp only [av_step]; rw [nI_clamp (by omega), if_pos ⟨nI_pos' (by omega), h⟩]) k
/-- contracts by what comes back: nothing, an int, a reference -/
def ctv (ext : av_X) (d y : Nat) (as : List Value) (S : av_St) (P : av_St → Prop) : Prop := ct ext d y as S (fun r S1 => r = none ∧ P S1)
def cti (ext : av_X) (d y : Nat) (as : List Value) (S : av_St) (P : Int32 → av_St → Prop) : Prop := ct ext d y as S (fun r S1 => ∃ x, r = some (.int x) ∧ P x S1)
def ctr (ext : av_X) (d y : Nat) (as : List Value) (S : av_St) (P : Option Nat → av_St → Prop) : Prop := ct ext d y as S (fun r S1 => ∃ x, r = some (va_rf x) ∧ P x S1)
theorem cs_nil : ∀ v ∈ ([] : List Value), v.category = 1 := fun v h => by cases h
theorem cs_cons {v : Value} {l : List Value} (h : v.category = 1) (t : ∀ w ∈ l, w.category = 1) : ∀ w ∈ v :: l, w.category = 1 := fun w hw => (List.mem_cons.mp hw).elim (fun e => e ▸ h) (t w)
theorem aw_callv {ln y' na : Nat} {v0 : Int32} {q : List Nat} {as rest : List Value} {P : av_St → Prop} (j : sm_at y pc = some (40, ln, y', na, v0, q)) (hK : K = as.reverse ++ rest) (hna : as.length = na) (hr : rest.length ≤ 4) (hm : na ≤ sm_ml y') (hy : sm_mt y' ≠ none) (hc : ∀ v ∈ as, v.category = 1) (hv : av_rcv q S as = true) (h : ctv ext d y' as S P) (k : ∀ S1, P S1 → aw ext (d + 1) y (pc + 3) L rest S1 Q) : aw ext (d + 1) y pc L K S Q :=
  aw_call j hK hna hr hm hy hc hv h (fun r S1 hq => by obtain ⟨rfl, hq⟩ := hq; exact k S1 hq)
theorem aw_calli {ln y' na : Nat} {v0 : Int32} {q : List Nat} {as rest : List Value} {P : Int32 → av_St → Prop} (j : sm_at y pc = some (40, ln, y', na, v0, q)) (hK : K = as.reverse ++ rest) (hna : as.length = na) (hr : rest.length ≤ 4) (hm : na ≤ sm_ml y') (hy : sm_mt y' ≠ none) (hc : ∀ v ∈ as, v.category = 1) (hv : av_rcv q S as = true) (h : cti ext d y' as S P) (k : ∀ x S1, P x S1 → aw ext (d + 1) y (pc + 3) L (.int x :: rest) S1 Q) : aw ext (d + 1) y pc L K S Q :=
  aw_call j hK hna hr hm hy hc hv h (fun r S1 hq => by obtain ⟨x, rfl, hq⟩ := hq; exact k x S1 hq)
theorem aw_callr {ln y' na : Nat} {v0 : Int32} {q : List Nat} {as rest : List Value} {P : Option Nat → av_St → Prop} (j : sm_at y pc = some (40, ln, y', na, v0, q)) (hK : K = as.reverse ++ rest) (hna : as.length = na) (hr : rest.length ≤ 4) (hm : na ≤ sm_ml y') (hy : sm_mt y' ≠ none) (hc : ∀ v ∈ as, v.category = 1) (hv : av_rcv q S as = true) (h : ctr ext d y' as S P) (k : ∀ x S1, P x S1 → aw ext (d + 1) y (pc + 3) L (va_rf x :: rest) S1 Q) : aw ext (d + 1) y pc L K S Q :=
  aw_call j hK hna hr hm hy hc hv h (fun r S1 hq => by obtain ⟨x, rfl, hq⟩ := hq; exact k x S1 hq)
end AW2
end
section
theorem rt0 : sm_rt 0 = none := by decide +kernel
theorem cy0 : 1 ≤ sm_ml 0 ∧ sm_mt 0 ≠ none := ⟨by decide +kernel, fun h => by cases h⟩
theorem ml0 : sm_ml 0 = 1 := by decide +kernel
theorem rt1 : sm_rt 1 = some (.int) := by decide +kernel
theorem cy1 : 2 ≤ sm_ml 1 ∧ sm_mt 1 ≠ none := ⟨by decide +kernel, fun h => by cases h⟩
theorem ml1 : sm_ml 1 = 3 := by decide +kernel
theorem rt2 : sm_rt 2 = some (.boolean) := by decide +kernel
theorem cy2 : 1 ≤ sm_ml 2 ∧ sm_mt 2 ≠ none := ⟨by decide +kernel, fun h => by cases h⟩
theorem ml2 : sm_ml 2 = 1 := by decide +kernel
theorem rt3 : sm_rt 3 = some (.int) := by decide +kernel
theorem cy3 : 3 ≤ sm_ml 3 ∧ sm_mt 3 ≠ none := ⟨by decide +kernel, fun h => by cases h⟩
theorem ml3 : sm_ml 3 = 5 := by decide +kernel
theorem rt4 : sm_rt 4 = some (.object "StructureMap$SizedFile") := by decide +kernel
theorem cy4 : 2 ≤ sm_ml 4 ∧ sm_mt 4 ≠ none := ⟨by decide +kernel, fun h => by cases h⟩
theorem ml4 : sm_ml 4 = 2 := by decide +kernel
theorem rt5 : sm_rt 5 = some (.int) := by decide +kernel
theorem cy5 : 2 ≤ sm_ml 5 ∧ sm_mt 5 ≠ none := ⟨by decide +kernel, fun h => by cases h⟩
theorem ml5 : sm_ml 5 = 3 := by decide +kernel
theorem rt6 : sm_rt 6 = some (.int) := by decide +kernel
theorem cy6 : 5 ≤ sm_ml 6 ∧ sm_mt 6 ≠ none := ⟨by decide +kernel, fun h => by cases h⟩
theorem ml6 : sm_ml 6 = 9 := by decide +kernel
theorem rt7 : sm_rt 7 = some (.object "StructureMap$Tree") := by decide +kernel
theorem cy7 : 2 ≤ sm_ml 7 ∧ sm_mt 7 ≠ none := ⟨by decide +kernel, fun h => by cases h⟩
theorem ml7 : sm_ml 7 = 2 := by decide +kernel
theorem rt8 : sm_rt 8 = some (.object "StructureMap$Division") := by decide +kernel
theorem cy8 : 3 ≤ sm_ml 8 ∧ sm_mt 8 ≠ none := ⟨by decide +kernel, fun h => by cases h⟩
theorem ml8 : sm_ml 8 = 3 := by decide +kernel
theorem rt9 : sm_rt 9 = some (.object "StructureMap$Division") := by decide +kernel
theorem cy9 : 2 ≤ sm_ml 9 ∧ sm_mt 9 ≠ none := ⟨by decide +kernel, fun h => by cases h⟩
theorem ml9 : sm_ml 9 = 2 := by decide +kernel
theorem rt10 : sm_rt 10 = some (.int) := by decide +kernel
theorem cy10 : 5 ≤ sm_ml 10 ∧ sm_mt 10 ≠ none := ⟨by decide +kernel, fun h => by cases h⟩
theorem ml10 : sm_ml 10 = 8 := by decide +kernel
theorem rt11 : sm_rt 11 = some (.int) := by decide +kernel
theorem cy11 : 3 ≤ sm_ml 11 ∧ sm_mt 11 ≠ none := ⟨by decide +kernel, fun h => by cases h⟩
theorem ml11 : sm_ml 11 = 5 := by decide +kernel
theorem rt12 : sm_rt 12 = some (.int) := by decide +kernel
theorem cy12 : 3 ≤ sm_ml 12 ∧ sm_mt 12 ≠ none := ⟨by decide +kernel, fun h => by cases h⟩
theorem ml12 : sm_ml 12 = 6 := by decide +kernel
theorem rt13 : sm_rt 13 = some (.int) := by decide +kernel
theorem cy13 : 3 ≤ sm_ml 13 ∧ sm_mt 13 ≠ none := ⟨by decide +kernel, fun h => by cases h⟩
theorem ml13 : sm_ml 13 = 6 := by decide +kernel
theorem rt14 : sm_rt 14 = some (.int) := by decide +kernel
theorem cy14 : 2 ≤ sm_ml 14 ∧ sm_mt 14 ≠ none := ⟨by decide +kernel, fun h => by cases h⟩
theorem ml14 : sm_ml 14 = 3 := by decide +kernel
theorem rt15 : sm_rt 15 = some (.int) := by decide +kernel
theorem cy15 : 3 ≤ sm_ml 15 ∧ sm_mt 15 ≠ none := ⟨by decide +kernel, fun h => by cases h⟩
theorem ml15 : sm_ml 15 = 3 := by decide +kernel
theorem rt16 : sm_rt 16 = some (.int) := by decide +kernel
theorem cy16 : 2 ≤ sm_ml 16 ∧ sm_mt 16 ≠ none := ⟨by decide +kernel, fun h => by cases h⟩
theorem ml16 : sm_ml 16 = 5 := by decide +kernel
theorem rt17 : sm_rt 17 = none := by decide +kernel
theorem cy17 : 2 ≤ sm_ml 17 ∧ sm_mt 17 ≠ none := ⟨by decide +kernel, fun h => by cases h⟩
theorem ml17 : sm_ml 17 = 2 := by decide +kernel
theorem rt18 : sm_rt 18 = none := by decide +kernel
theorem cy18 : 2 ≤ sm_ml 18 ∧ sm_mt 18 ≠ none := ⟨by decide +kernel, fun h => by cases h⟩
theorem ml18 : sm_ml 18 = 2 := by decide +kernel
theorem rt19 : sm_rt 19 = some (.int) := by decide +kernel
theorem cy19 : 2 ≤ sm_ml 19 ∧ sm_mt 19 ≠ none := ⟨by decide +kernel, fun h => by cases h⟩
theorem ml19 : sm_ml 19 = 5 := by decide +kernel
theorem rt20 : sm_rt 20 = some (.int) := by decide +kernel
theorem cy20 : 2 ≤ sm_ml 20 ∧ sm_mt 20 ≠ none := ⟨by decide +kernel, fun h => by cases h⟩
theorem ml20 : sm_ml 20 = 2 := by decide +kernel
theorem rt21 : sm_rt 21 = some (.int) := by decide +kernel
theorem cy21 : 3 ≤ sm_ml 21 ∧ sm_mt 21 ≠ none := ⟨by decide +kernel, fun h => by cases h⟩
theorem ml21 : sm_ml 21 = 9 := by decide +kernel
theorem rt22 : sm_rt 22 = some (.boolean) := by decide +kernel
theorem cy22 : 2 ≤ sm_ml 22 ∧ sm_mt 22 ≠ none := ⟨by decide +kernel, fun h => by cases h⟩
theorem ml22 : sm_ml 22 = 2 := by decide +kernel
theorem rt23 : sm_rt 23 = some (.int) := by decide +kernel
theorem cy23 : 3 ≤ sm_ml 23 ∧ sm_mt 23 ≠ none := ⟨by decide +kernel, fun h => by cases h⟩
theorem ml23 : sm_ml 23 = 4 := by decide +kernel
theorem rt24 : sm_rt 24 = none := by decide +kernel
theorem cy24 : 1 ≤ sm_ml 24 ∧ sm_mt 24 ≠ none := ⟨by decide +kernel, fun h => by cases h⟩
theorem ml24 : sm_ml 24 = 1 := by decide +kernel
theorem rt25 : sm_rt 25 = some (.boolean) := by decide +kernel
theorem cy25 : 3 ≤ sm_ml 25 ∧ sm_mt 25 ≠ none := ⟨by decide +kernel, fun h => by cases h⟩
theorem ml25 : sm_ml 25 = 5 := by decide +kernel
theorem rt26 : sm_rt 26 = none := by decide +kernel
theorem cy26 : 1 ≤ sm_ml 26 ∧ sm_mt 26 ≠ none := ⟨by decide +kernel, fun h => by cases h⟩
theorem ml26 : sm_ml 26 = 2 := by decide +kernel
theorem rt27 : sm_rt 27 = none := by decide +kernel
theorem cy27 : 2 ≤ sm_ml 27 ∧ sm_mt 27 ≠ none := ⟨by decide +kernel, fun h => by cases h⟩
theorem ml27 : sm_ml 27 = 2 := by decide +kernel
theorem rt28 : sm_rt 28 = none := by decide +kernel
theorem cy28 : 2 ≤ sm_ml 28 ∧ sm_mt 28 ≠ none := ⟨by decide +kernel, fun h => by cases h⟩
theorem ml28 : sm_ml 28 = 4 := by decide +kernel
theorem rt29 : sm_rt 29 = none := by decide +kernel
theorem cy29 : 1 ≤ sm_ml 29 ∧ sm_mt 29 ≠ none := ⟨by decide +kernel, fun h => by cases h⟩
theorem ml29 : sm_ml 29 = 1 := by decide +kernel
theorem rt30 : sm_rt 30 = none := by decide +kernel
theorem cy30 : 2 ≤ sm_ml 30 ∧ sm_mt 30 ≠ none := ⟨by decide +kernel, fun h => by cases h⟩
theorem ml30 : sm_ml 30 = 4 := by decide +kernel
theorem rt31 : sm_rt 31 = none := by decide +kernel
theorem cy31 : 2 ≤ sm_ml 31 ∧ sm_mt 31 ≠ none := ⟨by decide +kernel, fun h => by cases h⟩
theorem ml31 : sm_ml 31 = 2 := by decide +kernel
theorem rt32 : sm_rt 32 = some (.object "StructureMap$Division") := by decide +kernel
theorem cy32 : 2 ≤ sm_ml 32 ∧ sm_mt 32 ≠ none := ⟨by decide +kernel, fun h => by cases h⟩
theorem ml32 : sm_ml 32 = 2 := by decide +kernel
theorem rt33 : sm_rt 33 = some (.object "StructureMap$Division") := by decide +kernel
theorem cy33 : 3 ≤ sm_ml 33 ∧ sm_mt 33 ≠ none := ⟨by decide +kernel, fun h => by cases h⟩
theorem ml33 : sm_ml 33 = 6 := by decide +kernel
theorem rt34 : sm_rt 34 = some (.object "StructureMap$Division") := by decide +kernel
theorem cy34 : 2 ≤ sm_ml 34 ∧ sm_mt 34 ≠ none := ⟨by decide +kernel, fun h => by cases h⟩
theorem ml34 : sm_ml 34 = 3 := by decide +kernel
theorem rt35 : sm_rt 35 = none := by decide +kernel
theorem cy35 : 1 ≤ sm_ml 35 ∧ sm_mt 35 ≠ none := ⟨by decide +kernel, fun h => by cases h⟩
theorem ml35 : sm_ml 35 = 1 := by decide +kernel
theorem rt36 : sm_rt 36 = none := by decide +kernel
theorem cy36 : 2 ≤ sm_ml 36 ∧ sm_mt 36 ≠ none := ⟨by decide +kernel, fun h => by cases h⟩
theorem ml36 : sm_ml 36 = 3 := by decide +kernel
theorem rt37 : sm_rt 37 = none := by decide +kernel
theorem cy37 : 3 ≤ sm_ml 37 ∧ sm_mt 37 ≠ none := ⟨by decide +kernel, fun h => by cases h⟩
theorem ml37 : sm_ml 37 = 4 := by decide +kernel
theorem rt38 : sm_rt 38 = some (.int) := by decide +kernel
theorem cy38 : 3 ≤ sm_ml 38 ∧ sm_mt 38 ≠ none := ⟨by decide +kernel, fun h => by cases h⟩
theorem ml38 : sm_ml 38 = 5 := by decide +kernel
theorem rt39 : sm_rt 39 = none := by decide +kernel
theorem cy39 : 1 ≤ sm_ml 39 ∧ sm_mt 39 ≠ none := ⟨by decide +kernel, fun h => by cases h⟩
theorem ml39 : sm_ml 39 = 1 := by decide +kernel
theorem rt40 : sm_rt 40 = none := by decide +kernel
theorem cy40 : 3 ≤ sm_ml 40 ∧ sm_mt 40 ≠ none := ⟨by decide +kernel, fun h => by cases h⟩
theorem ml40 : sm_ml 40 = 3 := by decide +kernel
theorem rt41 : sm_rt 41 = none := by decide +kernel
theorem cy41 : 1 ≤ sm_ml 41 ∧ sm_mt 41 ≠ none := ⟨by decide +kernel, fun h => by cases h⟩
theorem ml41 : sm_ml 41 = 1 := by decide +kernel
theorem rt42 : sm_rt 42 = none := by decide +kernel
theorem cy42 : 2 ≤ sm_ml 42 ∧ sm_mt 42 ≠ none := ⟨by decide +kernel, fun h => by cases h⟩
theorem ml42 : sm_ml 42 = 4 := by decide +kernel
theorem rt43 : sm_rt 43 = none := by decide +kernel
theorem cy43 : 2 ≤ sm_ml 43 ∧ sm_mt 43 ≠ none := ⟨by decide +kernel, fun h => by cases h⟩
theorem ml43 : sm_ml 43 = 2 := by decide +kernel
theorem rt44 : sm_rt 44 = none := by decide +kernel
theorem cy44 : 2 ≤ sm_ml 44 ∧ sm_mt 44 ≠ none := ⟨by decide +kernel, fun h => by cases h⟩
theorem ml44 : sm_ml 44 = 3 := by decide +kernel
theorem rt45 : sm_rt 45 = none := by decide +kernel
theorem cy45 : 3 ≤ sm_ml 45 ∧ sm_mt 45 ≠ none := ⟨by decide +kernel, fun h => by cases h⟩
theorem ml45 : sm_ml 45 = 3 := by decide +kernel
theorem rt46 : sm_rt 46 = none := by decide +kernel
theorem cy46 : 2 ≤ sm_ml 46 ∧ sm_mt 46 ≠ none := ⟨by decide +kernel, fun h => by cases h⟩
theorem ml46 : sm_ml 46 = 5 := by decide +kernel
theorem rt47 : sm_rt 47 = some (.boolean) := by decide +kernel
theorem cy47 : 2 ≤ sm_ml 47 ∧ sm_mt 47 ≠ none := ⟨by decide +kernel, fun h => by cases h⟩
theorem ml47 : sm_ml 47 = 6 := by decide +kernel
theorem rt48 : sm_rt 48 = some (.boolean) := by decide +kernel
theorem cy48 : 2 ≤ sm_ml 48 ∧ sm_mt 48 ≠ none := ⟨by decide +kernel, fun h => by cases h⟩
theorem ml48 : sm_ml 48 = 5 := by decide +kernel
theorem rt49 : sm_rt 49 = none := by decide +kernel
theorem cy49 : 3 ≤ sm_ml 49 ∧ sm_mt 49 ≠ none := ⟨by decide +kernel, fun h => by cases h⟩
theorem ml49 : sm_ml 49 = 3 := by decide +kernel
theorem rt50 : sm_rt 50 = none := by decide +kernel
theorem cy50 : 5 ≤ sm_ml 50 ∧ sm_mt 50 ≠ none := ⟨by decide +kernel, fun h => by cases h⟩
theorem ml50 : sm_ml 50 = 5 := by decide +kernel
theorem rt51 : sm_rt 51 = none := by decide +kernel
theorem cy51 : 2 ≤ sm_ml 51 ∧ sm_mt 51 ≠ none := ⟨by decide +kernel, fun h => by cases h⟩
theorem ml51 : sm_ml 51 = 5 := by decide +kernel
theorem rt52 : sm_rt 52 = some (.boolean) := by decide +kernel
theorem cy52 : 2 ≤ sm_ml 52 ∧ sm_mt 52 ≠ none := ⟨by decide +kernel, fun h => by cases h⟩
theorem ml52 : sm_ml 52 = 2 := by decide +kernel
theorem rt53 : sm_rt 53 = some (.boolean) := by decide +kernel
theorem cy53 : 1 ≤ sm_ml 53 ∧ sm_mt 53 ≠ none := ⟨by decide +kernel, fun h => by cases h⟩
theorem ml53 : sm_ml 53 = 1 := by decide +kernel
theorem rt54 : sm_rt 54 = none := by decide +kernel
theorem cy54 : 2 ≤ sm_ml 54 ∧ sm_mt 54 ≠ none := ⟨by decide +kernel, fun h => by cases h⟩
theorem ml54 : sm_ml 54 = 5 := by decide +kernel
theorem rt55 : sm_rt 55 = some (.object "StructureMap$Division") := by decide +kernel
theorem cy55 : 2 ≤ sm_ml 55 ∧ sm_mt 55 ≠ none := ⟨by decide +kernel, fun h => by cases h⟩
theorem ml55 : sm_ml 55 = 4 := by decide +kernel
theorem rt56 : sm_rt 56 = some (.boolean) := by decide +kernel
theorem cy56 : 1 ≤ sm_ml 56 ∧ sm_mt 56 ≠ none := ⟨by decide +kernel, fun h => by cases h⟩
theorem ml56 : sm_ml 56 = 3 := by decide +kernel
theorem rt57 : sm_rt 57 = some (.boolean) := by decide +kernel
theorem cy57 : 1 ≤ sm_ml 57 ∧ sm_mt 57 ≠ none := ⟨by decide +kernel, fun h => by cases h⟩
theorem ml57 : sm_ml 57 = 3 := by decide +kernel
theorem rt58 : sm_rt 58 = some (.int) := by decide +kernel
theorem cy58 : 1 ≤ sm_ml 58 ∧ sm_mt 58 ≠ none := ⟨by decide +kernel, fun h => by cases h⟩
theorem ml58 : sm_ml 58 = 4 := by decide +kernel
theorem rt59 : sm_rt 59 = some (.int) := by decide +kernel
theorem cy59 : 1 ≤ sm_ml 59 ∧ sm_mt 59 ≠ none := ⟨by decide +kernel, fun h => by cases h⟩
theorem ml59 : sm_ml 59 = 4 := by decide +kernel
theorem rt60 : sm_rt 60 = none := by decide +kernel
theorem cy60 : 5 ≤ sm_ml 60 ∧ sm_mt 60 ≠ none := ⟨by decide +kernel, fun h => by cases h⟩
theorem ml60 : sm_ml 60 = 5 := by decide +kernel
theorem rt61 : sm_rt 61 = some (.int) := by decide +kernel
theorem cy61 : 2 ≤ sm_ml 61 ∧ sm_mt 61 ≠ none := ⟨by decide +kernel, fun h => by cases h⟩
theorem ml61 : sm_ml 61 = 3 := by decide +kernel
theorem rt62 : sm_rt 62 = none := by decide +kernel
theorem cy62 : 1 ≤ sm_ml 62 ∧ sm_mt 62 ≠ none := ⟨by decide +kernel, fun h => by cases h⟩
theorem ml62 : sm_ml 62 = 1 := by decide +kernel
theorem rt63 : sm_rt 63 = some (.int) := by decide +kernel
theorem cy63 : 1 ≤ sm_ml 63 ∧ sm_mt 63 ≠ none := ⟨by decide +kernel, fun h => by cases h⟩
theorem ml63 : sm_ml 63 = 1 := by decide +kernel
theorem rt64 : sm_rt 64 = some (.int) := by decide +kernel
theorem cy64 : 2 ≤ sm_ml 64 ∧ sm_mt 64 ≠ none := ⟨by decide +kernel, fun h => by cases h⟩
theorem ml64 : sm_ml 64 = 2 := by decide +kernel
theorem rt65 : sm_rt 65 = some (.boolean) := by decide +kernel
theorem cy65 : 3 ≤ sm_ml 65 ∧ sm_mt 65 ≠ none := ⟨by decide +kernel, fun h => by cases h⟩
theorem ml65 : sm_ml 65 = 3 := by decide +kernel
theorem rt66 : sm_rt 66 = some (.int) := by decide +kernel
theorem cy66 : 3 ≤ sm_ml 66 ∧ sm_mt 66 ≠ none := ⟨by decide +kernel, fun h => by cases h⟩
theorem ml66 : sm_ml 66 = 4 := by decide +kernel
theorem rt67 : sm_rt 67 = some (.boolean) := by decide +kernel
theorem cy67 : 2 ≤ sm_ml 67 ∧ sm_mt 67 ≠ none := ⟨by decide +kernel, fun h => by cases h⟩
theorem ml67 : sm_ml 67 = 2 := by decide +kernel
theorem rt68 : sm_rt 68 = some (.int) := by decide +kernel
theorem cy68 : 2 ≤ sm_ml 68 ∧ sm_mt 68 ≠ none := ⟨by decide +kernel, fun h => by cases h⟩
theorem ml68 : sm_ml 68 = 2 := by decide +kernel
theorem rt69 : sm_rt 69 = some (.int) := by decide +kernel
theorem cy69 : 5 ≤ sm_ml 69 ∧ sm_mt 69 ≠ none := ⟨by decide +kernel, fun h => by cases h⟩
theorem ml69 : sm_ml 69 = 5 := by decide +kernel
theorem rt70 : sm_rt 70 = some (.boolean) := by decide +kernel
theorem cy70 : 2 ≤ sm_ml 70 ∧ sm_mt 70 ≠ none := ⟨by decide +kernel, fun h => by cases h⟩
theorem ml70 : sm_ml 70 = 2 := by decide +kernel
theorem rt71 : sm_rt 71 = some (.boolean) := by decide +kernel
theorem cy71 : 2 ≤ sm_ml 71 ∧ sm_mt 71 ≠ none := ⟨by decide +kernel, fun h => by cases h⟩
theorem ml71 : sm_ml 71 = 2 := by decide +kernel
theorem rt72 : sm_rt 72 = some (.int) := by decide +kernel
theorem cy72 : 5 ≤ sm_ml 72 ∧ sm_mt 72 ≠ none := ⟨by decide +kernel, fun h => by cases h⟩
theorem ml72 : sm_ml 72 = 6 := by decide +kernel
theorem rt73 : sm_rt 73 = some (.int) := by decide +kernel
theorem cy73 : 3 ≤ sm_ml 73 ∧ sm_mt 73 ≠ none := ⟨by decide +kernel, fun h => by cases h⟩
theorem ml73 : sm_ml 73 = 4 := by decide +kernel
theorem rt74 : sm_rt 74 = some (.int) := by decide +kernel
theorem cy74 : 2 ≤ sm_ml 74 ∧ sm_mt 74 ≠ none := ⟨by decide +kernel, fun h => by cases h⟩
theorem ml74 : sm_ml 74 = 4 := by decide +kernel
theorem rt75 : sm_rt 75 = some (.boolean) := by decide +kernel
theorem cy75 : 3 ≤ sm_ml 75 ∧ sm_mt 75 ≠ none := ⟨by decide +kernel, fun h => by cases h⟩
theorem ml75 : sm_ml 75 = 5 := by decide +kernel
theorem rt76 : sm_rt 76 = none := by decide +kernel
theorem cy76 : 2 ≤ sm_ml 76 ∧ sm_mt 76 ≠ none := ⟨by decide +kernel, fun h => by cases h⟩
theorem ml76 : sm_ml 76 = 6 := by decide +kernel
theorem rt77 : sm_rt 77 = some (.int) := by decide +kernel
theorem cy77 : 3 ≤ sm_ml 77 ∧ sm_mt 77 ≠ none := ⟨by decide +kernel, fun h => by cases h⟩
theorem ml77 : sm_ml 77 = 6 := by decide +kernel
theorem rt78 : sm_rt 78 = some (.boolean) := by decide +kernel
theorem cy78 : 3 ≤ sm_ml 78 ∧ sm_mt 78 ≠ none := ⟨by decide +kernel, fun h => by cases h⟩
theorem ml78 : sm_ml 78 = 4 := by decide +kernel
theorem rt79 : sm_rt 79 = some (.int) := by decide +kernel
theorem cy79 : 3 ≤ sm_ml 79 ∧ sm_mt 79 ≠ none := ⟨by decide +kernel, fun h => by cases h⟩
theorem ml79 : sm_ml 79 = 3 := by decide +kernel
theorem rt80 : sm_rt 80 = none := by decide +kernel
theorem cy80 : 2 ≤ sm_ml 80 ∧ sm_mt 80 ≠ none := ⟨by decide +kernel, fun h => by cases h⟩
theorem ml80 : sm_ml 80 = 3 := by decide +kernel
theorem rt81 : sm_rt 81 = none := by decide +kernel
theorem cy81 : 3 ≤ sm_ml 81 ∧ sm_mt 81 ≠ none := ⟨by decide +kernel, fun h => by cases h⟩
theorem ml81 : sm_ml 81 = 7 := by decide +kernel
theorem rt82 : sm_rt 82 = some (.int) := by decide +kernel
theorem cy82 : 2 ≤ sm_ml 82 ∧ sm_mt 82 ≠ none := ⟨by decide +kernel, fun h => by cases h⟩
theorem ml82 : sm_ml 82 = 4 := by decide +kernel
theorem rt83 : sm_rt 83 = some (.int) := by decide +kernel
theorem cy83 : 2 ≤ sm_ml 83 ∧ sm_mt 83 ≠ none := ⟨by decide +kernel, fun h => by cases h⟩
theorem ml83 : sm_ml 83 = 2 := by decide +kernel
theorem rt84 : sm_rt 84 = some (.int) := by decide +kernel
theorem cy84 : 3 ≤ sm_ml 84 ∧ sm_mt 84 ≠ none := ⟨by decide +kernel, fun h => by cases h⟩
theorem ml84 : sm_ml 84 = 8 := by decide +kernel
theorem rt85 : sm_rt 85 = some (.int) := by decide +kernel
theorem cy85 : 3 ≤ sm_ml 85 ∧ sm_mt 85 ≠ none := ⟨by decide +kernel, fun h => by cases h⟩
theorem ml85 : sm_ml 85 = 3 := by decide +kernel
theorem rt86 : sm_rt 86 = some (.int) := by decide +kernel
theorem cy86 : 2 ≤ sm_ml 86 ∧ sm_mt 86 ≠ none := ⟨by decide +kernel, fun h => by cases h⟩
theorem ml86 : sm_ml 86 = 3 := by decide +kernel
theorem rt87 : sm_rt 87 = none := by decide +kernel
theorem cy87 : 2 ≤ sm_ml 87 ∧ sm_mt 87 ≠ none := ⟨by decide +kernel, fun h => by cases h⟩
theorem ml87 : sm_ml 87 = 5 := by decide +kernel
theorem rt88 : sm_rt 88 = none := by decide +kernel
theorem cy88 : 3 ≤ sm_ml 88 ∧ sm_mt 88 ≠ none := ⟨by decide +kernel, fun h => by cases h⟩
theorem ml88 : sm_ml 88 = 3 := by decide +kernel
theorem rt89 : sm_rt 89 = none := by decide +kernel
theorem cy89 : 2 ≤ sm_ml 89 ∧ sm_mt 89 ≠ none := ⟨by decide +kernel, fun h => by cases h⟩
theorem ml89 : sm_ml 89 = 10 := by decide +kernel
theorem rt90 : sm_rt 90 = some (.int) := by decide +kernel
theorem cy90 : 3 ≤ sm_ml 90 ∧ sm_mt 90 ≠ none := ⟨by decide +kernel, fun h => by cases h⟩
theorem ml90 : sm_ml 90 = 3 := by decide +kernel
theorem rt91 : sm_rt 91 = some (.int) := by decide +kernel
theorem cy91 : 2 ≤ sm_ml 91 ∧ sm_mt 91 ≠ none := ⟨by decide +kernel, fun h => by cases h⟩
theorem ml91 : sm_ml 91 = 5 := by decide +kernel
theorem rt92 : sm_rt 92 = none := by decide +kernel
theorem cy92 : 2 ≤ sm_ml 92 ∧ sm_mt 92 ≠ none := ⟨by decide +kernel, fun h => by cases h⟩
theorem ml92 : sm_ml 92 = 2 := by decide +kernel
theorem rt93 : sm_rt 93 = some (.int) := by decide +kernel
theorem cy93 : 2 ≤ sm_ml 93 ∧ sm_mt 93 ≠ none := ⟨by decide +kernel, fun h => by cases h⟩
theorem ml93 : sm_ml 93 = 2 := by decide +kernel
theorem rt94 : sm_rt 94 = some (.int) := by decide +kernel
theorem cy94 : 3 ≤ sm_ml 94 ∧ sm_mt 94 ≠ none := ⟨by decide +kernel, fun h => by cases h⟩
theorem ml94 : sm_ml 94 = 6 := by decide +kernel
theorem rt95 : sm_rt 95 = some (.int) := by decide +kernel
theorem cy95 : 3 ≤ sm_ml 95 ∧ sm_mt 95 ≠ none := ⟨by decide +kernel, fun h => by cases h⟩
theorem ml95 : sm_ml 95 = 5 := by decide +kernel
theorem rt96 : sm_rt 96 = none := by decide +kernel
theorem cy96 : 2 ≤ sm_ml 96 ∧ sm_mt 96 ≠ none := ⟨by decide +kernel, fun h => by cases h⟩
theorem ml96 : sm_ml 96 = 4 := by decide +kernel
theorem rt97 : sm_rt 97 = some (.int) := by decide +kernel
theorem cy97 : 2 ≤ sm_ml 97 ∧ sm_mt 97 ≠ none := ⟨by decide +kernel, fun h => by cases h⟩
theorem ml97 : sm_ml 97 = 2 := by decide +kernel
theorem rt98 : sm_rt 98 = some (.boolean) := by decide +kernel
theorem cy98 : 1 ≤ sm_ml 98 ∧ sm_mt 98 ≠ none := ⟨by decide +kernel, fun h => by cases h⟩
theorem ml98 : sm_ml 98 = 7 := by decide +kernel
end
