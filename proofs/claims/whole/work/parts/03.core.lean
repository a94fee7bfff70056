/-! ===== THE SMALL MACHINE: what a method's code does, as a function of its arguments and of a state of cells ===== -/
/-- a cell's shape: an object of the class with that number, or an array of that type of elements and that length -/
abbrev sm_Sh : Type := Nat ⊕ (FieldType × Nat)
/-- shapes; references in fields -/
abbrev sm_Z : Type := (Nat → Option sm_Sh) × (Nat → Nat → Value)
/-- ints; longs; thrown objects by their class; the next address; the slots used -/
abbrev sm_D : Type := (Nat → Nat → Int32) × (Nat → Nat → Int64) × (Nat → Option Nat) × Nat × Nat
abbrev sm_S : Type := sm_Z × sm_D
/-- returned (what), or thrown (the object's address); the state -/
abbrev sm_O : Type := (Option Value ⊕ Nat) × sm_S
abbrev sm_R : Type := Option sm_O
/-- pc, locals, operand stack, state -/
abbrev sm_C : Type := Nat × List Value × List Value × sm_S
abbrev sm_N' : Type := Option (sm_C ⊕ sm_O)
def sm_run (step : sm_C → sm_N') : Nat → sm_C → sm_R
  | 0, _ => none
  | n + 1, c => match step c with
    | some (.inl c') => sm_run step n c'
    | some (.inr o) => some o
    | none => none
theorem sm_run_succ {step : sm_C → sm_N'} : ∀ {n : Nat} {c : sm_C} {o : sm_O}, sm_run step n c = some o → sm_run step (n + 1) c = some o := by
  intro n
  induction n with
  | zero => intro c o h; cases h
  | succ n ih =>
    intro c o h
    unfold sm_run at h ⊢
    cases hs : step c with
    | none => rw [hs] at h; cases h
    | some x =>
      rw [hs] at h
      cases x with
      | inl c' => exact ih h
      | inr o' => exact h
theorem sm_run_le {step : sm_C → sm_N'} {n k : Nat} {c : sm_C} {o : sm_O} (h : sm_run step n c = some o) (hk : n ≤ k) : sm_run step k c = some o := by
  induction hk with
  | refl => exact h
  | step _ ih => exact sm_run_succ ih
theorem sm_lim_ex (step : sm_C → sm_N') (c : sm_C) : ∃ r : sm_R, ∃ n, ∀ k, n ≤ k → sm_run step k c = r := by
  by_cases h : ∃ o n, sm_run step n c = some o
  · obtain ⟨o, n, h⟩ := h
    exact ⟨some o, n, fun k hk => sm_run_le h hk⟩
  · refine ⟨none, 0, fun k _ => ?_⟩
    cases hc : sm_run step k c with
    | none => rfl
    | some o => exact absurd ⟨o, k, hc⟩ h
/-- where the run ends, if it does -/
noncomputable def sm_lim (step : sm_C → sm_N') (c : sm_C) : sm_R := Classical.choose (sm_lim_ex step c)
theorem sm_lim_spec (step : sm_C → sm_N') (c : sm_C) : ∃ n, ∀ k, n ≤ k → sm_run step k c = sm_lim step c := Classical.choose_spec (sm_lim_ex step c)
theorem sm_lim_some {step : sm_C → sm_N'} {c : sm_C} {o : sm_O} (h : sm_lim step c = some o) : ∃ n, sm_run step n c = some o := by
  obtain ⟨n, hn⟩ := sm_lim_spec step c
  exact ⟨n, (hn n (Nat.le_refl n)).trans h⟩
theorem sm_lim_of {step : sm_C → sm_N'} {c : sm_C} {o : sm_O} {n : Nat} (h : sm_run step n c = some o) : sm_lim step c = some o := by
  obtain ⟨k, hk⟩ := sm_lim_spec step c
  exact (hk (n + k) (by omega)).symm.trans (sm_run_le h (by omega))
theorem sm_lim_go {step : sm_C → sm_N'} {c c' : sm_C} (hs : step c = some (.inl c')) : sm_lim step c = sm_lim step c' := by
  obtain ⟨n, hn⟩ := sm_lim_spec step c
  obtain ⟨k, hk⟩ := sm_lim_spec step c'
  have h1 := hn (n + k + 1) (by omega)
  unfold sm_run at h1
  rw [hs] at h1
  exact h1.symm.trans (hk (n + k) (by omega))
theorem sm_lim_end {step : sm_C → sm_N'} {c : sm_C} {o : sm_O} (hs : step c = some (.inr o)) : sm_lim step c = some o := by
  refine sm_lim_of (n := 1) ?_
  unfold sm_run
  rw [hs]
theorem sm_lim_none {step : sm_C → sm_N'} {c : sm_C} (hs : step c = none) : sm_lim step c = none := by
  obtain ⟨n, hn⟩ := sm_lim_spec step c
  have h1 := hn (n + 1) (by omega)
  unfold sm_run at h1
  rw [hs] at h1
  exact h1.symm
/-! the state -/
def sm_up {α : Type} (f : Nat → Nat → α) (a i : Nat) (x : α) : Nat → Nat → α := fun b j => if b = a ∧ j = i then x else f b j
/-- the value of a field or an element of a type -/
def sm_val (ty : FieldType) (S : sm_S) (a i : Nat) : Value := match ty with
  | .long => .long (S.2.2.1 a i)
  | .object _ => S.1.2 a i
  | .array _ => S.1.2 a i
  | _ => .int (S.2.1 a i)
def sm_putI (S : sm_S) (a i : Nat) (x : Int32) : sm_S := (S.1, sm_up S.2.1 a i x, S.2.2)
def sm_putJ (S : sm_S) (a i : Nat) (x : Int64) : sm_S := (S.1, S.2.1, sm_up S.2.2.1 a i x, S.2.2.2)
def sm_putR (S : sm_S) (a i : Nat) (v : Value) : sm_S := ((S.1.1, sm_up S.1.2 a i v), S.2)
/-- a new cell: its shape; all its places are zero -/
def sm_new (S : sm_S) (sh : sm_Sh) (n : Nat) : sm_S :=
  let a := S.2.2.2.2.1
  ((fun b => if b = a then some sh else S.1.1 b, fun b j => if b = a then .null else S.1.2 b j),
    (fun b j => if b = a then 0 else S.2.1 b j), (fun b j => if b = a then 0 else S.2.2.1 b j), S.2.2.2.1, a + 1, S.2.2.2.2.2 + n)
/-- a new object that will be thrown -/
def sm_newX (S : sm_S) (x n : Nat) : sm_S :=
  let a := S.2.2.2.2.1
  (S.1, S.2.1, S.2.2.1, (fun b => if b = a then some x else S.2.2.2.1 b), a + 1, S.2.2.2.2.2 + n)
/-- a variable that holds nothing that is known -/
abbrev sm_junk : Value := .retAddr 0
/-- what stands before a variable that is written over, if it is of two slots, is lost -/
def sm_cut (lv : List Value) (i : Nat) : List Value := match i with
  | 0 => lv
  | j + 1 => if (lv.getD j sm_junk).category = 2 then lv.set j sm_junk else lv
def sm_st1 (lv : List Value) (i : Nat) (v : Value) : List Value := (sm_cut lv i).set i v
def sm_st2 (lv : List Value) (i : Nat) (v : Value) : List Value := ((sm_cut lv i).set i v).set (i + 1) sm_junk
def sm_args : List Value → List Value
  | [] => []
  | v :: vs => if v.category = 2 then v :: sm_junk :: sm_args vs else v :: sm_args vs
def sm_entry (n : Nat) (vs : List Value) : List Value := sm_args vs ++ List.replicate (n - (sm_args vs).length) sm_junk
def sm_tg (pc : Nat) (off : Int) : Option Nat := if 0 ≤ (pc : Int) + off then some ((pc : Int) + off).toNat else none
def sm_cmp (c : ClassFile.Cond) (x y : Int32) : Bool := match c with
  | .eq => decide (x = y)
  | .ne => decide (¬ x = y)
  | .lt => decide (x < y)
  | .ge => decide (y ≤ x)
  | .gt => decide (y < x)
  | .le => decide (x ≤ y)
/-! instructions that touch no cell: pc, locals and stack behind them -/
abbrev sm_P : Type := Option (Nat × List Value × List Value)
def sp_push (len n pc : Nat) (lv st : List Value) (v : Value) : sm_P := if len = n then some (pc + n, lv, v :: st) else none
def sp_ldi (len n pc i : Nat) (lv st : List Value) : sm_P := match lv[i]? with
  | some (.int x) => if len = n then some (pc + n, lv, .int x :: st) else none
  | _ => none
def sp_ldl (len n pc i : Nat) (lv st : List Value) : sm_P := match lv[i]? with
  | some (.long x) => if len = n then some (pc + n, lv, .long x :: st) else none
  | _ => none
def sp_lda (len n pc i : Nat) (lv st : List Value) : sm_P := match lv[i]? with
  | some (.ref x) => if len = n then some (pc + n, lv, .ref x :: st) else none
  | some .null => if len = n then some (pc + n, lv, .null :: st) else none
  | _ => none
def sp_sti (len n pc i : Nat) (lv st : List Value) : sm_P := match st with
  | .int x :: r => if len = n ∧ i < lv.length then some (pc + n, sm_st1 lv i (.int x), r) else none
  | _ => none
def sp_stl (len n pc i : Nat) (lv st : List Value) : sm_P := match st with
  | .long x :: r => if len = n ∧ i + 1 < lv.length then some (pc + n, sm_st2 lv i (.long x), r) else none
  | _ => none
def sp_sta (len n pc i : Nat) (lv st : List Value) : sm_P := match st with
  | .ref x :: r => if len = n ∧ i < lv.length then some (pc + n, sm_st1 lv i (.ref x), r) else none
  | _ => none
def sp_inc (len pc i : Nat) (c : Int) (lv st : List Value) : sm_P := match lv[i]? with
  | some (.int x) => if len = 3 ∧ i < lv.length then some (pc + 3, sm_st1 lv i (.int (x + Int32.ofInt c)), st) else none
  | _ => none
def sp_ii (f : Int32 → Int32 → Int32) (len pc : Nat) (lv st : List Value) : sm_P := match st with
  | .int y :: .int x :: r => if len = 1 then some (pc + 1, lv, .int (f x y) :: r) else none
  | _ => none
def sp_dv (f : Int32 → Int32 → Int32) (len pc : Nat) (lv st : List Value) : sm_P := match st with
  | .int y :: .int x :: r => if len = 1 ∧ ¬ y = 0 then some (pc + 1, lv, .int (f x y) :: r) else none
  | _ => none
def sp_ll (f : Int64 → Int64 → Int64) (len pc : Nat) (lv st : List Value) : sm_P := match st with
  | .long y :: .long x :: r => if len = 1 then some (pc + 1, lv, .long (f x y) :: r) else none
  | _ => none
def sp_dl (f : Int64 → Int64 → Int64) (len pc : Nat) (lv st : List Value) : sm_P := match st with
  | .long y :: .long x :: r => if len = 1 ∧ ¬ y = 0 then some (pc + 1, lv, .long (f x y) :: r) else none
  | _ => none
def sp_i1 (f : Int32 → Value) (len pc : Nat) (lv st : List Value) : sm_P := match st with
  | .int x :: r => if len = 1 then some (pc + 1, lv, f x :: r) else none
  | _ => none
def sp_l1 (f : Int64 → Value) (len pc : Nat) (lv st : List Value) : sm_P := match st with
  | .long x :: r => if len = 1 then some (pc + 1, lv, f x :: r) else none
  | _ => none
def sp_lcmp (len pc : Nat) (lv st : List Value) : sm_P := match st with
  | .long y :: .long x :: r => if len = 1 then some (pc + 1, lv, .int (lg_cmp x y) :: r) else none
  | _ => none
def sp_dup (len pc : Nat) (lv st : List Value) : sm_P := match st with
  | v :: r => if len = 1 ∧ v.category = 1 then some (pc + 1, lv, v :: v :: r) else none
  | _ => none
def sp_dup2 (len pc : Nat) (lv st : List Value) : sm_P := match st with
  | v :: w :: r => if len = 1 ∧ v.category = 1 ∧ w.category = 1 then some (pc + 1, lv, v :: w :: v :: w :: r) else none
  | _ => none
def sp_pop (len pc : Nat) (lv st : List Value) : sm_P := match st with
  | v :: r => if len = 1 ∧ v.category = 1 then some (pc + 1, lv, r) else none
  | _ => none
def sp_if (c : ClassFile.Cond) (off : Int) (len pc : Nat) (lv st : List Value) : sm_P := match st, sm_tg pc off with
  | .int x :: r, some t => if len = 3 then some (if sm_cmp c x 0 then t else pc + 3, lv, r) else none
  | _, _ => none
def sp_icmp (c : ClassFile.Cond) (off : Int) (len pc : Nat) (lv st : List Value) : sm_P := match st, sm_tg pc off with
  | .int y :: .int x :: r, some t => if len = 3 then some (if sm_cmp c x y then t else pc + 3, lv, r) else none
  | _, _ => none
def sp_goto (off : Int) (len pc : Nat) (lv st : List Value) : sm_P := match sm_tg pc off with
  | some t => if len = 3 then some (t, lv, st) else none
  | _ => none
def sp_tsw (d lo hi : Int) (offs : Array Int) (pc : Nat) (lv st : List Value) : sm_P := match st with
  | .int x :: r => if x.toInt < lo ∨ hi < x.toInt then (sm_tg pc d).map (fun t => (t, lv, r)) else match offs[(x.toInt - lo).toNat]? with
    | some off => (sm_tg pc off).map (fun t => (t, lv, r))
    | none => none
  | _ => none
def sm_pu (i : Instr) (len pc : Nat) (lv st : List Value) : sm_P := match i with
  | .iconst n => sp_push len 1 pc lv st (.int (Int32.ofInt n))
  | .bipush n => sp_push len 2 pc lv st (.int (Int8.ofInt n).toInt32)
  | .sipush n => sp_push len 3 pc lv st (.int (Int16.ofInt n).toInt32)
  | .lconst n => sp_push len 1 pc lv st (.long (Int64.ofNat (n : Nat)))
  | .iload_n k => sp_ldi len 1 pc k.val lv st
  | .iload k => sp_ldi len 2 pc k lv st
  | .lload_n k => sp_ldl len 1 pc k.val lv st
  | .lload k => sp_ldl len 2 pc k lv st
  | .aload_n k => sp_lda len 1 pc k.val lv st
  | .aload k => sp_lda len 2 pc k lv st
  | .istore_n k => sp_sti len 1 pc k.val lv st
  | .istore k => sp_sti len 2 pc k lv st
  | .lstore_n k => sp_stl len 1 pc k.val lv st
  | .lstore k => sp_stl len 2 pc k lv st
  | .astore_n k => sp_sta len 1 pc k.val lv st
  | .astore k => sp_sta len 2 pc k lv st
  | .iinc k c => sp_inc len pc k c lv st
  | .iadd => sp_ii (fun x y => x + y) len pc lv st
  | .isub => sp_ii (fun x y => x - y) len pc lv st
  | .imul => sp_ii (fun x y => x * y) len pc lv st
  | .iand => sp_ii (fun x y => x &&& y) len pc lv st
  | .ior => sp_ii (fun x y => x ||| y) len pc lv st
  | .ishl => sp_ii (fun x y => x <<< (y &&& 31)) len pc lv st
  | .ishr => sp_ii (fun x y => x >>> (y &&& 31)) len pc lv st
  | .iushr => sp_ii (fun x y => (x.toUInt32 >>> (y.toUInt32 &&& Int32.toUInt32 31)).toInt32) len pc lv st
  | .idiv => sp_dv (fun x y => x / y) len pc lv st
  | .irem => sp_dv (fun x y => x - x / y * y) len pc lv st
  | .ineg => sp_i1 (fun x => .int (-x)) len pc lv st
  | .ladd => sp_ll (fun x y => x + y) len pc lv st
  | .lsub => sp_ll (fun x y => x - y) len pc lv st
  | .lmul => sp_ll (fun x y => x * y) len pc lv st
  | .lxor => sp_ll (fun x y => x ^^^ y) len pc lv st
  | .lrem => sp_dl (fun x y => x - x / y * y) len pc lv st
  | .lcmp => sp_lcmp len pc lv st
  | .i2l => sp_i1 (fun x => .long x.toInt64) len pc lv st
  | .l2i => sp_l1 (fun x => .int x.toInt32) len pc lv st
  | .i2b => sp_i1 (fun x => .int x.toInt8.toInt32) len pc lv st
  | .i2c => sp_i1 (fun x => .int (x.toUInt32 % 65536).toInt32) len pc lv st
  | .dup => sp_dup len pc lv st
  | .dup2 => sp_dup2 len pc lv st
  | .pop => sp_pop len pc lv st
  | .ifCond c off => sp_if c off len pc lv st
  | .if_icmp c off => sp_icmp c off len pc lv st
  | .goto off => sp_goto off len pc lv st
  | .tableswitch d lo hi offs => sp_tsw d lo hi offs pc lv st
  | _ => none
