/-- statics: 0 COMPACT_STRINGS, 1 SIOOBE_FORMATTER, 2 MONTH_DAYS -/
def sm_GS : List (Nat × Nat) := [(852006, 0), (853021, 1), (327779, 2)]
/-! ===== instructions that touch cells, calls, ends; the machine ===== -/
/-- addresses of the text constants (0 .. 70) and of MONTH_DAYS (71); what SIOOBE_FORMATTER holds -/
abbrev sm_E : Type := (Nat → Nat) × Value
def sm_look {α : Type} (l : List (Nat × α)) (key : Nat) : Option α := match l with
  | [] => none
  | q :: r => if q.1 = key then some q.2 else sm_look r key
def sm_at (k pc : Nat) : Option (Instr × Nat) := sm_look (sm_m k).2.2 pc
/-- the key of an entry of the constant pool of a method's own class -/
def sm_key (k idx : Nat) : Nat := (sm_m k).2.1.1 * 65536 + idx
def sm_in_b (j : Int32) (n : Nat) : Bool := decide (¬ (j < 0 ∨ n ≤ j.toNatClampNeg))
def sm_w (st : List Value) : Nat := (st.map fun v => v.category).sum
def sm_nar (ty : FieldType) (x : Int32) : Int32 := match narrow ty (.int x) with
  | .int y => y
  | _ => 0
/-- a value laid into a field of a type -/
def sm_lay (q : Bool) (ty : FieldType) (S : sm_S) (a i : Nat) (v : Value) : Option sm_S := match ty, v with
  | .int, .int x => some (sm_putI S a i x)
  | .boolean, .int x => if x = 0 ∨ x = 1 then some (sm_putI S a i x) else none
  | .long, .long x => some (sm_putJ S a i x)
  | .object _, .ref b => if q then none else some (sm_putR S a i (.ref b))
  | .array _, .ref b => if q then none else some (sm_putR S a i (.ref b))
  | _, _ => none
def sm_getf (k idx len pc : Nat) (lv st : List Value) (S : sm_S) : sm_N' := match st, sm_look sm_F (sm_key k idx) with
  | .ref a :: r, some (c, f) => if len = 3 ∧ c < 14 ∧ f < sm_nf c ∧ S.1.1 a = some (.inl c) then some (.inl (pc + 3, lv, sm_val (sm_ty c f) S a f :: r, S)) else none
  | _, _ => none
def sm_putf (B : Nat) (q : Bool) (k idx len pc : Nat) (lv st : List Value) (S : sm_S) : sm_N' := match st, sm_look sm_F (sm_key k idx) with
  | v :: .ref a :: r, some (c, f) =>
    if len = 3 ∧ c < 13 ∧ f < sm_nf c ∧ B ≤ a ∧ S.1.1 a = some (.inl c) ∧ ((sm_T c f).2.2.2 = false ∨ ((sm_m k).2.1.1 = c ∧ (sm_m k).1.1.name = "<init>")) then
      match sm_lay q (sm_ty c f) S a f v with
      | some S' => some (.inl (pc + 3, lv, r, S'))
      | none => none
    else none
  | _, _ => none
def sm_gets (E : sm_E) (k idx len pc : Nat) (lv st : List Value) (S : sm_S) : sm_N' := match sm_look sm_GS (sm_key k idx) with
  | some 0 => if len = 3 then some (.inl (pc + 3, lv, .int 1 :: st, S)) else none
  | some 1 => if len = 3 then some (.inl (pc + 3, lv, E.2 :: st, S)) else none
  | some 2 => if len = 3 then some (.inl (pc + 3, lv, .ref (E.1 71) :: st, S)) else none
  | _ => none
/-- a load from an array of one of these types -/
def sm_ald (tys : List FieldType) (len pc : Nat) (lv st : List Value) (S : sm_S) : sm_N' := match st with
  | .int j :: .ref a :: r => match S.1.1 a with
    | some (.inr (ty, n)) => if len = 1 ∧ ty ∈ tys ∧ sm_in_b j n then some (.inl (pc + 1, lv, sm_val ty S a j.toNatClampNeg :: r, S)) else none
    | _ => none
  | _ => none
def sm_asti (B : Nat) (tys : List FieldType) (len pc : Nat) (lv st : List Value) (S : sm_S) : sm_N' := match st with
  | .int x :: .int j :: .ref a :: r => match S.1.1 a with
    | some (.inr (ty, n)) => if len = 1 ∧ ty ∈ tys ∧ B ≤ a ∧ sm_in_b j n then some (.inl (pc + 1, lv, r, sm_putI S a j.toNatClampNeg (sm_nar ty x))) else none
    | _ => none
  | _ => none
def sm_astj (B : Nat) (len pc : Nat) (lv st : List Value) (S : sm_S) : sm_N' := match st with
  | .long x :: .int j :: .ref a :: r => match S.1.1 a with
    | some (.inr (ty, n)) => if len = 1 ∧ ty = .long ∧ B ≤ a ∧ sm_in_b j n then some (.inl (pc + 1, lv, r, sm_putJ S a j.toNatClampNeg x)) else none
    | _ => none
  | _ => none
def sm_alen (len pc : Nat) (lv st : List Value) (S : sm_S) : sm_N' := match st with
  | .ref a :: r => match S.1.1 a with
    | some (.inr (_, n)) => if len = 1 then some (.inl (pc + 1, lv, .int (Int32.ofNat n) :: r, S)) else none
    | _ => none
  | _ => none
def sm_newa (q : Bool) (ty : ArrayType) (len pc : Nat) (lv st : List Value) (S : sm_S) : sm_N' := match st with
  | .int n :: r => if q = false ∧ len = 2 ∧ (ty = .int ∨ ty = .boolean ∨ ty = .byte ∨ ty = .long) ∧ ¬ n < 0 ∧ n.toNatClampNeg ≤ 60000 then
      some (.inl (pc + 2, lv, .ref S.2.2.2.2.1 :: r, sm_new S (.inr (newarray.typeOf ty, n.toNatClampNeg)) n.toNatClampNeg)) else none
  | _ => none
def sm_newo (q : Bool) (k idx len pc : Nat) (lv st : List Value) (S : sm_S) : sm_N' := match sm_look sm_N (sm_key k idx) with
  | some (c, n) => if q = false ∧ len = 3 ∧ c < 13 then some (.inl (pc + 3, lv, .ref S.2.2.2.2.1 :: st, sm_new S (.inl c) n)) else none
  | none => match sm_look sm_NX (sm_key k idx) with
    | some (x, n) => if len = 3 then some (.inl (pc + 3, lv, .ref S.2.2.2.2.1 :: st, sm_newX S (2 * x) n)) else none
    | none => none
def sm_ldc (E : sm_E) (k idx n len pc : Nat) (lv st : List Value) (S : sm_S) : sm_N' := match sm_look sm_CI (sm_key k idx) with
  | some v => if len = n then some (.inl (pc + n, lv, .int v :: st, S)) else none
  | none => match sm_look sm_CS (sm_key k idx) with
    | some j => if len = n then some (.inl (pc + n, lv, .ref (E.1 j) :: st, S)) else none
    | none => none
def sm_ldc2 (k idx len pc : Nat) (lv st : List Value) (S : sm_S) : sm_N' := match sm_look sm_CJ (sm_key k idx) with
  | some v => if len = 3 then some (.inl (pc + 3, lv, .long v :: st, S)) else none
  | none => none
/-- the first row of a handler's table that covers the place and takes the class -/
def sm_find (hh : List (Nat × Nat × Nat × Nat × Nat)) (pc x : Nat) : Option Nat := match hh with
  | [] => none
  | q :: r => if q.1 ≤ pc ∧ pc < q.2.1 ∧ q.2.2.2.2 = x then some q.2.2.1 else sm_find r pc x
def sm_throw (k pc : Nat) (lv : List Value) (a : Nat) (S : sm_S) : sm_N' := match S.2.2.2.1 a with
  | some y => if y % 2 = 1 then (match sm_find (sm_m k).2.1.2.1 pc (y / 2) with
    | some h => some (.inl (h, lv, [.ref a], S))
    | none => if (sm_m k).2.1.2.1.all (fun r => !(decide (r.1 ≤ pc) && decide (pc < r.2.1))) then some (.inr (.inr a, S)) else none) else none
  | none => none
def sm_back (k pc : Nat) (lv rest : List Value) (r : sm_R) : sm_N' := match r with
  | some (.inl v, S') => some (.inl (pc + 3, lv, v.toList ++ rest, S'))
  | some (.inr a, S') => sm_throw k pc lv a S'
  | none => none
/-- how many arguments a method's descriptor names -/
def sm_na (y : Nat) : Nat := ((parseMethodDescriptor (sm_m y).1.1.desc).map fun d => d.parameters.length).getD 0
abbrev sm_F' : Type := Nat → List Value → sm_S → sm_R
def sm_calls (call : sm_F') (k idx len pc : Nat) (lv st : List Value) (S : sm_S) : sm_N' := match sm_look sm_L (sm_key k idx) with
  | some (y, _) => if len = 3 ∧ (sm_m y).2.1.2.2 = true ∧ sm_na y ≤ st.length ∧ sm_w (st.drop (sm_na y)) ≤ 8 then
      sm_back k pc lv (st.drop (sm_na y)) (call y (st.take (sm_na y)).reverse S) else none
  | none => none
def sm_callv (call : sm_F') (k idx len pc : Nat) (lv st : List Value) (S : sm_S) : sm_N' := match sm_look sm_L (sm_key k idx) with
  | some (y, _) => match st.drop (sm_na y) with
    | .ref b :: rest => if len = 3 ∧ (sm_m y).2.1.2.2 = false ∧ ¬ (sm_m y).1.1.name = "<init>" ∧ sm_na y ≤ st.length ∧ sm_w rest ≤ 8 ∧ (sm_m y).2.1.1 < 14 ∧ S.1.1 b = some (.inl (sm_m y).2.1.1) then
        sm_back k pc lv rest (call y (.ref b :: (st.take (sm_na y)).reverse) S) else none
    | _ => none
  | none => none
def sm_calli (call : sm_F') (d : Nat) (k idx len pc : Nat) (lv st : List Value) (S : sm_S) : sm_N' := match sm_look sm_L (sm_key k idx) with
  | some (y, _) => match st.drop (sm_na y) with
    | .ref b :: rest => if len = 3 ∧ (sm_m y).2.1.2.2 = false ∧ (sm_m y).1.1.name = "<init>" ∧ sm_na y ≤ st.length ∧ sm_w rest ≤ 8 then
        sm_back k pc lv rest (call y (.ref b :: (st.take (sm_na y)).reverse) S) else none
    | _ => none
  | none => match sm_look sm_LX (sm_key k idx), st with
    | some (0, _), .ref _ :: rest => if len = 3 ∧ 1 ≤ d ∧ sm_w rest ≤ 8 then some (.inl (pc + 3, lv, rest, S)) else none
    | some (2, x), .ref t :: .ref a :: rest => if len = 3 ∧ 6 ≤ d ∧ sm_w rest ≤ 8 ∧ S.2.2.2.1 a = some (2 * x) then
        some (.inl (pc + 3, lv, rest, (S.1, S.2.1, S.2.2.1, (fun b => if b = a then some (2 * x + 1) else S.2.2.2.1 b), S.2.2.2.2))) else none
    | _, _ => none
/-- System.arraycopy between int arrays -/
def sm_copy (B d : Nat) (k idx len pc : Nat) (lv st : List Value) (S : sm_S) : sm_N' := match sm_look sm_LX (sm_key k idx), st with
  | some (1, _), .int n :: .int dp :: .ref a :: .int sp :: .ref b :: rest => match S.1.1 b, S.1.1 a with
    | some (.inr (.int, nb)), some (.inr (.int, na)) =>
      if len = 3 ∧ 1 ≤ d ∧ B ≤ a ∧ B ≤ b ∧ sm_w rest ≤ 8 ∧ ¬ sp < 0 ∧ ¬ dp < 0 ∧ ¬ n < 0 ∧ sp.toNatClampNeg + n.toNatClampNeg ≤ nb ∧ dp.toNatClampNeg + n.toNatClampNeg ≤ na then
        some (.inl (pc + 3, lv, rest, (S.1, (fun c j => if c = a ∧ dp.toNatClampNeg ≤ j ∧ j < dp.toNatClampNeg + n.toNatClampNeg then S.2.1 b (sp.toNatClampNeg + (j - dp.toNatClampNeg)) else S.2.1 c j), S.2.2))) else none
    | _, _ => none
  | _, _ => none
def sm_stat (call : sm_F') (B d : Nat) (k x len pc : Nat) (lv st : List Value) (S : sm_S) : sm_N' := match sm_look sm_L (sm_key k x) with
  | some _ => sm_calls call k x len pc lv st S
  | none => sm_copy B d k x len pc lv st S
def sm_reti (k len : Nat) (st : List Value) (S : sm_S) : sm_N' := match st, (sm_m k).1.2.2.2 with
  | [.int x], some ty => if len = 1 then some (.inr (.inl (some (narrow ty (.int x))), S)) else none
  | _, _ => none
def sm_retj (k len : Nat) (st : List Value) (S : sm_S) : sm_N' := match st, (sm_m k).1.2.2.2 with
  | [.long x], some .long => if len = 1 then some (.inr (.inl (some (.long x)), S)) else none
  | _, _ => none
def sm_retv (k len : Nat) (st : List Value) (S : sm_S) : sm_N' := match st, (sm_m k).1.2.2.2 with
  | [], none => if len = 1 then some (.inr (.inl none, S)) else none
  | _, _ => none
def sm_athrow (k len pc : Nat) (lv st : List Value) (S : sm_S) : sm_N' := match st with
  | .ref a :: _ => if len = 1 then sm_throw k pc lv a S else none
  | _ => none
/-- entries of the constant pool have two bytes -/
def sm_gd (x : Nat) (r : sm_N') : sm_N' := if x < 65536 then r else none
def sm_op (E : sm_E) (B d : Nat) (q : Bool) (call : sm_F') (k : Nat) (i : Instr) (len pc : Nat) (lv st : List Value) (S : sm_S) : sm_N' := match i with
  | .getfield x => sm_gd x (sm_getf k x len pc lv st S)
  | .putfield x => sm_gd x (sm_putf B q k x len pc lv st S)
  | .getstatic x => sm_gd x (sm_gets E k x len pc lv st S)
  | .iaload => sm_ald [.int] len pc lv st S
  | .baload => sm_ald [.byte, .boolean] len pc lv st S
  | .laload => sm_ald [.long] len pc lv st S
  | .iastore => sm_asti B [.int] len pc lv st S
  | .bastore => sm_asti B [.byte, .boolean] len pc lv st S
  | .lastore => sm_astj B len pc lv st S
  | .arraylength => sm_alen len pc lv st S
  | .newarray ty => sm_newa q ty len pc lv st S
  | .new x => sm_gd x (sm_newo q k x len pc lv st S)
  | .ldc x => sm_gd x (sm_ldc E k x 2 len pc lv st S)
  | .ldc_w x => sm_gd x (sm_ldc E k x 3 len pc lv st S)
  | .ldc2_w x => sm_gd x (sm_ldc2 k x len pc lv st S)
  | .invokestatic x => sm_gd x (sm_stat call B d k x len pc lv st S)
  | .invokevirtual x => sm_gd x (sm_callv call k x len pc lv st S)
  | .invokespecial x => sm_gd x (sm_calli call d k x len pc lv st S)
  | .ireturn => sm_reti k len st S
  | .lreturn => sm_retj k len st S
  | .return_ => sm_retv k len st S
  | .athrow => sm_athrow k len pc lv st S
  | _ => none
def sm_step (E : sm_E) (B d : Nat) (q : Bool) (call : sm_F') (k : Nat) (c : sm_C) : sm_N' := match sm_at k c.1 with
  | some (i, len) => match sm_pu i len c.1 c.2.1 c.2.2.1 with
    | some (pc', lv', st') => some (.inl (pc', lv', st', c.2.2.2))
    | none => sm_op E B d q call k i len c.1 c.2.1 c.2.2.1 c.2.2.2
  | none => none
/-- a method, with d frames left below it -/
noncomputable def sm_ev (E : sm_E) (B : Nat) (q : Bool) : Nat → sm_F'
  | 0, k, as, S => if (sm_args as).length ≤ (sm_m k).1.2.2.1 then sm_lim (sm_step E B 0 q (fun _ _ _ => none) k) (0, sm_entry (sm_m k).1.2.2.1 as, [], S) else none
  | d + 1, k, as, S => if (sm_args as).length ≤ (sm_m k).1.2.2.1 then sm_lim (sm_step E B (d + 1) q (sm_ev E B q d) k) (0, sm_entry (sm_m k).1.2.2.1 as, [], S) else none
noncomputable def sm_cl (E : sm_E) (B : Nat) (q : Bool) : Nat → sm_F'
  | 0 => fun _ _ _ => none
  | d + 1 => sm_ev E B q d
theorem sm_ev_eq (E : sm_E) (B : Nat) (q : Bool) (d k : Nat) (as : List Value) (S : sm_S) : sm_ev E B q d k as S = if (sm_args as).length ≤ (sm_m k).1.2.2.1 then sm_lim (sm_step E B d q (sm_cl E B q d) k) (0, sm_entry (sm_m k).1.2.2.1 as, [], S) else none := by
  cases d <;> rfl
/-- a method's run from a place in it -/
noncomputable def sm_ex (E : sm_E) (B : Nat) (q : Bool) (d k pc : Nat) (lv st : List Value) (S : sm_S) : sm_R := sm_lim (sm_step E B d q (sm_cl E B q d) k) (pc, lv, st, S)
