/-! ===== the small machine only makes more cells ===== -/
def sm_le (S : sm_S) : sm_C ⊕ sm_O → Prop
  | .inl c => sm_n S ≤ sm_n c.2.2.2 ∧ sm_u S ≤ sm_u c.2.2.2
  | .inr o => sm_n S ≤ sm_n o.2 ∧ sm_u S ≤ sm_u o.2
theorem sm_le_of {S S' : sm_S} (h : S'.2.2.2 = S.2.2.2) : sm_n S ≤ sm_n S' ∧ sm_u S ≤ sm_u S' := by
  have e1 : sm_n S' = sm_n S := by
    show S'.2.2.2.2.1 = S.2.2.2.2.1
    rw [h]
  have e2 : sm_u S' = sm_u S := by
    show S'.2.2.2.2.2 = S.2.2.2.2.2
    rw [h]
  omega
section SMO
variable {E : sm_E} {B d k idx len pc : Nat} {q : Bool} {lv st : List Value} {S : sm_S} {r : sm_C ⊕ sm_O} {call : sm_F'}
theorem sm_getf_m (h : sm_getf k idx len pc lv st S = some r) : sm_le S r := by
  unfold sm_getf at h
  split at h
  · split at h
    · cases h; exact ⟨Nat.le_refl _, Nat.le_refl _⟩
    · cases h
  · cases h
theorem sm_putf_m (h : sm_putf B q k idx len pc lv st S = some r) : sm_le S r := by
  unfold sm_putf at h
  split at h
  · split at h
    · split at h
      · next S1 hS1 =>
        cases h
        exact sm_le_of (sm_lay_i hS1).2.2.2.1
      · cases h
    · cases h
  · cases h
theorem sm_gets_m (h : sm_gets E k idx len pc lv st S = some r) : sm_le S r := by
  unfold sm_gets at h
  split at h
  · split at h
    · cases h; exact ⟨Nat.le_refl _, Nat.le_refl _⟩
    · cases h
  · split at h
    · cases h; exact ⟨Nat.le_refl _, Nat.le_refl _⟩
    · cases h
  · split at h
    · cases h; exact ⟨Nat.le_refl _, Nat.le_refl _⟩
    · cases h
  · cases h
theorem sm_ald_m {tys : List FieldType} (h : sm_ald tys len pc lv st S = some r) : sm_le S r := by
  unfold sm_ald at h
  split at h
  · split at h
    · split at h
      · cases h; exact ⟨Nat.le_refl _, Nat.le_refl _⟩
      · cases h
    · cases h
  · cases h
theorem sm_asti_m {tys : List FieldType} (h : sm_asti B tys len pc lv st S = some r) : sm_le S r := by
  unfold sm_asti at h
  split at h
  · split at h
    · split at h
      · cases h; exact ⟨Nat.le_refl _, Nat.le_refl _⟩
      · cases h
    · cases h
  · cases h
theorem sm_astj_m (h : sm_astj B len pc lv st S = some r) : sm_le S r := by
  unfold sm_astj at h
  split at h
  · split at h
    · split at h
      · cases h; exact ⟨Nat.le_refl _, Nat.le_refl _⟩
      · cases h
    · cases h
  · cases h
theorem sm_alen_m (h : sm_alen len pc lv st S = some r) : sm_le S r := by
  unfold sm_alen at h
  split at h
  · split at h
    · split at h
      · cases h; exact ⟨Nat.le_refl _, Nat.le_refl _⟩
      · cases h
    · cases h
  · cases h
theorem sm_new_m (S : sm_S) (sh : sm_Sh) (n : Nat) : sm_n S ≤ sm_n (sm_new S sh n) ∧ sm_u S ≤ sm_u (sm_new S sh n) :=
  ⟨Nat.le_succ _, Nat.le_add_right _ _⟩
theorem sm_newX_m (S : sm_S) (x n : Nat) : sm_n S ≤ sm_n (sm_newX S x n) ∧ sm_u S ≤ sm_u (sm_newX S x n) :=
  ⟨Nat.le_succ _, Nat.le_add_right _ _⟩
theorem sm_newa_m {ty : ArrayType} (h : sm_newa q ty len pc lv st S = some r) : sm_le S r := by
  unfold sm_newa at h
  split at h
  · split at h
    · cases h; exact sm_new_m _ _ _
    · cases h
  · cases h
theorem sm_newo_m (h : sm_newo q k idx len pc lv st S = some r) : sm_le S r := by
  unfold sm_newo at h
  split at h
  · split at h
    · cases h; exact sm_new_m _ _ _
    · cases h
  · split at h
    · split at h
      · cases h; exact sm_newX_m _ _ _
      · cases h
    · cases h
theorem sm_ldc_m {n : Nat} (h : sm_ldc E k idx n len pc lv st S = some r) : sm_le S r := by
  unfold sm_ldc at h
  split at h
  · split at h
    · cases h; exact ⟨Nat.le_refl _, Nat.le_refl _⟩
    · cases h
  · split at h
    · split at h
      · cases h; exact ⟨Nat.le_refl _, Nat.le_refl _⟩
      · cases h
    · cases h
theorem sm_ldc2_m (h : sm_ldc2 k idx len pc lv st S = some r) : sm_le S r := by
  unfold sm_ldc2 at h
  split at h
  · split at h
    · cases h; exact ⟨Nat.le_refl _, Nat.le_refl _⟩
    · cases h
  · cases h
theorem sm_throw_m {a : Nat} (h : sm_throw k pc lv a S = some r) : sm_le S r := by
  unfold sm_throw at h
  split at h
  · split at h
    · split at h
      · cases h; exact ⟨Nat.le_refl _, Nat.le_refl _⟩
      · split at h
        · cases h; exact ⟨Nat.le_refl _, Nat.le_refl _⟩
        · cases h
    · cases h
  · cases h
theorem sm_le_trans {S S1 : sm_S} (h : sm_n S ≤ sm_n S1 ∧ sm_u S ≤ sm_u S1) (h2 : sm_le S1 r) : sm_le S r := by
  cases r with
  | inl c => exact ⟨Nat.le_trans h.1 h2.1, Nat.le_trans h.2 h2.2⟩
  | inr o => exact ⟨Nat.le_trans h.1 h2.1, Nat.le_trans h.2 h2.2⟩
theorem sm_back_m {rest : List Value} {o : sm_R} (ho : ∀ x, o = some x → sm_n S ≤ sm_n x.2 ∧ sm_u S ≤ sm_u x.2) (h : sm_back k pc lv rest o = some r) : sm_le S r := by
  unfold sm_back at h
  split at h
  · cases h; exact ho _ rfl
  · exact sm_le_trans (ho _ rfl) (sm_throw_m h)
  · cases h
theorem sm_calls_m (hc : ∀ y as S o, call y as S = some o → sm_n S ≤ sm_n o.2 ∧ sm_u S ≤ sm_u o.2) (h : sm_calls call k idx len pc lv st S = some r) : sm_le S r := by
  unfold sm_calls at h
  split at h
  · split at h
    · exact sm_back_m (hc _ _ _) h
    · cases h
  · cases h
theorem sm_callv_m (hc : ∀ y as S o, call y as S = some o → sm_n S ≤ sm_n o.2 ∧ sm_u S ≤ sm_u o.2) (h : sm_callv call k idx len pc lv st S = some r) : sm_le S r := by
  unfold sm_callv at h
  split at h
  · split at h
    · split at h
      · exact sm_back_m (hc _ _ _) h
      · cases h
    · cases h
  · cases h
theorem sm_calli_m (hc : ∀ y as S o, call y as S = some o → sm_n S ≤ sm_n o.2 ∧ sm_u S ≤ sm_u o.2) (h : sm_calli call d k idx len pc lv st S = some r) : sm_le S r := by
  unfold sm_calli at h
  split at h
  · split at h
    · split at h
      · exact sm_back_m (hc _ _ _) h
      · cases h
    · cases h
  · split at h
    · split at h
      · cases h; exact ⟨Nat.le_refl _, Nat.le_refl _⟩
      · cases h
    · split at h
      · cases h; exact ⟨Nat.le_refl _, Nat.le_refl _⟩
      · cases h
    · cases h
theorem sm_copy_m (h : sm_copy B d k idx len pc lv st S = some r) : sm_le S r := by
  unfold sm_copy at h
  split at h
  · split at h
    · split at h
      · cases h; exact ⟨Nat.le_refl _, Nat.le_refl _⟩
      · cases h
    · cases h
  · cases h
theorem sm_stat_m (hc : ∀ y as S o, call y as S = some o → sm_n S ≤ sm_n o.2 ∧ sm_u S ≤ sm_u o.2) (h : sm_stat call B d k idx len pc lv st S = some r) : sm_le S r := by
  unfold sm_stat at h
  split at h
  · exact sm_calls_m hc h
  · exact sm_copy_m h
theorem sm_reti_m (h : sm_reti k len st S = some r) : sm_le S r := by
  unfold sm_reti at h
  split at h
  · split at h
    · cases h; exact ⟨Nat.le_refl _, Nat.le_refl _⟩
    · cases h
  · cases h
theorem sm_retj_m (h : sm_retj k len st S = some r) : sm_le S r := by
  unfold sm_retj at h
  split at h
  · split at h
    · cases h; exact ⟨Nat.le_refl _, Nat.le_refl _⟩
    · cases h
  · cases h
theorem sm_retv_m (h : sm_retv k len st S = some r) : sm_le S r := by
  unfold sm_retv at h
  split at h
  · split at h
    · cases h; exact ⟨Nat.le_refl _, Nat.le_refl _⟩
    · cases h
  · cases h
theorem sm_athrow_m (h : sm_athrow k len pc lv st S = some r) : sm_le S r := by
  unfold sm_athrow at h
  split at h
  · split at h
    · exact sm_throw_m h
    · cases h
  · cases h
theorem sm_gd_i {x : Nat} {y : sm_N'} (h : sm_gd x y = some r) : x < 65536 ∧ y = some r := by
  unfold sm_gd at h
  split at h
  · next hx => exact ⟨hx, h⟩
  · cases h
theorem sm_op_m (hc : ∀ y as S o, call y as S = some o → sm_n S ≤ sm_n o.2 ∧ sm_u S ≤ sm_u o.2) {i : Instr} (h : sm_op E B d q call k i len pc lv st S = some r) : sm_le S r := by
  cases i
  case getfield x => exact sm_getf_m (sm_gd_i h).2
  case putfield x => exact sm_putf_m (sm_gd_i h).2
  case getstatic x => exact sm_gets_m (sm_gd_i h).2
  case iaload => exact sm_ald_m h
  case baload => exact sm_ald_m h
  case laload => exact sm_ald_m h
  case iastore => exact sm_asti_m h
  case bastore => exact sm_asti_m h
  case lastore => exact sm_astj_m h
  case arraylength => exact sm_alen_m h
  case newarray ty => exact sm_newa_m h
  case new x => exact sm_newo_m (sm_gd_i h).2
  case ldc x => exact sm_ldc_m (sm_gd_i h).2
  case ldc_w x => exact sm_ldc_m (sm_gd_i h).2
  case ldc2_w x => exact sm_ldc2_m (sm_gd_i h).2
  case invokestatic x => exact sm_stat_m hc (sm_gd_i h).2
  case invokevirtual x => exact sm_callv_m hc (sm_gd_i h).2
  case invokespecial x => exact sm_calli_m hc (sm_gd_i h).2
  case ireturn => exact sm_reti_m h
  case lreturn => exact sm_retj_m h
  case return_ => exact sm_retv_m h
  case athrow => exact sm_athrow_m h
  all_goals (exact absurd h (by intro z; cases z))
theorem sm_step_i {c : sm_C} (h : sm_step E B d q call k c = some r) : ∃ i len, sm_at k c.1 = some (i, len) ∧
    ((∃ pc' lv' st', sm_pu i len c.1 c.2.1 c.2.2.1 = some (pc', lv', st') ∧ r = .inl (pc', lv', st', c.2.2.2)) ∨ sm_op E B d q call k i len c.1 c.2.1 c.2.2.1 c.2.2.2 = some r) := by
  unfold sm_step at h
  split at h
  · next i len hat =>
    refine ⟨i, len, hat, ?_⟩
    split at h
    · next pc' lv' st' hpu =>
      cases h
      exact Or.inl ⟨pc', lv', st', hpu, rfl⟩
    · exact Or.inr h
  · cases h
theorem sm_step_m (hc : ∀ y as S o, call y as S = some o → sm_n S ≤ sm_n o.2 ∧ sm_u S ≤ sm_u o.2) {c : sm_C} (h : sm_step E B d q call k c = some r) : sm_le c.2.2.2 r := by
  obtain ⟨i, len, -, ⟨pc', lv', st', -, rfl⟩ | h2⟩ := sm_step_i h
  · exact ⟨Nat.le_refl _, Nat.le_refl _⟩
  · exact sm_op_m hc h2
theorem sm_run_m (hc : ∀ y as S o, call y as S = some o → sm_n S ≤ sm_n o.2 ∧ sm_u S ≤ sm_u o.2) : ∀ (n : Nat) (c : sm_C) (o : sm_O), sm_run (sm_step E B d q call k) n c = some o → sm_n c.2.2.2 ≤ sm_n o.2 ∧ sm_u c.2.2.2 ≤ sm_u o.2 := by
  intro n
  induction n with
  | zero => intro c o h; cases h
  | succ n ih =>
    intro c o h
    unfold sm_run at h
    split at h
    · next c' hs =>
      have h1 : sm_n c.2.2.2 ≤ sm_n c'.2.2.2 ∧ sm_u c.2.2.2 ≤ sm_u c'.2.2.2 := sm_step_m hc hs
      have h2 := ih c' o h
      omega
    · next o' hs =>
      cases h
      exact sm_step_m hc hs
    · cases h
end SMO
