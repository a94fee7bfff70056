/-! ===== runs that leave the shapes as they are; more frames, more known variables: the same run ===== -/
def sm_ord (lv lv' : List Value) : Prop := lv.length = lv'.length ∧ ∀ j : Nat, lv[j]? = lv'[j]? ∨ lv[j]? = some sm_junk
theorem sm_ord.refl (lv : List Value) : sm_ord lv lv := ⟨rfl, fun _ => Or.inl rfl⟩
theorem sm_cut_q (lv : List Value) (i j : Nat) : (sm_cut lv i)[j]? = if i = j + 1 ∧ (lv.getD j sm_junk).category = 2 ∧ j < lv.length then some sm_junk else lv[j]? := by
  unfold sm_cut
  split
  · rw [if_neg (by omega)]
  · next k =>
    split
    · next hc =>
      by_cases e : k = j
      · subst e
        by_cases hl : k < lv.length
        · rw [if_pos ⟨rfl, hc, hl⟩, List.getElem?_set_self hl]
        · rw [if_neg (fun q => hl q.2.2), List.getElem?_eq_none (by rw [List.length_set]; omega), List.getElem?_eq_none (by omega)]
      · rw [List.getElem?_set_ne e, if_neg (fun q => e (by omega))]
    · next hc =>
      rw [if_neg]
      rintro ⟨h1, h2, -⟩
      have : k = j := by omega
      subst this
      exact hc h2
theorem sm_ord.cut {lv lv' : List Value} (h : sm_ord lv lv') (i : Nat) : sm_ord (sm_cut lv i) (sm_cut lv' i) := by
  refine ⟨by rw [sm_cut_len, sm_cut_len]; exact h.1, fun j => ?_⟩
  rw [sm_cut_q, sm_cut_q]
  by_cases e : i = j + 1 ∧ j < lv.length
  · rcases h.2 j with h2 | h2
    · have h3 : lv.getD j sm_junk = lv'.getD j sm_junk := by rw [List.getD_eq_getElem?_getD, List.getD_eq_getElem?_getD, h2]
      rw [h3, h2, h.1]
      exact Or.inl rfl
    · right
      have h3 : lv.getD j sm_junk = sm_junk := by rw [List.getD_eq_getElem?_getD, h2]; rfl
      rw [h3, if_neg (fun q => nomatch (show (1 : Nat) = 2 from q.2.1))]
      exact h2
  · rw [if_neg (fun q => e ⟨q.1, q.2.2⟩), if_neg (fun q => e ⟨q.1, by rw [h.1]; exact q.2.2⟩)]
    exact h.2 j
theorem sm_ord.set {lv lv' : List Value} (h : sm_ord lv lv') (i : Nat) (v : Value) : sm_ord (lv.set i v) (lv'.set i v) := by
  refine ⟨by rw [List.length_set, List.length_set]; exact h.1, fun j => ?_⟩
  by_cases e : i = j
  · subst e
    by_cases hl : i < lv.length
    · rw [List.getElem?_set_self hl, List.getElem?_set_self (by rw [← h.1]; exact hl)]
      exact Or.inl rfl
    · rw [List.getElem?_eq_none (by rw [List.length_set]; omega), List.getElem?_eq_none (by rw [List.length_set, ← h.1]; omega)]
      exact Or.inl rfl
  · rw [List.getElem?_set_ne e, List.getElem?_set_ne e]
    exact h.2 j
theorem sm_ord.st1 {lv lv' : List Value} (h : sm_ord lv lv') (i : Nat) (v : Value) : sm_ord (sm_st1 lv i v) (sm_st1 lv' i v) := (h.cut i).set i v
theorem sm_ord.st2 {lv lv' : List Value} (h : sm_ord lv lv') (i : Nat) (v : Value) : sm_ord (sm_st2 lv i v) (sm_st2 lv' i v) := ((h.cut i).set i v).set (i + 1) sm_junk
theorem sm_ord.get {lv lv' : List Value} (h : sm_ord lv lv') {i : Nat} {v : Value} (hv : lv[i]? = some v) (hj : v ≠ sm_junk) : lv'[i]? = some v := by
  rcases h.2 i with h2 | h2
  · rw [← h2]; exact hv
  · rw [hv] at h2; cases h2; exact absurd rfl hj
section SQU
variable {len n pc i pc' : Nat} {lv lv1 st lv' st' : List Value} {v : Value}
theorem sq_push (ho : sm_ord lv lv1) (h : sp_push len n pc lv st v = some (pc', lv', st')) : ∃ lv2, sp_push len n pc lv1 st v = some (pc', lv2, st') ∧ sm_ord lv' lv2 := by
  obtain ⟨rfl, rfl, rfl, rfl⟩ := sp_push_i h
  exact ⟨lv1, if_pos rfl, ho⟩
theorem sq_ldi (ho : sm_ord lv lv1) (h : sp_ldi len n pc i lv st = some (pc', lv', st')) : ∃ lv2, sp_ldi len n pc i lv1 st = some (pc', lv2, st') ∧ sm_ord lv' lv2 := by
  obtain ⟨x, hx, rfl, rfl, rfl, rfl⟩ := sp_ldi_i h
  refine ⟨lv1, ?_, ho⟩
  unfold sp_ldi
  rw [ho.get hx (by intro q; cases q)]
  exact if_pos rfl
theorem sq_ldl (ho : sm_ord lv lv1) (h : sp_ldl len n pc i lv st = some (pc', lv', st')) : ∃ lv2, sp_ldl len n pc i lv1 st = some (pc', lv2, st') ∧ sm_ord lv' lv2 := by
  obtain ⟨x, hx, rfl, rfl, rfl, rfl⟩ := sp_ldl_i h
  refine ⟨lv1, ?_, ho⟩
  unfold sp_ldl
  rw [ho.get hx (by intro q; cases q)]
  exact if_pos rfl
theorem sq_lda (ho : sm_ord lv lv1) (h : sp_lda len n pc i lv st = some (pc', lv', st')) : ∃ lv2, sp_lda len n pc i lv1 st = some (pc', lv2, st') ∧ sm_ord lv' lv2 := by
  rcases sp_lda_i h with ⟨x, hx, rfl, rfl, rfl, rfl⟩ | ⟨hx, rfl, rfl, rfl, rfl⟩
  · refine ⟨lv1, ?_, ho⟩
    unfold sp_lda
    rw [ho.get hx (by intro q; cases q)]
    exact if_pos rfl
  · refine ⟨lv1, ?_, ho⟩
    unfold sp_lda
    rw [ho.get hx (by intro q; cases q)]
    exact if_pos rfl
theorem sq_sti (ho : sm_ord lv lv1) (h : sp_sti len n pc i lv st = some (pc', lv', st')) : ∃ lv2, sp_sti len n pc i lv1 st = some (pc', lv2, st') ∧ sm_ord lv' lv2 := by
  obtain ⟨x, rfl, rfl, hi, rfl, rfl⟩ := sp_sti_i h
  exact ⟨_, if_pos ⟨rfl, by rw [← ho.1]; exact hi⟩, ho.st1 i _⟩
theorem sq_sta (ho : sm_ord lv lv1) (h : sp_sta len n pc i lv st = some (pc', lv', st')) : ∃ lv2, sp_sta len n pc i lv1 st = some (pc', lv2, st') ∧ sm_ord lv' lv2 := by
  obtain ⟨x, rfl, rfl, hi, rfl, rfl⟩ := sp_sta_i h
  exact ⟨_, if_pos ⟨rfl, by rw [← ho.1]; exact hi⟩, ho.st1 i _⟩
theorem sq_stl (ho : sm_ord lv lv1) (h : sp_stl len n pc i lv st = some (pc', lv', st')) : ∃ lv2, sp_stl len n pc i lv1 st = some (pc', lv2, st') ∧ sm_ord lv' lv2 := by
  obtain ⟨x, rfl, rfl, hi, rfl, rfl⟩ := sp_stl_i h
  exact ⟨_, if_pos ⟨rfl, by rw [← ho.1]; exact hi⟩, ho.st2 i _⟩
theorem sq_inc {k : Int} (ho : sm_ord lv lv1) (h : sp_inc len pc i k lv st = some (pc', lv', st')) : ∃ lv2, sp_inc len pc i k lv1 st = some (pc', lv2, st') ∧ sm_ord lv' lv2 := by
  obtain ⟨x, hx, rfl, hi, rfl, rfl, rfl⟩ := sp_inc_i h
  refine ⟨sm_st1 lv1 i (.int (x + Int32.ofInt k)), ?_, ho.st1 i _⟩
  unfold sp_inc
  rw [ho.get hx (by intro q; cases q)]
  exact if_pos ⟨rfl, by rw [← ho.1]; exact hi⟩
end SQU
/-- an instruction that takes no variable gives them on as they are -/
theorem sm_pu_ord {i : Instr} {len pc pc' : Nat} {lv lv1 st lv' st' : List Value} (ho : sm_ord lv lv1) (h : sm_pu i len pc lv st = some (pc', lv', st')) : ∃ lv2, sm_pu i len pc lv1 st = some (pc', lv2, st') ∧ sm_ord lv' lv2 := by
  cases i
  case iconst n => exact sq_push ho h
  case bipush n => exact sq_push ho h
  case sipush n => exact sq_push ho h
  case lconst n => exact sq_push ho h
  case iload_n q => exact sq_ldi ho h
  case iload q => exact sq_ldi ho h
  case lload_n q => exact sq_ldl ho h
  case lload q => exact sq_ldl ho h
  case aload_n q => exact sq_lda ho h
  case aload q => exact sq_lda ho h
  case istore_n q => exact sq_sti ho h
  case istore q => exact sq_sti ho h
  case lstore_n q => exact sq_stl ho h
  case lstore q => exact sq_stl ho h
  case astore_n q => exact sq_sta ho h
  case astore q => exact sq_sta ho h
  case iinc q n => exact sq_inc ho h
  case iadd => obtain ⟨x, y, r, rfl, rfl, rfl, rfl, rfl⟩ := sp_ii_i h; exact ⟨lv1, rfl, ho⟩
  case isub => obtain ⟨x, y, r, rfl, rfl, rfl, rfl, rfl⟩ := sp_ii_i h; exact ⟨lv1, rfl, ho⟩
  case imul => obtain ⟨x, y, r, rfl, rfl, rfl, rfl, rfl⟩ := sp_ii_i h; exact ⟨lv1, rfl, ho⟩
  case iand => obtain ⟨x, y, r, rfl, rfl, rfl, rfl, rfl⟩ := sp_ii_i h; exact ⟨lv1, rfl, ho⟩
  case ior => obtain ⟨x, y, r, rfl, rfl, rfl, rfl, rfl⟩ := sp_ii_i h; exact ⟨lv1, rfl, ho⟩
  case ishl => obtain ⟨x, y, r, rfl, rfl, rfl, rfl, rfl⟩ := sp_ii_i h; exact ⟨lv1, rfl, ho⟩
  case ishr => obtain ⟨x, y, r, rfl, rfl, rfl, rfl, rfl⟩ := sp_ii_i h; exact ⟨lv1, rfl, ho⟩
  case iushr => obtain ⟨x, y, r, rfl, rfl, rfl, rfl, rfl⟩ := sp_ii_i h; exact ⟨lv1, rfl, ho⟩
  case idiv => obtain ⟨x, y, r, rfl, rfl, hy, rfl, rfl, rfl⟩ := sp_dv_i h; exact ⟨lv1, if_pos ⟨rfl, hy⟩, ho⟩
  case irem => obtain ⟨x, y, r, rfl, rfl, hy, rfl, rfl, rfl⟩ := sp_dv_i h; exact ⟨lv1, if_pos ⟨rfl, hy⟩, ho⟩
  case ineg => obtain ⟨x, r, rfl, rfl, rfl, rfl, rfl⟩ := sp_i1_i h; exact ⟨lv1, rfl, ho⟩
  case ladd => obtain ⟨x, y, r, rfl, rfl, rfl, rfl, rfl⟩ := sp_ll_i h; exact ⟨lv1, rfl, ho⟩
  case lsub => obtain ⟨x, y, r, rfl, rfl, rfl, rfl, rfl⟩ := sp_ll_i h; exact ⟨lv1, rfl, ho⟩
  case lmul => obtain ⟨x, y, r, rfl, rfl, rfl, rfl, rfl⟩ := sp_ll_i h; exact ⟨lv1, rfl, ho⟩
  case lxor => obtain ⟨x, y, r, rfl, rfl, rfl, rfl, rfl⟩ := sp_ll_i h; exact ⟨lv1, rfl, ho⟩
  case lrem => obtain ⟨x, y, r, rfl, rfl, hy, rfl, rfl, rfl⟩ := sp_dl_i h; exact ⟨lv1, if_pos ⟨rfl, hy⟩, ho⟩
  case lcmp => obtain ⟨x, y, r, rfl, rfl, rfl, rfl, rfl⟩ := sp_lcmp_i h; exact ⟨lv1, rfl, ho⟩
  case i2l => obtain ⟨x, r, rfl, rfl, rfl, rfl, rfl⟩ := sp_i1_i h; exact ⟨lv1, rfl, ho⟩
  case l2i => obtain ⟨x, r, rfl, rfl, rfl, rfl, rfl⟩ := sp_l1_i h; exact ⟨lv1, rfl, ho⟩
  case i2b => obtain ⟨x, r, rfl, rfl, rfl, rfl, rfl⟩ := sp_i1_i h; exact ⟨lv1, rfl, ho⟩
  case i2c => obtain ⟨x, r, rfl, rfl, rfl, rfl, rfl⟩ := sp_i1_i h; exact ⟨lv1, rfl, ho⟩
  case dup => obtain ⟨v, r, rfl, rfl, hv, rfl, rfl, rfl⟩ := sp_dup_i h; exact ⟨lv1, if_pos ⟨rfl, hv⟩, ho⟩
  case dup2 => obtain ⟨v, w, r, rfl, rfl, hv, hw, rfl, rfl, rfl⟩ := sp_dup2_i h; exact ⟨lv1, if_pos ⟨rfl, hv, hw⟩, ho⟩
  case pop => obtain ⟨v, rfl, rfl, hv, rfl, rfl⟩ := sp_pop_i h; exact ⟨lv1, if_pos ⟨rfl, hv⟩, ho⟩
  case ifCond cd off =>
    have h2 : sp_if cd off len pc lv st = some (pc', lv', st') := h
    refine ⟨lv1, ?_, ?_⟩
    · show sp_if cd off len pc lv1 st = _
      unfold sp_if at h2 ⊢
      split at h2
      · split at h2
        · next hl => cases h2; exact if_pos hl
        · cases h2
      · cases h2
    · obtain ⟨x, t, -, -, -, -, rfl⟩ := sp_if_i h2; exact ho
  case if_icmp cd off =>
    have h2 : sp_icmp cd off len pc lv st = some (pc', lv', st') := h
    refine ⟨lv1, ?_, ?_⟩
    · show sp_icmp cd off len pc lv1 st = _
      unfold sp_icmp at h2 ⊢
      split at h2
      · split at h2
        · next hl => cases h2; exact if_pos hl
        · cases h2
      · cases h2
    · obtain ⟨x, y, t, -, -, -, -, rfl⟩ := sp_icmp_i h2; exact ho
  case goto off =>
    have h2 : sp_goto off len pc lv st = some (pc', lv', st') := h
    refine ⟨lv1, ?_, ?_⟩
    · show sp_goto off len pc lv1 st = _
      unfold sp_goto at h2 ⊢
      split at h2
      · split at h2
        · next hl => cases h2; exact if_pos hl
        · cases h2
      · cases h2
    · obtain ⟨-, -, rfl, -⟩ := sp_goto_i h2; exact ho
  case tableswitch d lo hi offs =>
    have h2 : sp_tsw d lo hi offs pc lv st = some (pc', lv', st') := h
    refine ⟨lv1, ?_, ?_⟩
    · show sp_tsw d lo hi offs pc lv1 st = _
      unfold sp_tsw at h2 ⊢
      split at h2
      · split at h2
        · next hc =>
          rw [if_pos hc]
          cases ht : sm_tg pc d with
          | none => rw [ht] at h2; cases h2
          | some t => rw [ht] at h2; cases h2; rfl
        · next hc =>
          rw [if_neg hc]
          split at h2
          · next off ho2 =>
            cases ht : sm_tg pc off with
            | none => rw [ht] at h2; cases h2
            | some t => rw [ht] at h2; cases h2; rfl
          · cases h2
      · cases h2
    · obtain ⟨x, -, rfl, -⟩ := sp_tsw_i h2; exact ho
  all_goals (exact absurd h (by intro q; cases q))
/-! the same of what is no pure instruction -/
def sm_sl (lv' : List Value) : sm_C ⊕ sm_O → sm_C ⊕ sm_O
  | .inl c => .inl (c.1, lv', c.2.2)
  | .inr o => .inr o
def sm_rs : sm_C ⊕ sm_O → sm_S
  | .inl c => c.2.2.2
  | .inr o => o.2
def sm_ky (B : Nat) (S S' : sm_S) : Prop := S'.1 = S.1 ∧ ∀ a, a < B → S'.2.1 a = S.2.1 a
theorem sm_ky.refl (B : Nat) (S : sm_S) : sm_ky B S S := ⟨rfl, fun _ _ => rfl⟩
theorem sm_ky.trans {B : Nat} {S S1 S2 : sm_S} (h : sm_ky B S S1) (h2 : sm_ky B S1 S2) : sm_ky B S S2 := ⟨h2.1.trans h.1, fun a ha => (h2.2 a ha).trans (h.2 a ha)⟩
theorem sm_ky_up {B : Nat} {f : Nat → Nat → Int32} {a i : Nat} {x : Int32} (h : B ≤ a) : ∀ b, b < B → sm_up f a i x b = f b := by
  intro b hb
  funext j
  exact sm_up_ne _ _ (fun q => by omega)
section SQO
variable {E : sm_E} {B d d' k idx len pc : Nat} {q q' : Bool} {lv lv' st : List Value} {S : sm_S} {r : sm_C ⊕ sm_O} {call call' : sm_F'}
/-- what is shown of every instruction that is not pure -/
def sm_qs (B : Nat) (S : sm_S) (lv lv' : List Value) (r : sm_C ⊕ sm_O) (x : sm_N') : Prop := x = some (sm_sl lv' r) ∧ sm_ky B S (sm_rs r) ∧ (∀ c, r = .inl c → c.2.1 = lv)
theorem sm_qs.inl {c : sm_C} {x : sm_N'} (hx : x = some (.inl (c.1, lv', c.2.2))) (hk : sm_ky B S c.2.2.2) (hl : c.2.1 = lv) : sm_qs B S lv lv' (.inl c) x := ⟨hx, hk, fun c' h => by cases h; exact hl⟩
theorem sm_qs.inr {o : sm_O} {x : sm_N'} (hx : x = some (.inr o)) (hk : sm_ky B S o.2) : sm_qs B S lv lv' (.inr o) x := ⟨hx, hk, fun c' h => nomatch h⟩
theorem sq_getf (h : sm_getf k idx len pc lv st S = some r) : sm_qs B S lv lv' r (sm_getf k idx len pc lv' st S) := by
  unfold sm_getf at h ⊢
  split at h
  · split at h
    · next hc => cases h; exact .inl (if_pos hc) (.refl _ _) rfl
    · cases h
  · cases h
theorem sq_lay {ty : FieldType} {a i : Nat} {v : Value} {S' : sm_S} (hB : B ≤ a) (h : sm_lay true ty S a i v = some S') : sm_lay q' ty S a i v = some S' ∧ sm_ky B S S' := by
  unfold sm_lay at h ⊢
  split at h
  · cases h; exact ⟨rfl, rfl, sm_ky_up hB⟩
  · split at h
    · next hx => cases h; exact ⟨if_pos hx, rfl, sm_ky_up hB⟩
    · cases h
  · cases h; exact ⟨rfl, rfl, fun _ _ => rfl⟩
  · cases h
  · cases h
  · cases h
theorem sq_putf (h : sm_putf B true k idx len pc lv st S = some r) : sm_qs B S lv lv' r (sm_putf B q' k idx len pc lv' st S) := by
  unfold sm_putf at h ⊢
  split at h
  · split at h
    · next hc =>
      rw [if_pos hc]
      split at h
      · next S1 hS1 =>
        cases h
        obtain ⟨h1, h2⟩ := sq_lay (q' := q') hc.2.2.2.1 hS1
        rw [h1]
        exact .inl rfl h2 rfl
      · cases h
    · cases h
  · cases h
theorem sq_gets (h : sm_gets E k idx len pc lv st S = some r) : sm_qs B S lv lv' r (sm_gets E k idx len pc lv' st S) := by
  unfold sm_gets at h ⊢
  split at h
  · split at h
    · next hc => cases h; exact .inl (if_pos hc) (.refl _ _) rfl
    · cases h
  · split at h
    · next hc => cases h; exact .inl (if_pos hc) (.refl _ _) rfl
    · cases h
  · split at h
    · next hc => cases h; exact .inl (if_pos hc) (.refl _ _) rfl
    · cases h
  · cases h
theorem sq_ald {tys : List FieldType} (h : sm_ald tys len pc lv st S = some r) : sm_qs B S lv lv' r (sm_ald tys len pc lv' st S) := by
  unfold sm_ald at h ⊢
  split at h
  · split at h
    · split at h
      · next e1 hc => cases h; (try rw [e1]); exact .inl (if_pos hc) (.refl _ _) rfl
      · cases h
    · cases h
  · cases h
theorem sq_asti {tys : List FieldType} (h : sm_asti B tys len pc lv st S = some r) : sm_qs B S lv lv' r (sm_asti B tys len pc lv' st S) := by
  unfold sm_asti at h ⊢
  split at h
  · split at h
    · split at h
      · next e1 hc => cases h; (try rw [e1]); exact .inl (if_pos hc) ⟨rfl, sm_ky_up hc.2.2.1⟩ rfl
      · cases h
    · cases h
  · cases h
theorem sq_astj (h : sm_astj B len pc lv st S = some r) : sm_qs B S lv lv' r (sm_astj B len pc lv' st S) := by
  unfold sm_astj at h ⊢
  split at h
  · split at h
    · split at h
      · next e1 hc => cases h; (try rw [e1]); exact .inl (if_pos hc) ⟨rfl, fun _ _ => rfl⟩ rfl
      · cases h
    · cases h
  · cases h
theorem sq_alen (h : sm_alen len pc lv st S = some r) : sm_qs B S lv lv' r (sm_alen len pc lv' st S) := by
  unfold sm_alen at h ⊢
  split at h
  · split at h
    · split at h
      · next e1 hc => cases h; (try rw [e1]); exact .inl (if_pos hc) (.refl _ _) rfl
      · cases h
    · cases h
  · cases h
theorem sq_newa {ty : ArrayType} (h : sm_newa true ty len pc lv st S = some r) : sm_qs B S lv lv' r (sm_newa q' ty len pc lv' st S) := by
  unfold sm_newa at h
  split at h
  · split at h
    · next hc => cases hc.1
    · cases h
  · cases h
theorem sq_newo (h : sm_newo true k idx len pc lv st S = some r) : sm_qs B S lv lv' r (sm_newo q' k idx len pc lv' st S) := by
  unfold sm_newo at h ⊢
  split at h
  · split at h
    · next hc => cases hc.1
    · cases h
  · next e1 =>
    (try rw [e1])
    split at h
    · split at h
      · next e2 hc => cases h; exact .inl (by (try rw [e2]); exact if_pos hc) ⟨rfl, fun _ _ => rfl⟩ rfl
      · cases h
    · cases h
theorem sq_ldc {n : Nat} (h : sm_ldc E k idx n len pc lv st S = some r) : sm_qs B S lv lv' r (sm_ldc E k idx n len pc lv' st S) := by
  unfold sm_ldc at h ⊢
  split at h
  · split at h
    · next e1 hc => cases h; exact .inl (by (try rw [e1]); exact if_pos hc) (.refl _ _) rfl
    · cases h
  · next e1 =>
    split at h
    · split at h
      · next e2 hc => cases h; exact .inl (by (try rw [e1]); (try rw [e2]); exact if_pos hc) (.refl _ _) rfl
      · cases h
    · cases h
theorem sq_ldc2 (h : sm_ldc2 k idx len pc lv st S = some r) : sm_qs B S lv lv' r (sm_ldc2 k idx len pc lv' st S) := by
  unfold sm_ldc2 at h ⊢
  split at h
  · split at h
    · next e1 hc => cases h; exact .inl (by (try rw [e1]); exact if_pos hc) (.refl _ _) rfl
    · cases h
  · cases h
theorem sq_throw {a : Nat} (h : sm_throw k pc lv a S = some r) : sm_qs B S lv lv' r (sm_throw k pc lv' a S) := by
  unfold sm_throw at h ⊢
  split at h
  · next e1 =>
    split at h
    · next hc =>
      (try rw [e1])
      (try dsimp only)
      rw [if_pos hc]
      split at h
      · next e2 => cases h; exact .inl rfl (.refl _ _) rfl
      · next e2 =>
        split at h
        · next hc2 => cases h; exact .inr (by (try rw [e2]); exact if_pos hc2) (.refl _ _)
        · cases h
    · cases h
  · cases h
theorem sm_qs.from {S1 : sm_S} {x : sm_N'} (h1 : sm_ky B S S1) (h : sm_qs B S1 lv lv' r x) : sm_qs B S lv lv' r x := ⟨h.1, h1.trans h.2.1, h.2.2⟩
theorem sq_back {rest : List Value} {o o' : sm_R} (ho : ∀ x, o = some x → o' = some x ∧ sm_ky B S x.2) (h : sm_back k pc lv rest o = some r) : sm_qs B S lv lv' r (sm_back k pc lv' rest o') := by
  unfold sm_back at h
  split at h
  · obtain ⟨h1, h2⟩ := ho _ rfl
    cases h
    rw [h1]
    exact .inl rfl h2 rfl
  · obtain ⟨h1, h2⟩ := ho _ rfl
    rw [h1]
    exact (sq_throw h).from h2
  · cases h
abbrev sm_cq (B : Nat) (call call' : sm_F') : Prop := ∀ y as S o, call y as S = some o → call' y as S = some o ∧ sm_ky B S o.2
theorem sq_calls (hc : sm_cq B call call') (h : sm_calls call k idx len pc lv st S = some r) : sm_qs B S lv lv' r (sm_calls call' k idx len pc lv' st S) := by
  unfold sm_calls at h ⊢
  split at h
  · next e1 =>
    split at h
    · next hg => (try rw [e1]); (try dsimp only); rw [if_pos hg]; exact sq_back (hc _ _ _) h
    · cases h
  · cases h
theorem sq_callv (hc : sm_cq B call call') (h : sm_callv call k idx len pc lv st S = some r) : sm_qs B S lv lv' r (sm_callv call' k idx len pc lv' st S) := by
  unfold sm_callv at h ⊢
  split at h
  · next e1 =>
    split at h
    · next e2 =>
      split at h
      · next hg => (try rw [e1]); (try dsimp only); (try rw [e2]); (try dsimp only); rw [if_pos hg]; exact sq_back (hc _ _ _) h
      · cases h
    · cases h
  · cases h
theorem sq_calli (hd : d ≤ d') (hc : sm_cq B call call') (h : sm_calli call d k idx len pc lv st S = some r) : sm_qs B S lv lv' r (sm_calli call' d' k idx len pc lv' st S) := by
  unfold sm_calli at h ⊢
  split at h
  · next e1 =>
    split at h
    · next e2 =>
      split at h
      · next hg => (try rw [e1]); (try dsimp only); (try rw [e2]); (try dsimp only); rw [if_pos hg]; exact sq_back (hc _ _ _) h
      · cases h
    · cases h
  · next e1 =>
    (try rw [e1])
    (try dsimp only)
    split at h
    · next e2 _ =>
      split at h
      · next hg => cases h; exact .inl (by (try rw [e2]); exact if_pos ⟨hg.1, by omega, hg.2.2⟩) (.refl _ _) rfl
      · cases h
    · next e2 _ =>
      split at h
      · next hg => cases h; exact .inl (by (try rw [e2]); exact if_pos ⟨hg.1, by omega, hg.2.2⟩) ⟨rfl, fun _ _ => rfl⟩ rfl
      · cases h
    · cases h
theorem sq_copy (hd : d ≤ d') (h : sm_copy B d k idx len pc lv st S = some r) : sm_qs B S lv lv' r (sm_copy B d' k idx len pc lv' st S) := by
  unfold sm_copy at h ⊢
  split at h
  · next e1 _ =>
    split at h
    · next e2 e3 =>
      split at h
      · next hg =>
        cases h
        refine .inl (by (try rw [e1]); (try dsimp only); (try rw [e2]); (try rw [e3]); exact if_pos ⟨hg.1, by omega, hg.2.2⟩) ⟨rfl, fun a ha => ?_⟩ rfl
        funext j
        exact if_neg (fun z => by have := hg.2.2.1; omega)
      · cases h
    · cases h
  · cases h
theorem sq_stat (hd : d ≤ d') (hc : sm_cq B call call') (h : sm_stat call B d k idx len pc lv st S = some r) : sm_qs B S lv lv' r (sm_stat call' B d' k idx len pc lv' st S) := by
  unfold sm_stat at h ⊢
  split at h
  · next e1 => (try rw [e1]); exact sq_calls hc h
  · next e1 => (try rw [e1]); exact sq_copy hd h
theorem sq_reti (h : sm_reti k len st S = some r) : sm_qs B S lv lv' r (sm_reti k len st S) := by
  unfold sm_reti at h ⊢
  split at h
  · next e1 =>
    split at h
    · next hc => cases h; exact .inr (by (try rw [e1]); exact if_pos hc) (.refl _ _)
    · cases h
  · cases h
theorem sq_retj (h : sm_retj k len st S = some r) : sm_qs B S lv lv' r (sm_retj k len st S) := by
  unfold sm_retj at h ⊢
  split at h
  · next e1 =>
    split at h
    · next hc => cases h; exact .inr (by (try rw [e1]); exact if_pos hc) (.refl _ _)
    · cases h
  · cases h
theorem sq_retv (h : sm_retv k len st S = some r) : sm_qs B S lv lv' r (sm_retv k len st S) := by
  unfold sm_retv at h ⊢
  split at h
  · next e1 =>
    split at h
    · next hc => cases h; exact .inr (by (try rw [e1]); exact if_pos hc) (.refl _ _)
    · cases h
  · cases h
theorem sq_athrow (h : sm_athrow k len pc lv st S = some r) : sm_qs B S lv lv' r (sm_athrow k len pc lv' st S) := by
  unfold sm_athrow at h ⊢
  split at h
  · split at h
    · next hc => rw [if_pos hc]; exact sq_throw h
    · cases h
  · cases h
theorem sq_gd {x : Nat} {y y' : sm_N'} (hy : y = some r → sm_qs B S lv lv' r y') (h : sm_gd x y = some r) : sm_qs B S lv lv' r (sm_gd x y') := by
  obtain ⟨h1, h2⟩ := sm_gd_i h
  unfold sm_gd
  rw [if_pos h1]
  exact hy h2
theorem sq_op (hd : d ≤ d') (hc : sm_cq B call call') {i : Instr} (h : sm_op E B d true call k i len pc lv st S = some r) : sm_qs B S lv lv' r (sm_op E B d' q' call' k i len pc lv' st S) ∧ sm_pu i len pc lv' st = none := by
  cases i
  case getfield x => exact ⟨sq_gd sq_getf h, rfl⟩
  case putfield x => exact ⟨sq_gd sq_putf h, rfl⟩
  case getstatic x => exact ⟨sq_gd sq_gets h, rfl⟩
  case iaload => exact ⟨sq_ald h, rfl⟩
  case baload => exact ⟨sq_ald h, rfl⟩
  case laload => exact ⟨sq_ald h, rfl⟩
  case iastore => exact ⟨sq_asti h, rfl⟩
  case bastore => exact ⟨sq_asti h, rfl⟩
  case lastore => exact ⟨sq_astj h, rfl⟩
  case arraylength => exact ⟨sq_alen h, rfl⟩
  case newarray ty => exact ⟨sq_newa h, rfl⟩
  case new x => exact ⟨sq_gd sq_newo h, rfl⟩
  case ldc x => exact ⟨sq_gd sq_ldc h, rfl⟩
  case ldc_w x => exact ⟨sq_gd sq_ldc h, rfl⟩
  case ldc2_w x => exact ⟨sq_gd sq_ldc2 h, rfl⟩
  case invokestatic x => exact ⟨sq_gd (sq_stat hd hc) h, rfl⟩
  case invokevirtual x => exact ⟨sq_gd (sq_callv hc) h, rfl⟩
  case invokespecial x => exact ⟨sq_gd (sq_calli hd hc) h, rfl⟩
  case ireturn => exact ⟨sq_reti h, rfl⟩
  case lreturn => exact ⟨sq_retj h, rfl⟩
  case return_ => exact ⟨sq_retv h, rfl⟩
  case athrow => exact ⟨sq_athrow h, rfl⟩
  all_goals (exact absurd h (by intro z; cases z))
theorem sq_run (hd : d ≤ d') (hc : sm_cq B call call') : ∀ (n pc : Nat) (lv lv' st : List Value) (S : sm_S) (o : sm_O), sm_ord lv lv' → sm_run (sm_step E B d true call k) n (pc, lv, st, S) = some o → sm_run (sm_step E B d' q' call' k) n (pc, lv', st, S) = some o ∧ sm_ky B S o.2 := by
  intro n
  induction n with
  | zero => intro pc lv lv' st S o _ h; cases h
  | succ n ih =>
    intro pc lv lv' st S o ho h
    unfold sm_run at h ⊢
    split at h
    · next c' hs =>
      obtain ⟨i, len, hat, ⟨pc1, lv1, st1, hpu, he⟩ | hop⟩ := sm_step_i hs
      · cases he
        obtain ⟨lv2, h1, h2⟩ := sm_pu_ord ho hpu
        have e : sm_step E B d' q' call' k (pc, lv', st, S) = some (.inl (pc1, lv2, st1, S)) := by
          unfold sm_step
          rw [hat]
          dsimp only
          rw [h1]
        rw [e]
        exact ih pc1 lv1 lv2 st1 S o h2 h
      · obtain ⟨⟨h1, h2, h3⟩, h4⟩ := sq_op (d' := d') (lv' := lv') (q' := q') hd hc hop
        have e : sm_step E B d' q' call' k (pc, lv', st, S) = some (.inl (c'.1, lv', c'.2.2)) := by
          unfold sm_step
          rw [hat]
          dsimp only
          rw [h4]
          exact h1
        rw [e]
        obtain ⟨pc1, lv1, st1, S1⟩ := c'
        have e1 : lv1 = lv := h3 _ rfl
        subst e1
        obtain ⟨g1, g2⟩ := ih pc1 lv1 lv' st1 S1 o ho h
        exact ⟨g1, sm_ky.trans h2 g2⟩
    · next o' hs =>
      cases h
      obtain ⟨i, len, hat, ⟨pc1, lv1, st1, hpu, he⟩ | hop⟩ := sm_step_i hs
      · cases he
      · obtain ⟨⟨h1, h2, h3⟩, h4⟩ := sq_op (d' := d') (lv' := lv') (q' := q') hd hc hop
        have e : sm_step E B d' q' call' k (pc, lv', st, S) = some (.inr o) := by
          unfold sm_step
          rw [hat]
          dsimp only
          rw [h4]
          exact h1
        rw [e]
        exact ⟨rfl, h2⟩
    · cases h
end SQO
section SQE
variable {E : sm_E} {B : Nat} {q' : Bool}
theorem sq_ev : ∀ (d d' k : Nat) (as : List Value) (S : sm_S) (o : sm_O), d ≤ d' → sm_ev E B true d k as S = some o → sm_ev E B q' d' k as S = some o ∧ sm_ky B S o.2 := by
  intro d
  induction d with
  | zero =>
    intro d' k as S o hd h
    rw [sm_ev_eq] at h ⊢
    split at h
    · next hc =>
      rw [if_pos hc]
      obtain ⟨n, hn⟩ := sm_lim_some h
      obtain ⟨h1, h2⟩ := sq_run (E := E) (call := sm_cl E B true 0) (call' := sm_cl E B q' d') (q' := q') hd (fun y as S o ho => absurd (show (none : sm_R) = some o from ho) (by intro z; cases z)) n 0 _ _ [] S o (sm_ord.refl _) hn
      exact ⟨sm_lim_of h1, h2⟩
    · cases h
  | succ d ih =>
    intro d' k as S o hd h
    rw [sm_ev_eq] at h ⊢
    split at h
    · next hc =>
      rw [if_pos hc]
      obtain ⟨n, hn⟩ := sm_lim_some h
      obtain ⟨e, rfl⟩ : ∃ e, d' = e + 1 := ⟨d' - 1, by omega⟩
      obtain ⟨h1, h2⟩ := sq_run (E := E) (call := sm_cl E B true (d + 1)) (call' := sm_cl E B q' (e + 1)) (q' := q') hd (fun y as S o ho => ih e y as S o (by omega) ho) n 0 _ _ [] S o (sm_ord.refl _) hn
      exact ⟨sm_lim_of h1, h2⟩
    · cases h
theorem sq_cl {d d' : Nat} (hd : d ≤ d') : sm_cq B (sm_cl E B true d) (sm_cl E B q' d') := by
  intro y as S o ho
  cases d with
  | zero => exact absurd (show (none : sm_R) = some o from ho) (by intro z; cases z)
  | succ d =>
    obtain ⟨e, rfl⟩ : ∃ e, d' = e + 1 := ⟨d' - 1, by omega⟩
    exact sq_ev d e y as S o (by omega) ho
theorem sq_ex {d d' k pc : Nat} {lv lv' st : List Value} {S : sm_S} {o : sm_O} (hd : d ≤ d') (ho : sm_ord lv lv') (h : sm_ex E B true d k pc lv st S = some o) : sm_ex E B q' d' k pc lv' st S = some o ∧ sm_ky B S o.2 := by
  obtain ⟨n, hn⟩ := sm_lim_some h
  obtain ⟨h1, h2⟩ := sq_run (E := E) (q' := q') hd (sq_cl hd) n pc lv lv' st S o ho hn
  exact ⟨sm_lim_of h1, h2⟩
end SQE
