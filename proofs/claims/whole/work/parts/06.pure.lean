/-! ===== soundness of the instructions that touch no cell ===== -/
def sm_lv (ls : Array Slot) (lv : List Value) : Prop := ls.size = lv.length ∧ lv_wf ls ∧ ∀ (i : Nat) (v : Value), lv[i]? = some v → v ≠ sm_junk → ls[i]? = some (.val v)
def sm_al (lv : List Value) : List (Nat × Value) := (lv.zipIdx.filter (fun q => decide (q.1 ≠ sm_junk))).map (fun q => (q.2, q.1))
theorem sm_al_mem {lv : List Value} {i : Nat} {v : Value} : (i, v) ∈ sm_al lv ↔ lv[i]? = some v ∧ v ≠ sm_junk := by
  unfold sm_al
  constructor
  · intro h
    obtain ⟨⟨w, j⟩, h1, h2⟩ := List.mem_map.mp h
    obtain ⟨h3, h4⟩ := List.mem_filter.mp h1
    cases h2
    exact ⟨List.mk_mem_zipIdx_iff_getElem?.mp h3, by simpa using h4⟩
  · intro ⟨h1, h2⟩
    exact List.mem_map.mpr ⟨(v, i), List.mem_filter.mpr ⟨List.mk_mem_zipIdx_iff_getElem?.mpr h1, by simpa using h2⟩, rfl⟩
theorem sm_lv_has {ls : Array Slot} {lv : List Value} (h : sm_lv ls lv) : lv_has ls lv.length (sm_al lv) :=
  ⟨h.1, h.2.1, fun q hq => h.2.2 q.1 q.2 (sm_al_mem.mp hq).1 (sm_al_mem.mp hq).2⟩
theorem sm_cut_len (lv : List Value) (i : Nat) : (sm_cut lv i).length = lv.length := by
  unfold sm_cut
  split
  · rfl
  · split <;> simp
theorem sm_st1_len (lv : List Value) (i : Nat) (v : Value) : (sm_st1 lv i v).length = lv.length := by simp [sm_st1, sm_cut_len]
theorem sm_st2_len (lv : List Value) (i : Nat) (v : Value) : (sm_st2 lv i v).length = lv.length := by simp [sm_st2, sm_cut_len]
theorem sm_cut_get {lv : List Value} {i j : Nat} {w : Value} (h : (sm_cut lv i)[j]? = some w) (hw : w ≠ sm_junk) : lv[j]? = some w ∧ ¬ (j + 1 = i ∧ w.category = 2) := by
  unfold sm_cut at h
  split at h
  · exact ⟨h, fun q => by omega⟩
  · next k =>
    split at h
    · next hc =>
      by_cases hj : j = k
      · subst hj
        by_cases hl : j < lv.length
        · rw [List.getElem?_set_self hl] at h
          cases h
          exact absurd rfl hw
        · rw [List.set_eq_of_length_le (by omega)] at h
          exact absurd (List.getElem?_eq_some_iff.mp h).1 hl
      · rw [List.getElem?_set_ne (fun q => hj q.symm)] at h
        exact ⟨h, fun q => hj (by omega)⟩
    · next hc =>
      refine ⟨h, fun q => ?_⟩
      have e : j = k := by omega
      subst e
      rw [List.getD_eq_getElem?_getD, h] at hc
      exact hc q.2
theorem sm_lv_st1 {ls : Array Slot} {lv : List Value} {i : Nat} {v : Value} (hi : i < lv.length)
    (h : lv_has ls lv.length ((i, v) :: (sm_al lv).filter (fun q => !(q.1 == i) && !(q.1 + 1 == i && q.2.category == 2)))) : sm_lv ls (sm_st1 lv i v) := by
  refine ⟨by rw [sm_st1_len]; exact h.1, h.2.1, fun j w hj hw => ?_⟩
  by_cases e : j = i
  · subst e
    unfold sm_st1 at hj
    rw [List.getElem?_set_self (by rw [sm_cut_len]; exact hi)] at hj
    cases hj
    exact h.2.2 (j, v) List.mem_cons_self
  · unfold sm_st1 at hj
    rw [List.getElem?_set_ne (fun q => e q.symm)] at hj
    obtain ⟨h1, h2⟩ := sm_cut_get hj hw
    refine h.2.2 (j, w) (List.mem_cons_of_mem _ (List.mem_filter.mpr ⟨sm_al_mem.mpr ⟨h1, hw⟩, ?_⟩))
    simp only [Bool.and_eq_true, Bool.not_eq_true', beq_eq_false_iff_ne, ne_eq, Bool.and_eq_false_imp, beq_iff_eq]
    exact ⟨e, fun q1 q2 => h2 ⟨q1, q2⟩⟩
theorem sm_lv_st2 {ls : Array Slot} {lv : List Value} {i : Nat} {v : Value} (hi : i + 1 < lv.length)
    (h : lv_has ls lv.length ((i, v) :: (sm_al lv).filter (fun q => !(q.1 == i) && (!(q.1 == i + 1) && !(q.1 + 1 == i && q.2.category == 2))))) : sm_lv ls (sm_st2 lv i v) := by
  refine ⟨by rw [sm_st2_len]; exact h.1, h.2.1, fun j w hj hw => ?_⟩
  unfold sm_st2 at hj
  by_cases e1 : j = i + 1
  · subst e1
    rw [List.getElem?_set_self (by rw [List.length_set, sm_cut_len]; exact hi)] at hj
    cases hj
    exact absurd rfl hw
  · rw [List.getElem?_set_ne (fun q => e1 q.symm)] at hj
    by_cases e : j = i
    · subst e
      rw [List.getElem?_set_self (by rw [sm_cut_len]; omega)] at hj
      cases hj
      exact h.2.2 (j, v) List.mem_cons_self
    · rw [List.getElem?_set_ne (fun q => e q.symm)] at hj
      obtain ⟨h1, h2⟩ := sm_cut_get hj hw
      refine h.2.2 (j, w) (List.mem_cons_of_mem _ (List.mem_filter.mpr ⟨sm_al_mem.mpr ⟨h1, hw⟩, ?_⟩))
      simp only [Bool.and_eq_true, Bool.not_eq_true', beq_eq_false_iff_ne, ne_eq, Bool.and_eq_false_imp, beq_iff_eq]
      exact ⟨e, e1, fun q1 q2 => h2 ⟨q1, q2⟩⟩
theorem sm_tg_eq {pc : Nat} {off : Int} {t : Nat} (h : sm_tg pc off = some t) : (pc : Int) + off = (t : Int) := by
  unfold sm_tg at h
  split at h
  · next hp =>
    cases h
    omega
  · cases h
section SPI
variable {len n pc i pc' : Nat} {lv st lv' st' : List Value} {v : Value}
theorem sp_push_i (h : sp_push len n pc lv st v = some (pc', lv', st')) : len = n ∧ pc' = pc + n ∧ lv' = lv ∧ st' = v :: st := by
  unfold sp_push at h
  split at h
  · next e => cases h; exact ⟨e, rfl, rfl, rfl⟩
  · cases h
theorem sp_ldi_i (h : sp_ldi len n pc i lv st = some (pc', lv', st')) : ∃ x, lv[i]? = some (.int x) ∧ len = n ∧ pc' = pc + n ∧ lv' = lv ∧ st' = .int x :: st := by
  unfold sp_ldi at h
  split at h
  · next x e1 =>
    split at h
    · next e => cases h; exact ⟨x, e1, e, rfl, rfl, rfl⟩
    · cases h
  · cases h
theorem sp_ldl_i (h : sp_ldl len n pc i lv st = some (pc', lv', st')) : ∃ x, lv[i]? = some (.long x) ∧ len = n ∧ pc' = pc + n ∧ lv' = lv ∧ st' = .long x :: st := by
  unfold sp_ldl at h
  split at h
  · next x e1 =>
    split at h
    · next e => cases h; exact ⟨x, e1, e, rfl, rfl, rfl⟩
    · cases h
  · cases h
theorem sp_lda_i (h : sp_lda len n pc i lv st = some (pc', lv', st')) : (∃ x, lv[i]? = some (.ref x) ∧ len = n ∧ pc' = pc + n ∧ lv' = lv ∧ st' = .ref x :: st) ∨ (lv[i]? = some .null ∧ len = n ∧ pc' = pc + n ∧ lv' = lv ∧ st' = .null :: st) := by
  unfold sp_lda at h
  split at h
  · next x e1 =>
    split at h
    · next e => cases h; exact Or.inl ⟨x, e1, e, rfl, rfl, rfl⟩
    · cases h
  · next e1 =>
    split at h
    · next e => cases h; exact Or.inr ⟨e1, e, rfl, rfl, rfl⟩
    · cases h
  · cases h
theorem sp_sti_i (h : sp_sti len n pc i lv st = some (pc', lv', st')) : ∃ x, st = .int x :: st' ∧ len = n ∧ i < lv.length ∧ pc' = pc + n ∧ lv' = sm_st1 lv i (.int x) := by
  unfold sp_sti at h
  split at h
  · next x r =>
    split at h
    · next e => cases h; exact ⟨x, rfl, e.1, e.2, rfl, rfl⟩
    · cases h
  · cases h
theorem sp_sta_i (h : sp_sta len n pc i lv st = some (pc', lv', st')) : ∃ x, st = .ref x :: st' ∧ len = n ∧ i < lv.length ∧ pc' = pc + n ∧ lv' = sm_st1 lv i (.ref x) := by
  unfold sp_sta at h
  split at h
  · next x r =>
    split at h
    · next e => cases h; exact ⟨x, rfl, e.1, e.2, rfl, rfl⟩
    · cases h
  · cases h
theorem sp_stl_i (h : sp_stl len n pc i lv st = some (pc', lv', st')) : ∃ x, st = .long x :: st' ∧ len = n ∧ i + 1 < lv.length ∧ pc' = pc + n ∧ lv' = sm_st2 lv i (.long x) := by
  unfold sp_stl at h
  split at h
  · next x r =>
    split at h
    · next e => cases h; exact ⟨x, rfl, e.1, e.2, rfl, rfl⟩
    · cases h
  · cases h
theorem sp_inc_i {k : Int} (h : sp_inc len pc i k lv st = some (pc', lv', st')) : ∃ x, lv[i]? = some (.int x) ∧ len = 3 ∧ i < lv.length ∧ pc' = pc + 3 ∧ lv' = sm_st1 lv i (.int (x + Int32.ofInt k)) ∧ st' = st := by
  unfold sp_inc at h
  split at h
  · next x e1 =>
    split at h
    · next e => cases h; exact ⟨x, e1, e.1, e.2, rfl, rfl, rfl⟩
    · cases h
  · cases h
theorem sp_ii_i {f : Int32 → Int32 → Int32} (h : sp_ii f len pc lv st = some (pc', lv', st')) : ∃ x y r, st = .int y :: .int x :: r ∧ len = 1 ∧ pc' = pc + 1 ∧ lv' = lv ∧ st' = .int (f x y) :: r := by
  unfold sp_ii at h
  split at h
  · next y x r =>
    split at h
    · next e => cases h; exact ⟨x, y, r, rfl, e, rfl, rfl, rfl⟩
    · cases h
  · cases h
theorem sp_dv_i {f : Int32 → Int32 → Int32} (h : sp_dv f len pc lv st = some (pc', lv', st')) : ∃ x y r, st = .int y :: .int x :: r ∧ len = 1 ∧ ¬ y = 0 ∧ pc' = pc + 1 ∧ lv' = lv ∧ st' = .int (f x y) :: r := by
  unfold sp_dv at h
  split at h
  · next y x r =>
    split at h
    · next e => cases h; exact ⟨x, y, r, rfl, e.1, e.2, rfl, rfl, rfl⟩
    · cases h
  · cases h
theorem sp_ll_i {f : Int64 → Int64 → Int64} (h : sp_ll f len pc lv st = some (pc', lv', st')) : ∃ x y r, st = .long y :: .long x :: r ∧ len = 1 ∧ pc' = pc + 1 ∧ lv' = lv ∧ st' = .long (f x y) :: r := by
  unfold sp_ll at h
  split at h
  · next y x r =>
    split at h
    · next e => cases h; exact ⟨x, y, r, rfl, e, rfl, rfl, rfl⟩
    · cases h
  · cases h
theorem sp_dl_i {f : Int64 → Int64 → Int64} (h : sp_dl f len pc lv st = some (pc', lv', st')) : ∃ x y r, st = .long y :: .long x :: r ∧ len = 1 ∧ ¬ y = 0 ∧ pc' = pc + 1 ∧ lv' = lv ∧ st' = .long (f x y) :: r := by
  unfold sp_dl at h
  split at h
  · next y x r =>
    split at h
    · next e => cases h; exact ⟨x, y, r, rfl, e.1, e.2, rfl, rfl, rfl⟩
    · cases h
  · cases h
theorem sp_i1_i {f : Int32 → Value} (h : sp_i1 f len pc lv st = some (pc', lv', st')) : ∃ x r, st = .int x :: r ∧ len = 1 ∧ pc' = pc + 1 ∧ lv' = lv ∧ st' = f x :: r := by
  unfold sp_i1 at h
  split at h
  · next x r =>
    split at h
    · next e => cases h; exact ⟨x, r, rfl, e, rfl, rfl, rfl⟩
    · cases h
  · cases h
theorem sp_l1_i {f : Int64 → Value} (h : sp_l1 f len pc lv st = some (pc', lv', st')) : ∃ x r, st = .long x :: r ∧ len = 1 ∧ pc' = pc + 1 ∧ lv' = lv ∧ st' = f x :: r := by
  unfold sp_l1 at h
  split at h
  · next x r =>
    split at h
    · next e => cases h; exact ⟨x, r, rfl, e, rfl, rfl, rfl⟩
    · cases h
  · cases h
theorem sp_lcmp_i (h : sp_lcmp len pc lv st = some (pc', lv', st')) : ∃ x y r, st = .long y :: .long x :: r ∧ len = 1 ∧ pc' = pc + 1 ∧ lv' = lv ∧ st' = .int (lg_cmp x y) :: r := by
  unfold sp_lcmp at h
  split at h
  · next y x r =>
    split at h
    · next e => cases h; exact ⟨x, y, r, rfl, e, rfl, rfl, rfl⟩
    · cases h
  · cases h
theorem sp_dup_i (h : sp_dup len pc lv st = some (pc', lv', st')) : ∃ v r, st = v :: r ∧ len = 1 ∧ v.category = 1 ∧ pc' = pc + 1 ∧ lv' = lv ∧ st' = v :: v :: r := by
  unfold sp_dup at h
  split at h
  · next v r =>
    split at h
    · next e => cases h; exact ⟨v, r, rfl, e.1, e.2, rfl, rfl, rfl⟩
    · cases h
  · cases h
theorem sp_dup2_i (h : sp_dup2 len pc lv st = some (pc', lv', st')) : ∃ v w r, st = v :: w :: r ∧ len = 1 ∧ v.category = 1 ∧ w.category = 1 ∧ pc' = pc + 1 ∧ lv' = lv ∧ st' = v :: w :: v :: w :: r := by
  unfold sp_dup2 at h
  split at h
  · next v w r =>
    split at h
    · next e => cases h; exact ⟨v, w, r, rfl, e.1, e.2.1, e.2.2, rfl, rfl, rfl⟩
    · cases h
  · cases h
theorem sp_pop_i (h : sp_pop len pc lv st = some (pc', lv', st')) : ∃ v, st = v :: st' ∧ len = 1 ∧ v.category = 1 ∧ pc' = pc + 1 ∧ lv' = lv := by
  unfold sp_pop at h
  split at h
  · next v r =>
    split at h
    · next e => cases h; exact ⟨v, rfl, e.1, e.2, rfl, rfl⟩
    · cases h
  · cases h
theorem sp_if_i {cd : ClassFile.Cond} {off : Int} (h : sp_if cd off len pc lv st = some (pc', lv', st')) : ∃ (x : Int32) (t : Nat), st = .int x :: st' ∧ (pc : Int) + off = (t : Int) ∧ len = 3 ∧ pc' = (if sm_cmp cd x 0 then t else pc + 3) ∧ lv' = lv := by
  unfold sp_if at h
  split at h
  · next x r t e1 =>
    split at h
    · next e => cases h; exact ⟨x, t, rfl, sm_tg_eq e1, e, rfl, rfl⟩
    · cases h
  · cases h
theorem sp_icmp_i {cd : ClassFile.Cond} {off : Int} (h : sp_icmp cd off len pc lv st = some (pc', lv', st')) : ∃ (x y : Int32) (t : Nat), st = .int y :: .int x :: st' ∧ (pc : Int) + off = (t : Int) ∧ len = 3 ∧ pc' = (if sm_cmp cd x y then t else pc + 3) ∧ lv' = lv := by
  unfold sp_icmp at h
  split at h
  · next y x r t e1 =>
    split at h
    · next e => cases h; exact ⟨x, y, t, rfl, sm_tg_eq e1, e, rfl, rfl⟩
    · cases h
  · cases h
theorem sp_goto_i {off : Int} (h : sp_goto off len pc lv st = some (pc', lv', st')) : (pc : Int) + off = (pc' : Int) ∧ len = 3 ∧ lv' = lv ∧ st' = st := by
  unfold sp_goto at h
  split at h
  · next t e1 =>
    split at h
    · next e => cases h; exact ⟨sm_tg_eq e1, e, rfl, rfl⟩
    · cases h
  · cases h
theorem sp_tsw_i {d lo hi : Int} {offs : Array Int} (h : sp_tsw d lo hi offs pc lv st = some (pc', lv', st')) : ∃ x, st = .int x :: st' ∧ lv' = lv ∧ (((x.toInt < lo ∨ hi < x.toInt) ∧ (pc : Int) + d = (pc' : Int)) ∨ (¬ x.toInt < lo ∧ ¬ hi < x.toInt ∧ ∃ off, offs[(x.toInt - lo).toNat]? = some off ∧ (pc : Int) + off = (pc' : Int))) := by
  unfold sp_tsw at h
  split at h
  · next x r =>
    split at h
    · next e =>
      obtain ⟨t, h1, h2⟩ := Option.map_eq_some_iff.mp h
      cases h2
      exact ⟨x, rfl, rfl, Or.inl ⟨e, sm_tg_eq h1⟩⟩
    · next e =>
      split at h
      · next off e2 =>
        obtain ⟨t, h1, h2⟩ := Option.map_eq_some_iff.mp h
        cases h2
        exact ⟨x, rfl, rfl, Or.inr ⟨fun q => e (Or.inl q), fun q => e (Or.inr q), off, e2, sm_tg_eq h1⟩⟩
      · cases h
  · cases h
end SPI
