section CAW
variable {C : sm_K} {X t N : Nat} {T T' : Nat → Int32} {D : sm_D} {m : md_M}
theorem rI_go {o : Option sm_o} {r : Except Nat Int32} (h : sw o (fun w E => some (w, E) = rI D r)) : o = rI D r := by
  obtain ⟨w, E, h1, h2⟩ := h
  rw [h1, h2]
theorem a10 (hH : cH C X t T' N D) (hl : C.2.2.1.2 X 3 = .ref t) (hm : TR T t D m) {v : Int32} : sm_fe C 10 [.ref X, .int v] D = (match ac_in v m.1.length with | some _ => some (.inl none, D) | none => some (.inr D.2.2.2.1, sm_thr D 2)) := by
  obtain ⟨pl, σ, -, -, -, -, hG⟩ := hm
  have tr := (sm_tree_of hH.1 hH.2.1).1
  have h40 := hG.2.2.1
  have go : ∀ o : sm_o, sw (sm_fe C 10 [.ref X, .int v] D) (fun w E => (w, E) = o) → sm_fe C 10 [.ref X, .int v] D = some o := fun o ho => by
    obtain ⟨w, E, h1, h2⟩ := ho
    rw [h1, h2]
  cases ha : ac_in v m.1.length with
  | some k =>
    apply go
    refine sw_ge (f10 hH.1 tr hl) ?_
    rw [hG.1]
    simp only [sw_bv, c11 hH.1 (show m.1.length < 2147483648 by omega), ha, sw_some, sb_v]
  | none =>
    apply go
    refine sw_ge (f10 hH.1 tr hl) ?_
    rw [hG.1]
    simp only [sw_bv, c11 hH.1 (show m.1.length < 2147483648 by omega), ha, sw_some, sb_v]
    exact ⟨sm_tw_thr D 2, trivial⟩
theorem ac_ent_cases (v : Int32) (m : md_M) : (ac_in v m.1.length = none ∧ ac_ent m v = .error 2) ∨ ∃ j u, ac_in v m.1.length = some j ∧ v = ni j ∧ j < m.1.length ∧ m.1[j]? = some u ∧ ac_ent m v = .ok (j, u) := by
  unfold ac_ent
  cases ha : ac_in v m.1.length with
  | none => exact Or.inl ⟨rfl, rfl⟩
  | some j =>
    obtain ⟨hj, e⟩ := ac_in_some ha
    refine Or.inr ⟨j, m.1[j], rfl, e, hj, List.getElem?_eq_getElem hj, ?_⟩
    dsimp only
    rw [List.getElem?_eq_getElem hj]
theorem a149 (hH : cH C X t T' N D) {σ : Nat → List Int32} (hG : MG T t D σ m) {j : Nat} {u : md_E} (hj : m.1[j]? = some u) : sm_fe C 149 [.ref t, .int (ni j)] D = some (.inl (some (.int u.1)), D) := by
  have tr := (sm_tree_of hH.1 hH.2.1).1
  have h40 := hG.2.2.1
  have hlt : j < m.1.length := by
    rcases Nat.lt_or_ge j m.1.length with z | z
    · exact z
    · rw [List.getElem?_eq_none z] at hj; cases hj
  apply sw_eq
  refine sw_ge (f149 tr) ?_
  simp (disch := omega) only [sw_bi, c128 tr hG.1 h40 (show j < 2147483648 by omega), sw_some, sb_i, sw_ite, md_b_0, sw_gu, ni_in, ni_nat]
  rw [decide_eq_true hlt, if_neg (fun z => nomatch z), (hG.2.2.2.2.1 j u hj).1]
  exact ⟨decide_eq_true (by omega), rfl⟩
theorem a148 (hH : cH C X t T' N D) {σ : Nat → List Int32} (hG : MG T t D σ m) {v : Int32} : sm_fe C 148 [.ref t, .int v] D = some (.inl (some (.int (ni (ac_pc m.1 v)))), D) := by
  have tr := (sm_tree_of hH.1 hH.2.1).1
  have h40 := hG.2.2.1
  have loop : ∀ (n j c : Nat), j + n = m.1.length → c ≤ j → sm_fx C 148 4 [.ref t, .int v, .int (ni c), .int (ni j)] [] D = some (.inl (some (.int (ni (c + ac_pc (m.1.drop j) v)))), D) := by
    intro n
    induction n with
    | zero =>
      intro j c hj hc
      apply sw_eq
      refine sw_ge (n148_4 tr) ?_
      rw [hG.1]
      simp (disch := omega) only [sw_ite, ni_le, sw_some]
      rw [if_pos (by omega), List.drop_of_length_le (by omega)]
      rfl
    | succ n ih =>
      intro j c hj hc
      have hlt : j < m.1.length := by omega
      apply sw_eq
      refine sw_ge (n148_4 tr) ?_
      rw [hG.1]
      simp (disch := omega) only [sw_ite, ni_le, sw_bi, a149 hH hG (List.getElem?_eq_getElem hlt), sw_some, sb_i, ni_add]
      rw [if_neg (by omega), List.drop_eq_getElem_cons hlt]
      unfold ac_pc
      by_cases hc2 : m.1[j].1 = v
      · rw [if_pos hc2, List.filter_cons_of_pos (by rw [hc2]; exact beq_self_eq_true _), List.length_cons]
        rw [ih (j + 1) (c + 1) (by omega) (by omega), sw_some]
        unfold ac_pc
        rw [show c + 1 + (List.filter (fun u => u.1 == v) (List.drop (j + 1) m.1)).length = c + ((List.filter (fun u => u.1 == v) (List.drop (j + 1) m.1)).length + 1) from by omega]
      · rw [if_neg hc2, List.filter_cons_of_neg (by rw [beq_iff_eq]; exact hc2), ih (j + 1) c (by omega) (by omega), sw_some]
        rfl
  apply sw_eq
  refine sw_ge (f148 tr) ?_
  rw [loop m.1.length 0 0 (by omega) (by omega), sw_some, Nat.zero_add, List.drop_zero]
theorem a150 (hH : cH C X t T' N D) {σ : Nat → List Int32} (hG : MG T t D σ m) {v k : Int32} : sm_fe C 150 [.ref t, .int v, .int k] D = some (.inl (some (.int (ac_pn v k m.1 0 0))), D) := by
  have tr := (sm_tree_of hH.1 hH.2.1).1
  have h40 := hG.2.2.1
  have loop : ∀ (n j c : Nat), j + n = m.1.length → c ≤ j → sm_fx C 150 5 [.ref t, .int v, .int k, .int (ni c), .int (ni j)] [] D = some (.inl (some (.int (ac_pn v k (m.1.drop j) c j))), D) := by
    intro n
    induction n with
    | zero =>
      intro j c hj hc
      apply sw_eq
      refine sw_ge (n150_5 tr) ?_
      rw [hG.1]
      simp (disch := omega) only [sw_ite, ni_le, sw_some]
      rw [if_pos (by omega), List.drop_of_length_le (by omega)]
      rfl
    | succ n ih =>
      intro j c hj hc
      have hlt : j < m.1.length := by omega
      apply sw_eq
      refine sw_ge (n150_5 tr) ?_
      rw [hG.1]
      simp (disch := omega) only [sw_ite, ni_le, sw_bi, a149 hH hG (List.getElem?_eq_getElem hlt), sw_some, sb_i, ni_add]
      rw [if_neg (by omega), List.drop_eq_getElem_cons hlt]
      unfold ac_pn
      by_cases hc2 : m.1[j].1 = v
      · rw [if_pos hc2, if_pos hc2]
        by_cases hc3 : ni c = k
        · rw [if_pos hc3, if_pos hc3]
        · rw [if_neg hc3, if_neg hc3, ih (j + 1) (c + 1) (by omega) (by omega), sw_some]
      · rw [if_neg hc2, if_neg hc2, ih (j + 1) c (by omega) (by omega), sw_some]
  apply sw_eq
  refine sw_ge (f150 tr) ?_
  rw [loop m.1.length 0 0 (by omega) (by omega), sw_some, List.drop_zero]
theorem a12 (hH : cH C X t T' N D) (hl : C.2.2.1.2 X 3 = .ref t) (hm : TR T t D m) {i k : Int32} : sm_fe C 12 [.ref X, .int i, .int k] D = rI D (ac_part m i k) := by
  have tr := (sm_tree_of hH.1 hH.2.1).1
  have h10 := a10 (v := i) hH hl hm
  obtain ⟨pl, σ, -, -, -, -, hG⟩ := hm
  apply rI_go
  refine sw_ge (f12 hH.1 tr hl) ?_
  rw [sw_bv, h10]
  unfold ac_part
  rcases ac_ent_cases i m with ⟨e1, e2⟩ | ⟨j, u, e1, rfl, e3, e4, e5⟩
  · rw [e1, e2]
    exact (sw_some (Q := _)).mpr ⟨sm_tw_thr D 2, rfl⟩
  · rw [e1, e5]
    simp only [sw_some, sb_v, sw_bi, a150 hH hG, sb_i]
    rfl
theorem a13 (hH : cH C X t T' N D) (hl : C.2.2.1.2 X 3 = .ref t) (hm : TR T t D m) {i k : Int32} : sm_fe C 13 [.ref X, .int i, .int k] D = rI D (ac_octet m i k) := by
  have hX := hH.1
  have tr := (sm_tree_of hH.1 hH.2.1).1
  have h10 := a10 (v := i) hH hl hm
  obtain ⟨pl, σ, p1, p2, p3, p4, hG⟩ := hm
  have h40 := hG.2.2.1
  apply rI_go
  refine sw_ge (f13 hH.1 tr hl) ?_
  rw [sw_bv, h10]
  unfold ac_octet
  rcases ac_ent_cases i m with ⟨e1, e2⟩ | ⟨j, u, e1, rfl, e3, e4, e5⟩
  · rw [e1, e2]
    exact (sw_some (Q := _)).mpr ⟨sm_tw_thr D 2, rfl⟩
  · have en := hG.2.2.2.2.1 j u e4
    have eo : σ (1020 + j) = u.2.2.2.2.2 := en.2.2.2.2
    have hol : u.2.2.2.2.2.length ≤ 16400 := by rw [← eo]; have := (p4 (1020 + j) (by omega)).2.1; omega
    rw [e1, e5]
    simp only [sw_some, sb_v, sw_bi, c147, sb_i, a138 hH p1 p3 p4 (show 1020 + j < 1061 by omega), eo, sw_bv, c11 hX (show u.2.2.2.2.2.length < 2147483648 by omega), bind, Except.bind]
    cases ha : ac_in k u.2.2.2.2.2.length with
    | none =>
      simp only [sw_some, sb_v]
      exact ⟨sm_tw_thr D 2, rfl⟩
    | some q =>
      obtain ⟨hq, rfl⟩ := ac_in_some ha
      simp only [sw_some, sb_v, sw_bi, c147, sb_i]
      rw [a139 hH p1 p2 p3 p4 (by omega) (by rw [eo]; exact hq), sw_some, sb_i, sw_some, eo]
      rfl
end CAW
