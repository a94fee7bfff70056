section CAX
variable {C : sm_K} {X t N : Nat} {T T' : Nat → Int32} {D : sm_D} {m : md_M}
theorem rI_bi {r : Except Nat Int32} : sw (rI D r) (sb_i (fun x E => some (.inl (some (.int x)), E)) (fun w E => some (w, E) = rI D r)) := by
  cases r with
  | ok v => exact (sw_some (Q := _)).mpr ((sw_some (Q := _)).mpr rfl)
  | error z => exact (sw_some (Q := _)).mpr ⟨sm_tw_thr D z, rfl⟩
theorem rI_er {z : Nat} {f : sm_D → Option sm_o} : sw (some (.inr D.2.2.2.1, sm_thr D z)) (sb_v f (fun w E => some (w, E) = rI D (.error z))) := (sw_some (Q := _)).mpr ⟨sm_tw_thr D z, rfl⟩
theorem rI_bv {f : sm_D → Option sm_o} {Q : (Option Value ⊕ Nat) → sm_D → Prop} (h : sw (f D) Q) : sw (some (.inl none, D)) (sb_v f Q) := (sw_some (Q := _)).mpr h
theorem ac_in_lt {k n : Nat} {v : Int32} (h : ac_in v n = some k) : v = ni k ∧ k < n := ⟨(ac_in_some h).2, (ac_in_some h).1⟩
theorem a9 (hH : cH C X t T' N D) (hl : C.2.2.1.2 X 3 = .ref t) (hm : TR T t D m) {i k : Int32} : sm_fe C 9 [.ref X, .int i, .int k] D = rI D (ac_entity m i k) := by
  have hX := hH.1
  have tr := (sm_tree_of hH.1 hH.2.1).1
  have h10 := a10 (v := i) hH hl hm
  obtain ⟨pl, σ, p1, p2, p3, p4, hG⟩ := hm
  have h40 := hG.2.2.1
  apply rI_go
  refine sw_ge (f9 hH.1 tr hl) ?_
  rw [sw_bv, h10]
  unfold ac_entity
  rcases ac_ent_cases i m with ⟨e1, e2⟩ | ⟨j, u, e1, rfl, e3, e4, e5⟩
  · rw [e1, e2]
    exact rI_er
  · have en := hG.2.2.2.2.1 j u e4
    have hj : j < 40 := by omega
    have g0 : sm_in_b (ni j) 40 = true := by rw [ni_in (by omega)]; exact decide_eq_true hj
    have g1 : (ni j).toNatClampNeg = j := ni_nat (by omega)
    rw [e1, e5]
    refine rI_bv ?_
    show sw _ (fun w E => some (w, E) = rI D (match ac_in k 7 with
      | some 0 => .ok u.1
      | some 1 => .ok (ni (ac_pc m.1 (ni j)))
      | some 2 => .ok (ni u.2.1.length)
      | some 3 => .ok (ni u.2.2.2.2.2.length)
      | some 4 => .ok (ni u.2.2.2.1)
      | some 5 => .ok (ni u.2.2.1.2.2.length)
      | some _ => .ok (md_b u.2.2.2.2.1)
      | none => .error 2))
    rw [g1]
    cases ha : ac_in k 7 with
    | none =>
      have ne : ∀ q, q < 7 → (k = ni q) = False := fun q hq => eq_false (fun z => by rw [z, ac_in_ni hq (by omega)] at ha; cases ha)
      simp (disch := omega) only [sm_sw, ne, Nat.reduceAdd, if_false, sw_some]
      rfl
    | some q =>
      obtain ⟨rfl, hq⟩ := ac_in_lt ha
      match q, hq with
      | 0, _ =>
        simp (disch := omega) only [sm_sw, ni_inj, Nat.reduceAdd, sw_ite, sw_gu, sw_some, g0, en.1, Nat.reduceEqDiff, if_true, if_false]
        exact ⟨trivial, rfl⟩
      | 1, _ =>
        simp (disch := omega) only [sm_sw, ni_inj, Nat.reduceAdd, sw_ite, sw_bi, a148 hH hG, sb_i, sw_gu, sw_some, g0, en.1, Nat.reduceEqDiff, if_true, if_false]
        rfl
      | 2, _ =>
        simp (disch := omega) only [sm_sw, ni_inj, Nat.reduceAdd, sw_ite, sw_gu, sw_some, g0, en.2.1.2.1, Nat.reduceEqDiff, if_true, if_false]
        exact ⟨trivial, rfl⟩
      | 3, _ =>
        simp (disch := omega) only [sm_sw, ni_inj, Nat.reduceAdd, sw_ite, sw_bi, c147, a138 hH p1 p3 p4 (show 1020 + j < 1061 by omega), sb_i, sw_gu, sw_some, g0, en.2.2.2.2, Nat.reduceEqDiff, if_true, if_false]
        rfl
      | 4, _ =>
        simp (disch := omega) only [sm_sw, ni_inj, Nat.reduceAdd, sw_ite, sw_gu, sw_some, g0, en.2.2.2.1, Nat.reduceEqDiff, if_true, if_false]
        exact ⟨trivial, rfl⟩
      | 5, _ =>
        simp (disch := omega) only [sm_sw, ni_inj, Nat.reduceAdd, sw_ite, sw_gu, sw_some, g0, en.2.2.1.2.2.2.2.1, Nat.reduceEqDiff, if_true, if_false]
        exact ⟨trivial, rfl⟩
      | 6, _ =>
        simp (disch := omega) only [sm_sw, ni_inj, Nat.reduceAdd, sw_ite, sw_gu, sw_some, g0, en.2.2.1.2.2.2.2.2, md_b_0, Nat.reduceEqDiff, if_true, if_false]
        cases u.2.2.2.2.1
        · exact ⟨trivial, rfl⟩
        · exact ⟨trivial, rfl⟩
theorem a15 (hH : cH C X t T' N D) (hl : C.2.2.1.2 X 3 = .ref t) (hm : TR T t D m) {i f : Int32} : (∃ z, ac_fld m i f = .error z ∧ sm_fe C 15 [.ref X, .int i, .int f] D = some (.inr D.2.2.2.1, sm_thr D z)) ∨ ∃ j n u h, i = ni j ∧ f = ni n ∧ j < m.1.length ∧ m.1[j]? = some u ∧ n < u.2.1.length ∧ u.2.1[n]? = some h ∧ ac_fld m i f = .ok h ∧ sm_fe C 15 [.ref X, .int i, .int f] D = some (.inl none, D) := by
  have hX := hH.1
  have tr := (sm_tree_of hH.1 hH.2.1).1
  have h10 := a10 (v := i) hH hl hm
  obtain ⟨pl, σ, p1, p2, p3, p4, hG⟩ := hm
  have h40 := hG.2.2.1
  have go : ∀ o : sm_o, sw (sm_fe C 15 [.ref X, .int i, .int f] D) (fun w E => (w, E) = o) → sm_fe C 15 [.ref X, .int i, .int f] D = some o := fun o ho => by
    obtain ⟨w, E, h1, h2⟩ := ho
    rw [h1, h2]
  unfold ac_fld
  rcases ac_ent_cases i m with ⟨e1, e2⟩ | ⟨j, u, e1, rfl, e3, e4, e5⟩
  · refine Or.inl ⟨2, by rw [e2]; rfl, go _ ?_⟩
    refine sw_ge (f15 hH.1 tr hl) ?_
    rw [sw_bv, h10, e1]
    exact (sw_some (Q := _)).mpr ⟨sm_tw_thr D 2, rfl⟩
  · have en := hG.2.2.2.2.1 j u e4
    have hj : j < 40 := by omega
    have g0 : sm_in_b (ni j) 40 = true := by rw [ni_in (by omega)]; exact decide_eq_true hj
    have g1 : (ni j).toNatClampNeg = j := ni_nat (by omega)
    have h20 := en.2.1.2.2.1
    rw [e5]
    cases ha : ac_in f u.2.1.length with
    | none =>
      refine Or.inl ⟨2, ?_, go _ ?_⟩
      · simp only [bind, Except.bind, ha]
      · refine sw_ge (f15 hH.1 tr hl) ?_
        rw [sw_bv, h10, e1]
        refine rI_bv ?_
        rw [sw_gu, g1, en.2.1.2.1, sw_bv, c11 hX (by omega), ha]
        exact ⟨g0, (sw_some (Q := _)).mpr ⟨sm_tw_thr D 2, rfl⟩⟩
    | some n =>
      obtain ⟨rfl, hn⟩ := ac_in_lt ha
      refine Or.inr ⟨j, n, u, u.2.1[n], rfl, rfl, e3, e4, hn, List.getElem?_eq_getElem hn, ?_, go _ ?_⟩
      · simp only [bind, Except.bind, ha, List.getElem?_eq_getElem hn]
      · refine sw_ge (f15 hH.1 tr hl) ?_
        rw [sw_bv, h10, e1]
        refine rI_bv ?_
        rw [sw_gu, g1, en.2.1.2.1, sw_bv, c11 hX (by omega), ha]
        exact ⟨g0, (sw_some (Q := _)).mpr ((sw_some (Q := _)).mpr rfl)⟩
theorem a129 (hH : cH C X t T' N D) {σ : Nat → List Int32} (hG : MG T t D σ m) {j n : Nat} {u : md_E} {h : md_F} (hj : j < m.1.length) (hu : m.1[j]? = some u) (hn : n < u.2.1.length) (hh : u.2.1[n]? = some h) : sm_fe C 129 [.ref t, .int (ni j), .int (ni n)] D = some (.inl (some (.int (ni h.1))), D) := by
  have tr := (sm_tree_of hH.1 hH.2.1).1
  have h40 := hG.2.2.1
  have h200 : m.tot ≤ 200 := hG.2.2.2.1
  have en := hG.2.2.2.2.1 j u hu
  have hb : md_tb m.1 j + u.2.1.length ≤ m.tot := md_tb_get hu
  apply sw_eq
  refine sw_ge (f129 tr) ?_
  simp (disch := omega) only [sw_bi, c128 tr hG.1 h40 (show j < 2147483648 by omega), sw_some, sb_i, sw_ite, md_b_0, sw_gu, ni_in, ni_nat, en.2.1.1, ni_add]
  rw [decide_eq_true hj, if_neg (fun z => nomatch z)]
  refine ⟨decide_eq_true (by omega), ?_⟩
  refine sw_ge (n129_20 tr) ?_
  simp (disch := omega) only [sw_some, sw_ite, sw_gu, ni_in, ni_nat, hG.2.1, ni_lt, ni_le]
  rw [if_neg (by omega), if_neg (by omega), if_neg (by omega), (en.2.1.2.2.2.1 n h hh).1]
  exact ⟨decide_eq_true (by omega), rfl⟩
theorem a14 (hH : cH C X t T' N D) (hl : C.2.2.1.2 X 3 = .ref t) (hm : TR T t D m) {i f : Int32} : sm_fe C 14 [.ref X, .int i, .int f] D = rI D (ac_kind m i f) := by
  have hX := hH.1
  have tr := (sm_tree_of hH.1 hH.2.1).1
  have h15 := a15 (i := i) (f := f) hH hl hm
  obtain ⟨pl, σ, p1, p2, p3, p4, hG⟩ := hm
  have h40 := hG.2.2.1
  apply rI_go
  refine sw_ge (f14 hH.1 tr hl) ?_
  unfold ac_kind
  rw [sw_bv]
  rcases h15 with ⟨z, e1, e2⟩ | ⟨j, n, u, h, rfl, rfl, e3, e4, e5, e6, e7, e8⟩
  · rw [e1, e2]
    exact rI_er
  · rw [e7, e8]
    refine rI_bv ?_
    have en := hG.2.2.2.2.1 j u e4
    have := a129 hH hG e3 e4 e5 e6
    rw [sw_bi, this]
    exact (sw_some (Q := _)).mpr ((sw_some (Q := _)).mpr rfl)
theorem a16 (hH : cH C X t T' N D) (hl : C.2.2.1.2 X 3 = .ref t) (hm : TR T t D m) {i f w k : Int32} : sm_fe C 16 [.ref X, .int i, .int f, .int w, .int k] D = rI D (ac_letter T m i f w k) := by
  have hX := hH.1
  have tr := (sm_tree_of hH.1 hH.2.1).1
  have h15 := a15 (i := i) (f := f) hH hl hm
  obtain ⟨pl, σ, p1, p2, p3, p4, hG⟩ := hm
  have h40 := hG.2.2.1
  have h200 : m.tot ≤ 200 := hG.2.2.2.1
  apply rI_go
  refine sw_ge (f16 hH.1 tr hl) ?_
  unfold ac_letter
  rw [sw_bv]
  rcases h15 with ⟨z, e1, e2⟩ | ⟨j, n, u, h, rfl, rfl, e3, e4, e5, e6, e7, e8⟩
  · rw [e1, e2]
    exact rI_er
  · rw [e7, e8]
    refine rI_bv ?_
    have en := hG.2.2.2.2.1 j u e4
    have hb : md_tb m.1 j + u.2.1.length ≤ m.tot := md_tb_get e4
    have ns := en.2.1.2.2.2.2 n h e6
    have g0 : sm_in_b (ni j) 40 = true := by rw [ni_in (by omega)]; exact decide_eq_true (by omega)
    have g1 : (ni j).toNatClampNeg = j := ni_nat (by omega)
    simp only [bind, Except.bind]
    rw [sw_bv, c11 hX (by omega)]
    cases hw : ac_in w 2 with
    | none => exact rI_er
    | some q =>
      obtain ⟨rfl, hq⟩ := ac_in_lt hw
      refine rI_bv ?_
      rw [sw_gu, g1, en.2.1.1, ni_add, sw_bi, c130]
      refine ⟨g0, ?_⟩
      rw [sw_some, sb_i, sw_bi]
      match q, hq with
      | 0, _ =>
        rw [a17 hH hl p1 p2 p3 p4 (by omega), Nat.add_zero, ns.1]
        exact rI_bi
      | 1, _ =>
        rw [a17 hH hl p1 p2 p3 p4 (by omega), ns.2]
        exact rI_bi
theorem a18 (hH : cH C X t T' N D) (hl : C.2.2.1.2 X 3 = .ref t) (hm : TR T t D m) {i w k : Int32} : sm_fe C 18 [.ref X, .int i, .int w, .int k] D = rI D (ac_type m i w k) := by
  have hX := hH.1
  have h10 := a10 (v := i) hH hl hm
  obtain ⟨pl, σ, p1, p2, p3, p4, hG⟩ := hm
  have h40 := hG.2.2.1
  apply rI_go
  refine sw_ge (f18 hH.1) ?_
  rw [sw_bv, h10]
  unfold ac_type
  rcases ac_ent_cases i m with ⟨e1, e2⟩ | ⟨j, u, e1, rfl, e3, e4, e5⟩
  · rw [e1, e2]
    exact rI_er
  · have en := hG.2.2.2.2.1 j u e4
    rw [e1, e5]
    refine rI_bv ?_
    simp only [bind, Except.bind]
    rw [sw_bv, c11 hX (by omega)]
    cases hw : ac_in w 2 with
    | none => exact rI_er
    | some q =>
      obtain ⟨rfl, hq⟩ := ac_in_lt hw
      refine rI_bv ?_
      rw [sw_bi, c133, sw_some, sb_i, sw_bi]
      match q, hq with
      | 0, _ =>
        rw [a17 hH hl p1 p2 p3 p4 (by omega), Nat.add_zero, en.2.2.1.1]
        exact rI_bi
      | 1, _ =>
        rw [a17 hH hl p1 p2 p3 p4 (by omega), en.2.2.1.2.1]
        exact rI_bi
theorem a19 (hH : cH C X t T' N D) (hl : C.2.2.1.2 X 3 = .ref t) (hm : TR T t D m) {i n w k : Int32} : sm_fe C 19 [.ref X, .int i, .int n, .int w, .int k] D = rI D (ac_param m i n w k) := by
  have hX := hH.1
  have tr := (sm_tree_of hH.1 hH.2.1).1
  have h10 := a10 (v := i) hH hl hm
  obtain ⟨pl, σ, p1, p2, p3, p4, hG⟩ := hm
  have h40 := hG.2.2.1
  apply rI_go
  refine sw_ge (f19 hH.1 tr hl) ?_
  rw [sw_bv, h10]
  unfold ac_param
  rcases ac_ent_cases i m with ⟨e1, e2⟩ | ⟨j, u, e1, rfl, e3, e4, e5⟩
  · rw [e1, e2]
    exact rI_er
  · have en := hG.2.2.2.2.1 j u e4
    have g0 : sm_in_b (ni j) 40 = true := by rw [ni_in (by omega)]; exact decide_eq_true (by omega)
    have g1 : (ni j).toNatClampNeg = j := ni_nat (by omega)
    have h6 := en.2.2.1.2.2.2.1
    rw [e1, e5]
    refine rI_bv ?_
    simp only [bind, Except.bind]
    rw [sw_gu, g1, en.2.2.1.2.2.2.2.1, sw_bv, c11 hX (by omega)]
    refine ⟨g0, ?_⟩
    cases hn : ac_in n u.2.2.1.2.2.length with
    | none => exact rI_er
    | some r =>
      obtain ⟨rfl, hr⟩ := ac_in_lt hn
      refine rI_bv ?_
      rw [sw_bv, c11 hX (by omega)]
      have ps := en.2.2.1.2.2.1 r _ (List.getElem?_eq_getElem hr)
      cases hw : ac_in w 2 with
      | none => exact rI_er
      | some q =>
        obtain ⟨rfl, hq⟩ := ac_in_lt hw
        refine rI_bv ?_
        rw [sw_bi, c136, sw_some, sb_i, sw_bi]
        dsimp only
        rw [List.getElem?_eq_getElem hr, Option.getD_some]
        match q, hq with
        | 0, _ =>
          rw [a17 hH hl p1 p2 p3 p4 (by omega), Nat.add_zero, ps.1]
          exact rI_bi
        | 1, _ =>
          rw [a17 hH hl p1 p2 p3 p4 (by omega), ps.2.1]
          exact rI_bi
theorem a20 (hH : cH C X t T' N D) (hl : C.2.2.1.2 X 3 = .ref t) (hm : TR T t D m) {k : Int32} : sm_fe C 20 [.ref X, .int k] D = rI D (ac_item m.2.1 k) := by
  obtain ⟨pl, σ, p1, p2, p3, p4, hG⟩ := hm
  apply rI_go
  refine sw_ge (f20 hH.1) ?_
  rw [sw_bi, a17 hH hl p1 p2 p3 p4 (by omega), hG.2.2.2.2.2.1]
  exact rI_bi
/-- as rI, for a long -/
def rJ (D : sm_D) (r : Except Nat Int64) : Option sm_o := match r with
  | .ok v => some (.inl (some (.long v)), D)
  | .error z => some (.inr D.2.2.2.1, sm_thr D z)
theorem a21 (hH : cH C X t T' N D) (hl : C.2.2.1.2 X 3 = .ref t) (hm : TR T t D m) {k : Int32} : sm_fe C 21 [.ref X, .int k] D = rJ D (ac_date m k) := by
  have tr := (sm_tree_of hH.1 hH.2.1).1
  obtain ⟨pl, σ, p1, p2, p3, p4, hG⟩ := hm
  have go : ∀ {o : Option sm_o} {r}, sw o (fun w E => some (w, E) = rJ D r) → o = rJ D r := fun h => by
    obtain ⟨w, E, h1, h2⟩ := h
    rw [h1, h2]
  apply go
  refine sw_ge (f21 hH.1 tr hl) ?_
  unfold ac_date
  rw [sw_bv, c11 hH.1 (by omega)]
  cases hw : ac_in k 2 with
  | none => exact (sw_some (Q := _)).mpr ⟨sm_tw_thr D 2, rfl⟩
  | some q =>
    obtain ⟨rfl, hq⟩ := ac_in_lt hw
    refine rI_bv ?_
    match q, hq with
    | 0, _ =>
      rw [if_pos rfl, hG.2.2.2.2.2.2.1.1]
      exact (sw_some (Q := _)).mpr rfl
    | 1, _ =>
      rw [if_neg (by decide), hG.2.2.2.2.2.2.1.2]
      exact (sw_some (Q := _)).mpr rfl
theorem a151 (hH : cH C X t T' N D) {σ : Nat → List Int32} (hG : MG T t D σ m) {kd : Nat} (hk : kd = 5 ∨ kd = 6) : sm_fe C 151 [.ref t, .int (ni kd)] D = some (.inl (some (.int (ni (m.2.2.2 (decide (kd = 6))).length))), D) := by
  have tr := (sm_tree_of hH.1 hH.2.1).1
  apply sw_eq
  refine sw_ge (f151 tr) ?_
  rcases hk with rfl | rfl
  · rw [if_pos rfl, sw_gu, sw_some]
    exact ⟨rfl, by rw [show (ni 0).toNatClampNeg = 5 - 5 from rfl, hG.2.2.2.2.2.2.2.1.1]; rfl⟩
  · rw [if_neg (by decide), if_pos rfl, sw_gu, sw_some]
    exact ⟨rfl, by rw [show (ni 1).toNatClampNeg = 6 - 5 from rfl, hG.2.2.2.2.2.2.2.2.1.1]; rfl⟩
theorem a23 (hX : sm_Lay C X) {v : Int32} : sm_fe C 23 [.ref X, .int v] D = (if v = ni 5 ∨ v = ni 6 then some (.inl none, D) else some (.inr D.2.2.2.1, sm_thr D 1)) := by
  have go : ∀ {o p : Option sm_o}, sw o (fun w E => some (w, E) = p) → o = p := fun h => by
    obtain ⟨w, E, h1, h2⟩ := h
    rw [h1, h2]
  apply go
  refine sw_ge (f23 hX) ?_
  by_cases h5 : v = ni 5
  · rw [if_pos h5, if_pos (Or.inl h5), sw_some]
  · by_cases h6 : v = ni 6
    · rw [if_neg h5, if_pos h6, if_pos (Or.inr h6), sw_some]
    · rw [if_neg h5, if_neg h6, if_neg (fun z => z.elim h5 h6), sw_some]
theorem a22 (hH : cH C X t T' N D) (hl : C.2.2.1.2 X 3 = .ref t) (hm : TR T t D m) {k : Int32} : sm_fe C 22 [.ref X, .int k] D = rI D (ac_addrs m k) := by
  have tr := (sm_tree_of hH.1 hH.2.1).1
  obtain ⟨pl, σ, p1, p2, p3, p4, hG⟩ := hm
  apply rI_go
  refine sw_ge (f22 hH.1 tr hl) ?_
  unfold ac_addrs
  rw [sw_bv, a23 hH.1]
  by_cases h5 : k = ni 5
  · subst h5
    rw [if_pos (Or.inl rfl), if_pos rfl]
    refine rI_bv ?_
    rw [sw_bi, a151 hH hG (Or.inl rfl)]
    exact (sw_some (Q := _)).mpr ((sw_some (Q := _)).mpr rfl)
  · by_cases h6 : k = ni 6
    · subst h6
      rw [if_pos (Or.inr rfl), if_neg h5, if_pos rfl]
      refine rI_bv ?_
      rw [sw_bi, a151 hH hG (Or.inr rfl)]
      exact (sw_some (Q := _)).mpr ((sw_some (Q := _)).mpr rfl)
    · rw [if_neg (fun z => z.elim h5 h6), if_neg h5, if_neg h6]
      exact rI_er
theorem a24 (hH : cH C X t T' N D) (hl : C.2.2.1.2 X 3 = .ref t) (hm : TR T t D m) {kv n w k : Int32} : sm_fe C 24 [.ref X, .int kv, .int n, .int w, .int k] D = rI D (ac_addr m kv n w k) := by
  have hX := hH.1
  have tr := (sm_tree_of hH.1 hH.2.1).1
  obtain ⟨pl, σ, p1, p2, p3, p4, hG⟩ := hm
  apply rI_go
  refine sw_ge (f24 hH.1 tr hl) ?_
  unfold ac_addr
  rw [sw_bv, a23 hH.1]
  by_cases hk : kv = ni 5 ∨ kv = ni 6
  · rw [if_pos hk, if_pos hk]
    refine rI_bv ?_
    have hkd : ∃ kd, (kd = 5 ∨ kd = 6) ∧ kv = ni kd := by
      rcases hk with h | h
      · exact ⟨5, Or.inl rfl, h⟩
      · exact ⟨6, Or.inr rfl, h⟩
    obtain ⟨kd, hd, rfl⟩ := hkd
    have hb : (decide (ni kd = ni 6)) = decide (kd = 6) := by rcases hd with rfl | rfl <;> decide
    have ta : TXa t kd D σ (m.2.2.2 (decide (kd = 6))) := by
      rcases hd with rfl | rfl
      · exact hG.2.2.2.2.2.2.2.1
      · exact hG.2.2.2.2.2.2.2.2.1
    rw [hb, sw_bi, a151 hH hG hd, sw_some, sb_i]
    generalize m.2.2.2 (decide (kd = 6)) = l at ta ⊢
    have hl10 := ta.2.1
    rw [sw_bv, c11 hX (by omega)]
    cases hn : ac_in n l.length with
    | none => exact rI_er
    | some r =>
      obtain ⟨rfl, hr⟩ := ac_in_lt hn
      refine rI_bv ?_
      rw [sw_bv, c11 hX (by omega)]
      have ad := ta.2.2.1 r _ (List.getElem?_eq_getElem hr)
      cases hw : ac_in w 3 with
      | none => exact rI_er
      | some q =>
        obtain ⟨rfl, hq⟩ := ac_in_lt hw
        refine rI_bv ?_
        rw [sw_bi, c145 (by omega), sw_some, sb_i, sw_bi]
        dsimp only
        rw [List.getElem?_eq_getElem hr, Option.getD_some]
        match q, hq with
        | 0, _ =>
          rw [a17 hH hl p1 p2 p3 p4 (by omega), Nat.add_zero, ad.1]
          exact rI_bi
        | 1, _ =>
          rw [a17 hH hl p1 p2 p3 p4 (by omega), ad.2.1]
          exact rI_bi
        | 2, _ =>
          rw [a17 hH hl p1 p2 p3 p4 (by omega), ad.2.2]
          exact rI_bi
  · rw [if_neg hk, if_neg hk]
    exact rI_er
end CAX
