section CTS
variable {C : sm_K} {X t N e p : Nat} {T : Nat → Int32} {D : sm_D} {T0 : Nat → Int32} {f g : Nat → Int32} {σ : Nat → List Int32}
theorem dI_cs2 {pl : List Int32} (ht : t = X + 23 ∨ t = X + 36) {i : Nat} {v : Int32} (hi : i < pl.length) : sm_dI (cs X t T e D p pl) (t + 2) i v = cs X t T e D p (pl.set i v) := by
  refine Prod.ext ?_ rfl
  funext b j
  simp only [sm_up, cs, List.length_set]
  by_cases hb : b = t + 2
  · subst hb
    have h1 : ¬ (t + 2 = X + 1) := by omega
    have h2 : ¬ (t + 2 = t + 1) := by omega
    by_cases hj : j = i
    · subst hj
      simp only [and_self, if_true, h1, h2, if_false, hi]
      rw [md_nth_get (by rw [List.length_set]; exact hi), List.getElem_set_self]
    · simp only [hj, and_false, if_false, h1, h2, if_true]
      by_cases hl : j < pl.length
      · rw [if_pos hl, if_pos hl, md_nth_get hl, md_nth_get (by rw [List.length_set]; exact hl), List.getElem_set_ne (fun z => hj z.symm)]
      · rw [if_neg hl, if_neg hl]
  · simp only [hb, false_and, if_false]
theorem c135 (h : cH C X t T N D) {pl xs : List Int32} {k : Nat} (hk : k < 1061) (hl : pl.length + xs.length ≤ 16400) : sm_fe C 135 [.ref t, .int (ni k), .int (ni pl.length)] (cs X t T0 e (ts t D f g) p (pl ++ xs)) = some (.inl none, cs X t T0 e (ts t D (up1 f k (ni pl.length)) (up1 g k (ni xs.length))) p (pl ++ xs.map md_sm)) := by
  have ht := h.2.1
  have tr := (sm_tree_of h.1 ht).1
  have loop : ∀ (ys pre : List Int32), pl.length ≤ pre.length → pre.length + ys.length = pl.length + xs.length → sw (sm_fx C 135 6 [.ref t, .int (ni k), .int (ni pl.length), .int (ni pre.length)] [] (cs X t T0 e (ts t D f g) p (pre ++ ys))) (fun w E => (w, E) = (.inl none, cs X t T0 e (ts t D (up1 f k (ni pl.length)) (up1 g k (ni xs.length))) p (pre ++ ys.map md_sm))) := by
    intro ys
    induction ys with
    | nil =>
      intro pre hp1 hp2
      rw [List.length_nil] at hp2
      refine sw_ge (n135_6 tr) ?_
      simp (disch := omega) only [sw_ite, cs_p ht, List.append_nil, ni_le, List.map_nil]
      rw [if_pos (Nat.le_refl _)]
      refine sw_ge (n135_51 tr) ?_
      simp only [sw_bv, c131 h hk hp1, sw_some, sb_v]
      rw [show pre.length - pl.length = xs.length from by omega]
    | cons y ys ih =>
      intro pre hp1 hp2
      rw [List.length_cons] at hp2
      refine sw_ge (n135_6 tr) ?_
      have e1 : md_nth (pre ++ y :: ys) pre.length = y := by
        have := md_nth_app2 (l := pre) (m := y :: ys) (k := 0)
        rw [Nat.add_zero] at this
        rw [this]; rfl
      have e2 : (pre ++ y :: ys).set pre.length (md_sm y) = (pre ++ [md_sm y]) ++ ys := by
        rw [List.set_append_right _ _ (Nat.le_refl _), Nat.sub_self, List.append_assoc]; rfl
      have hlen : (pre ++ y :: ys).length = pre.length + ys.length + 1 := by rw [List.length_append, List.length_cons]; omega
      simp (disch := omega) only [sw_ite, cs_p ht, hlen, ni_le, sw_gu, ni_in, ni_nat, sw_bi, c2, sw_some, sb_i]
      rw [if_neg (by omega), if_neg (by omega), cs_i ht (by omega), e1, dI_cs2 ht (by omega), e2, ni_add]
      refine ⟨decide_eq_true (by omega), decide_eq_true (by omega), ?_⟩
      have := ih (pre ++ [md_sm y]) (by rw [List.length_append]; omega) (by rw [List.length_append, List.length_singleton]; omega)
      rw [List.length_append, List.length_singleton] at this
      rw [List.map_cons, show pre ++ md_sm y :: ys.map md_sm = (pre ++ [md_sm y]) ++ ys.map md_sm from by rw [List.append_assoc]; rfl]
      exact this
  apply sw_eq
  refine sw_ge (f135 tr) ?_
  simp (disch := omega) only [sw_bi, c283, sw_some, sb_i, Nat.max_eq_left (Nat.zero_le pl.length)]
  exact loop xs pl (Nat.le_refl _) rfl
theorem c134 (h : cH C X t T N D) {pl l : List Int32} {k s : Nat} (hk : k < 1061) (hs : st C s l) (hl : pl.length + l.length ≤ 16400) : sm_fe C 134 [.ref t, .int (ni k), .ref s] (cs X t T0 e (ts t D f g) p pl) = some (.inl none, cs X t T0 e (ts t D (up1 f k (ni pl.length)) (up1 g k (ni l.length))) p (pl ++ l)) := by
  have ht := h.2.1
  have tr := (sm_tree_of h.1 ht).1
  obtain ⟨w, h1, -, h3, h4, -⟩ := id hs
  have loop : ∀ (m j : Nat), j + m = l.length → sw (sm_fx C 134 11 [.ref t, .int (ni k), .ref s, .int (ni pl.length), .int (ni j)] [] (cs X t T0 e (ts t D f g) p (pl ++ l.take j))) (fun w E => (w, E) = (.inl none, cs X t T0 e (ts t D (up1 f k (ni pl.length)) (up1 g k (ni l.length))) p (pl ++ l))) := by
    intro m
    induction m with
    | zero =>
      intro j hj
      refine sw_ge (n134_11 tr h1) ?_
      simp (disch := omega) only [sw_bi, s260 h1, sw_some, sb_i, sw_ite, ni_le]
      rw [if_pos (by omega), List.take_of_length_le (by omega), sw_bv, c131 h hk (by rw [List.length_append]; omega), sw_some, List.length_append, Nat.add_sub_cancel_left]
      simp only [sb_v, sw_some]
    | succ m ih =>
      intro j hj
      have hj2 : j < l.length := by omega
      refine sw_ge (n134_11 tr h1) ?_
      have hln : (pl ++ l.take j).length < 16400 := by rw [List.length_append, List.length_take]; omega
      simp (disch := omega) only [sw_bi, s260 h1, sw_some, sb_i, sw_ite, ni_le, s262 hs hj2, sw_bv, c44 (cH_ts h) hln, sb_v, ni_add]
      rw [if_neg (by omega), md_nth_get hj2, List.append_assoc, ← List.take_succ_eq_append_getElem hj2]
      exact ih (j + 1) (by omega)
  apply sw_eq
  refine sw_ge (f134 tr h1) ?_
  rw [cs_p ht]
  have := loop l.length 0 (by omega)
  rw [List.take_zero, List.append_nil] at this
  exact this
theorem md_sm_sm (c : Int32) : md_sm (md_sm c) = md_sm c := by
  unfold md_sm
  by_cases h : md_in c 65 90 = true
  · rw [if_pos h]
    obtain ⟨n, h1, h2, rfl⟩ := (md_in_iff (by omega) (by omega)).mp h
    rw [ni_add, if_neg]
    rw [md_in_ni (by omega) (by omega) (by omega), Bool.and_eq_true, decide_eq_true_eq, decide_eq_true_eq]
    omega
  · rw [if_neg h, if_neg h]
theorem md_at_iff {P : Nat → Int32} {xs l : List Int32} {a : Nat} (hlen : xs.length = l.length) (h : ∀ j, j < xs.length → P (a + j) = md_nth xs j) : md_at P a l = decide (xs.map md_sm = l) := by
  induction l generalizing xs a with
  | nil =>
    have : xs = [] := List.length_eq_zero_iff.mp hlen
    subst this
    rfl
  | cons c l ih =>
    cases xs with
    | nil => cases hlen
    | cons x xs =>
      rw [md_at_cons, ih (xs := xs) (a := a + 1) (by rw [List.length_cons, List.length_cons] at hlen; omega) (fun j hj => ?_)]
      · have h0 : P a = x := h 0 (by rw [List.length_cons]; omega)
        rw [h0, List.map_cons]
        simp only [List.cons.injEq, Bool.decide_and]
      · have := h (j + 1) (by rw [List.length_cons]; omega)
        rw [← Nat.add_assoc] at this
        rw [show a + 1 + j = a + j + 1 from by omega, this]
        rfl
/-- whether a slot's text is a word -/
theorem c141 (h : cH C X t T N D) {pl l : List Int32} {k s : Nat} (hk : k < 1061) (hs : st C s l) (hS : SL f g pl σ) (hl : pl.length ≤ 16400) (h0 : l ≠ []) : sm_fe C 141 [.ref t, .int (ni k), .ref s] (cs X t T0 e (ts t D f g) p pl) = some (.inl (some (.int (md_b (decide ((σ k).map md_sm = l))))), cs X t T0 e (ts t D f g) p pl) := by
  have ht := h.2.1
  have tr := (sm_tree_of h.1 ht).1
  have hr := (sm_tree_of h.1 ht).2
  obtain ⟨w, h1, -, h3, h4, -⟩ := id hs
  obtain ⟨g1, g0, g2⟩ := hS k hk
  have key : ∃ a, f k = ni a ∧ ((σ k).length = l.length → a + (σ k).length ≤ pl.length ∧ md_at (md_nth pl) a l = decide ((σ k).map md_sm = l)) ∨ (f k = f k ∧ σ k = []) := by
    rcases g2 with g2 | ⟨a, g3, g4, g5⟩
    · exact ⟨0, Or.inr ⟨rfl, g2⟩⟩
    · exact ⟨a, Or.inl ⟨g3, fun hh => ⟨g4, md_at_iff hh g5⟩⟩⟩
  have hw : ∀ b, sm_nar .boolean (md_b b) = md_b b := fun b => by
    cases b
    · exact nar_b0
    · exact nar_b1
  apply sw_eq
  refine sw_ge (f141 tr h1) ?_
  simp only [sw_bi, c140 h hk, sw_some, sb_i, c138 h hk hS]
  obtain ⟨a, ⟨ga, gb⟩ | ⟨-, gc⟩⟩ := key
  · rw [ga, c43g hr hs (P := md_nth pl) (b := 16400) (fun i hi => c42 (cH_ts h) hl (by omega)) (fun hh => by have := gb hh; omega) (by omega) (by omega), sw_some]
    simp only [sb_i, sw_some, hw]
    by_cases hh : (σ k).length = l.length
    · rw [decide_eq_true hh, Bool.true_and, (gb hh).2]
    · rw [decide_eq_false hh, Bool.false_and, decide_eq_false (fun z => hh (by rw [← z, List.length_map]))]
  · have hne : (σ k).length ≠ l.length := fun z => h0 (List.length_eq_zero_iff.mp (by rw [← z, gc]; rfl))
    refine sw_ge (f43 hr h1) ?_
    simp (disch := omega) only [sw_bi, s260 h1, sw_some, sb_i, sw_ite, ni_inj]
    rw [if_neg hne, nar_b0, nar_b0, decide_eq_false (fun z => hne (by rw [← z, List.length_map]))]
    rfl
theorem c137 (h : cH C X t T N D) {pl : List Int32} {k1 k2 : Nat} (hk1 : k1 < 1061) (hk2 : k2 < 1061) (hS : SL f g pl σ) (hl : pl.length ≤ 16400) : sm_fe C 137 [.ref t, .int (ni k1), .int (ni k2)] (cs X t T0 e (ts t D f g) p pl) = some (.inl (some (.int (md_b (decide (σ k1 = σ k2))))), cs X t T0 e (ts t D f g) p pl) := by
  have ht := h.2.1
  have tr := (sm_tree_of h.1 ht).1
  have b1 := (hS k1 hk1).2.1
  have b2 := (hS k2 hk2).2.1
  have loop : (σ k1).length = (σ k2).length → ∀ (m j : Nat), j + m = (σ k1).length → (∀ i, i < j → md_nth (σ k1) i = md_nth (σ k2) i) → sm_fx C 137 20 [.ref t, .int (ni k1), .int (ni k2), .int (ni (σ k1).length), .int (ni j)] [] (cs X t T0 e (ts t D f g) p pl) = some (.inl (some (.int (md_b (decide (σ k1 = σ k2))))), cs X t T0 e (ts t D f g) p pl) := by
    intro hlen m
    induction m with
    | zero =>
      intro j hj hall
      apply sw_eq
      refine sw_ge (n137_20 tr) ?_
      simp (disch := omega) only [sw_ite, sw_some, ni_le]
      rw [if_pos (by omega), nar_b1, decide_eq_true (md_ext hlen (fun i hi => hall i (by omega)))]
      rfl
    | succ m ih =>
      intro j hj hall
      apply sw_eq
      refine sw_ge (n137_20 tr) ?_
      simp (disch := omega) only [sw_ite, sw_some, ni_le, sw_bi, c139 h hk1 hS hl (show j < (σ k1).length by omega), c139 h hk2 hS hl (show j < (σ k2).length by omega), sb_i, ni_add]
      rw [if_neg (by omega)]
      by_cases hc : md_nth (σ k1) j = md_nth (σ k2) j
      · rw [if_pos hc, ih (j + 1) (by omega) (fun i hi => by
          by_cases hij : i = j
          · rw [hij]; exact hc
          · exact hall i (by omega)), sw_some]
      · rw [if_neg hc, nar_b0, decide_eq_false (fun z => hc (by rw [z]))]
        rfl
  apply sw_eq
  refine sw_ge (f137 tr) ?_
  simp (disch := omega) only [sw_bi, c138 h hk1 hS, c138 h hk2 hS, sw_some, sb_i, sw_ite, ni_inj]
  by_cases hlen : (σ k1).length = (σ k2).length
  · rw [if_pos hlen, loop hlen _ 0 (Nat.zero_add _) (fun i hi => absurd hi (Nat.not_lt_zero _)), sw_some]
  · rw [if_neg hlen, nar_b0, decide_eq_false (fun z => hlen (by rw [z]))]
    rfl
theorem c130 {a b : Nat} : sm_fe C 130 [.int (ni a), .int (ni b)] D = some (.inl (some (.int (ni (2 * a + b)))), D) := by
  rw [← ni_add, ← ni_mul]; exact f130 _ rfl
theorem c133 {a b : Nat} : sm_fe C 133 [.int (ni a), .int (ni b)] D = some (.inl (some (.int (ni (400 + 2 * a + b)))), D) := by
  rw [← ni_add, ← ni_add, ← ni_mul]; exact f133 _ rfl
theorem c136 {a b c : Nat} : sm_fe C 136 [.int (ni a), .int (ni b), .int (ni c)] D = some (.inl (some (.int (ni (480 + 2 * (6 * a + b) + c)))), D) := by
  rw [← ni_add, ← ni_add, ← ni_mul, ← ni_add, ← ni_mul]; exact f136 _ rfl
theorem c145 {a b c : Nat} (ha : 5 ≤ a) : sm_fe C 145 [.int (ni a), .int (ni b), .int (ni c)] D = some (.inl (some (.int (ni (960 + 3 * (10 * (a - 5) + b) + c)))), D) := by
  rw [← ni_add, ← ni_add, ← ni_mul, ← ni_add, ← ni_mul, ← ni_sub ha]; exact f145 _ rfl
theorem c147 {a : Nat} : sm_fe C 147 [.int (ni a)] D = some (.inl (some (.int (ni (1020 + a)))), D) := by
  rw [← ni_add]; exact f147 _ rfl
theorem nar_md (b : Bool) : sm_nar .boolean (md_b b) = md_b b := by
  cases b
  · exact nar_b0
  · exact nar_b1
theorem c128 (ht : sm_tree C t) {i n : Nat} (hn : D.1 t 11 = ni n) (h1 : n ≤ 40) (h2 : i < 2147483648) : sm_fe C 128 [.ref t, .int (ni i)] D = some (.inl (some (.int (md_b (decide (i < n))))), D) := by
  apply sw_eq
  refine sw_ge (f128 ht) ?_
  simp (disch := omega) only [sw_ite, sw_some, hn, ni_lt, ni_le, nar_b0, nar_b1]
  rw [if_neg (by omega)]
  by_cases hin : i < n
  · rw [if_neg (by omega), if_neg (by omega), decide_eq_true hin]; rfl
  · rw [if_pos (by omega), decide_eq_false hin]; rfl
end CTS
