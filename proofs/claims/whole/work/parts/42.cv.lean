/-! ===== types and codes ===== -/
def md_by (l : List Int32) : Prop := ∀ x ∈ l, ∃ n, n < 256 ∧ x = ni n
theorem md_word_by {T : Nat → Int32} {e : Nat} {f : Int32 → Bool} (hT : ∀ i, i < e → ∃ n, n < 256 ∧ T i = ni n) {n p r : Nat} {xs : List Int32} (h : md_word T e f n p = .ok (xs, r)) : md_by xs := by
  rw [md_word] at h
  split at h
  · next g =>
    have a1 := md_nx_lt (T := T) g.1
    split at h
    · cases h
    · split at h
      · cases h
      · next ys r' e1 =>
        cases h
        have := md_word_by hT e1
        intro x hx
        rcases List.mem_cons.mp hx with rfl | hx
        · exact hT p g.1
        · exact this x hx
  · split at h
    · cases h
    · cases h; intro x hx; cases hx
termination_by e - p
decreasing_by omega
theorem md_quo_by {T : Nat → Int32} {e lim : Nat} (hT : ∀ i, i < e → ∃ n, n < 256 ∧ T i = ni n) {n p r : Nat} {xs : List Int32} (h : md_quo T e lim n p = .ok (xs, r)) : md_by xs := by
  rw [md_quo] at h
  split at h
  · next g =>
    have a1 := md_nx_lt (T := T) g
    split at h
    · cases h; intro x hx; cases hx
    · split at h
      · cases h
      · split at h
        · split at h
          · next g2 =>
            have a2 := md_nx_lt (T := T) g2
            split at h
            · cases h
            · next ys r' e1 =>
              cases h
              have := md_quo_by hT e1
              intro x hx
              rcases List.mem_cons.mp hx with rfl | hx
              · exact hT _ g2
              · exact this x hx
          · cases h
        · split at h
          · cases h
          · next ys r' e1 =>
            cases h
            have := md_quo_by hT e1
            intro x hx
            rcases List.mem_cons.mp hx with rfl | hx
            · exact hT _ g
            · exact this x hx
  · cases h
termination_by e - p
decreasing_by
  all_goals omega
def PS (i : Nat) (ps : List (List Int32 × List Int32)) (σ : Nat → List Int32) : Prop := ∀ n q, ps[n]? = some q → σ (480 + 2 * (6 * i + n)) = q.1 ∧ σ (480 + 2 * (6 * i + n) + 1) = q.2 ∧ q.1.map md_sm = q.1 ∧ md_by q.2
section CTY
variable {C : sm_K} {X t N e p : Nat} {T : Nat → Int32} {D : sm_D} {T0 : Nat → Int32} {f g : Nat → Int32} {σ : Nat → List Int32}
theorem c4 {l : List Int32} {s : Nat} {F : Int32 → Bool} (hs : st C s l) (hF : ∀ c, c ∈ l ↔ F c = true) {n : Nat} (hn : n < 256) : sm_fe C 4 [.ref s, .int (ni n)] D = some (.inl (some (.int (md_b (F (ni n))))), D) := by
  obtain ⟨w, h1, -, h3, h4, -⟩ := id hs
  apply sw_eq
  refine sw_ge (f4 h1) ?_
  have hlt : (md_ix l (ni n) < ni 0) = ¬ (F (ni n) = true) := by rw [md_ix_lt (by omega), hF]
  simp (disch := omega) only [sw_ite, sw_some, ni_lt, nar_b0, nar_b1, sw_bi, md_c16' n hn, s265 hs, sb_i, hlt]
  rw [if_neg (by omega)]
  cases F (ni n)
  · rw [if_pos (fun z => nomatch z)]; rfl
  · rw [if_neg (fun z => z rfl)]; rfl
theorem c62 (h : cH C X t T N D) {pl : List Int32} {k : Nat} (hk : k < 1061) (hS : SL f g pl σ) (hl : pl.length ≤ 16400) (hb : md_by (σ k)) : sm_fe C 62 [.ref t, .int (ni k)] (cs X t T0 e (ts t D f g) p pl) = some (.inl (some (.int (md_b (md_rb (σ k))))), cs X t T0 e (ts t D f g) p pl) := by
  have ht := h.2.1
  have tr := (sm_tree_of h.1 ht).1
  have b1 := (hS k hk).2.1
  have loop : ∀ (m j : Nat), j + m = (σ k).length → sm_fx C 62 34 [.ref t, .int (ni k), .int (ni (σ k).length), .int (ni j)] [] (cs X t T0 e (ts t D f g) p pl) = some (.inl (some (.int (md_b (((σ k).drop j).all md_bs)))), cs X t T0 e (ts t D f g) p pl) := by
    intro m
    induction m with
    | zero =>
      intro j hj
      apply sw_eq
      refine sw_ge (n62_34 tr) ?_
      simp (disch := omega) only [sw_ite, sw_some, ni_le]
      rw [if_pos (by omega), nar_b1, List.drop_of_length_le (by omega)]
      rfl
    | succ m ih =>
      intro j hj
      have hj2 : j < (σ k).length := by omega
      obtain ⟨n, hn, en⟩ := hb _ (List.getElem_mem hj2)
      apply sw_eq
      refine sw_ge (n62_34 tr) ?_
      simp (disch := omega) only [sw_ite, sw_some, ni_le, sw_bi, c139 h hk hS hl hj2, sb_i, md_nth_get hj2, en, c4 (st_bnd h.2.2.1) md_bnd_set hn, md_b_0, ni_add, ih (j + 1) (by omega)]
      rw [if_neg (by omega), List.drop_eq_getElem_cons hj2, List.all_cons, en]
      cases md_bs (ni n)
      · rw [if_pos rfl, nar_b0]; rfl
      · rw [if_neg (fun z => nomatch z)]; rfl
  apply sw_eq
  refine sw_ge (f62 tr) ?_
  simp (disch := omega) only [sw_bi, c138 h hk hS, sw_some, sb_i, sw_ite, ni_lt, nar_b0]
  unfold md_rb
  by_cases h1 : (σ k).length < 1
  · rw [if_pos h1, decide_eq_false (by omega), Bool.false_and, Bool.false_and, Bool.false_and]; rfl
  · rw [if_neg h1, decide_eq_true (by omega), Bool.true_and]
    by_cases h2 : 70 < (σ k).length
    · rw [if_pos h2, decide_eq_false (by omega), Bool.false_and, Bool.false_and]; rfl
    · rw [if_neg h2, decide_eq_true (by omega), Bool.true_and, ni_sub (by omega), c139 h hk hS hl (show (σ k).length - 1 < (σ k).length by omega), sw_some]
      simp only [sb_i, sw_ite, sw_some]
      have hlast : (σ k).getLast? = some (md_nth (σ k) ((σ k).length - 1)) := by
        rw [List.getLast?_eq_getElem?, md_nth_get (by omega), List.getElem?_eq_getElem (by omega)]
      rw [hlast]
      by_cases h3 : md_nth (σ k) ((σ k).length - 1) = ni 32
      · rw [if_pos h3, h3]
        simp [md_b]
      · rw [if_neg h3, loop (σ k).length 0 (Nat.zero_add _), sw_some, List.drop_zero]
        have : (some (md_nth (σ k) ((σ k).length - 1)) == some (ni 32)) = false := by
          simp [h3]
        rw [this, Bool.not_false, Bool.and_true]
theorem c62n (h : cH C X t T N D) {pl : List Int32} : sm_fe C 62 [.ref t, .int (sm_k (-1))] (cs X t T0 e (ts t D f g) p pl) = some (.inl (some (.int (md_b false))), cs X t T0 e (ts t D f g) p pl) := by
  have tr := (sm_tree_of h.1 h.2.1).1
  have h138 : sm_fe C 138 [.ref t, .int (sm_k (-1))] (cs X t T0 e (ts t D f g) p pl) = some (.inl (some (.int (ni 0))), cs X t T0 e (ts t D f g) p pl) := by
    apply sw_eq
    refine sw_ge (f138 tr) ?_
    rw [if_pos (show sm_k (-1) < ni 0 from by decide), sw_some]
  apply sw_eq
  refine sw_ge (f62 tr) ?_
  simp (disch := omega) only [sw_bi, h138, sw_some, sb_i, sw_ite, ni_lt, nar_b0]
  rw [if_pos (by omega)]
  rfl
def md_BOU : List Int32 := md_w "boundary"
theorem st_bou (h : tx C) : st C (C.1.1 23) (md_w "boundary") := st_tx h 23 rfl rfl (by decide) (by decide)
/-- the slot of the boundary -/
def md_bsl (i : Nat) (ps : List (List Int32 × List Int32)) : Int32 := match ps.findIdx? (fun q => q.1 == md_w "boundary") with
  | some n => ni (480 + 2 * (6 * i + n) + 1)
  | none => sm_k (-1)
theorem c142 (h : cH C X t T N D) {pl : List Int32} {i n : Nat} {ps : List (List Int32 × List Int32)} (hn : D.1 t 11 = ni n) (hn40 : n ≤ 40) (hi : i < n) (hS : SL f g pl σ) (hl : pl.length ≤ 16400) (hP : PS i ps σ) (h6 : ps.length ≤ 6) (h8 : D.1 (t + 8) i = ni ps.length) :
    sm_fe C 142 [.ref t, .int (ni i)] (cs X t T0 e (ts t D f g) p pl) = some (.inl (some (.int (md_bsl i ps))), cs X t T0 e (ts t D f g) p pl) := by
  have ht := h.2.1
  have tr := (sm_tree_of h.1 ht).1
  have loop : ∀ (m j : Nat), j + m = ps.length → (∀ k q, k < j → ps[k]? = some q → (q.1 == md_w "boundary") = false) → sm_fx C 142 21 [.ref t, .int (ni i), .int (ni ps.length), .int (ni j)] [] (cs X t T0 e (ts t D f g) p pl) = some (.inl (some (.int (md_bsl i ps))), cs X t T0 e (ts t D f g) p pl) := by
    intro m
    induction m with
    | zero =>
      intro j hj hall
      apply sw_eq
      refine sw_ge (n142_21 tr) ?_
      simp (disch := omega) only [sw_ite, sw_some, ni_le]
      rw [if_pos (by omega)]
      unfold md_bsl
      have : ps.findIdx? (fun q => q.1 == md_w "boundary") = none := by
        rw [List.findIdx?_eq_none_iff]
        intro q hq
        obtain ⟨k, hk, rfl⟩ := List.mem_iff_getElem.mp hq
        exact hall k _ (by omega) (List.getElem?_eq_getElem hk)
      rw [this]
    | succ m ih =>
      intro j hj hall
      have hj2 : j < ps.length := by omega
      obtain ⟨g1, g2, g3, -⟩ := hP j ps[j] (List.getElem?_eq_getElem hj2)
      apply sw_eq
      refine sw_ge (n142_21 tr) ?_
      simp (disch := omega) only [sw_ite, sw_some, ni_le, sw_bi, c136, Nat.add_zero, sb_i, c141 h (show 480 + 2 * (6 * i + j) < 1061 by omega) (st_bou h.2.2.1) hS hl (by decide), md_b_0, ni_add]
      rw [if_neg (by omega), g1, g3]
      by_cases hc : ps[j].1 = md_w "boundary"
      · rw [decide_eq_true hc, if_neg (fun z => nomatch z)]
        unfold md_bsl
        have : ps.findIdx? (fun q => q.1 == md_w "boundary") = some j := by
          rw [List.findIdx?_eq_some_iff_getElem]
          refine ⟨hj2, by rw [hc]; exact beq_self_eq_true _, fun k hk => ?_⟩
          rw [Bool.not_eq_true]
          exact hall k _ hk (List.getElem?_eq_getElem (by omega))
        rw [this]
      · rw [decide_eq_false hc, if_pos rfl, ih (j + 1) (by omega) (fun k q hk hq => ?_), sw_some]
        by_cases hkj : k = j
        · subst hkj
          rw [List.getElem?_eq_getElem hj2] at hq
          cases hq
          exact beq_false_of_ne hc
        · exact hall k q (by omega) hq
  apply sw_eq
  refine sw_ge (f142 tr) ?_
  have e11 : (cs X t T0 e (ts t D f g) p pl).1 t 11 = ni n := by rw [cs_o (by omega) (by omega) (by omega), ts_o (by omega) (by omega), hn]
  have e8 : (cs X t T0 e (ts t D f g) p pl).1 (t + 8) i = ni ps.length := by rw [cs_o (by omega) (by omega) (by omega), ts_o (by omega) (by omega), h8]
  simp (disch := omega) only [sw_bi, c128 tr e11 hn40 (show i < 2147483648 by omega), sw_some, sb_i, sw_ite, md_b_0, sw_gu, ni_in, ni_nat, e8]
  rw [decide_eq_true hi, if_neg (fun z => nomatch z)]
  refine ⟨decide_eq_true (by omega), ?_⟩
  refine sw_ge (n142_18 tr) ?_
  rw [loop ps.length 0 (Nat.zero_add _) (fun k q hk => absurd hk (Nat.not_lt_zero _)), sw_some]
end CTY
