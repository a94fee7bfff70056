section CTX
variable {C : sm_K} {X t N e : Nat} {T : Nat → Int32} {D : sm_D} {Q : (Option Value ⊕ Nat) → sm_D → Prop}
theorem c60 (h : cW C X t T N e D) {f g : Nat → Int32} {p k : Nat} {pl : List Int32} (hk : k < 1061) (hpl : pl.length + (e - p) ≤ 16400) (hp : md_ok T e p)
    (hok : ∀ xs r, md_word T e md_tok 0 p = .ok (xs, r) → Q (.inl none) (cs X t T e (ts t D (up1 f k (ni pl.length)) (up1 g k (ni (xs.map md_sm).length))) r (pl ++ xs.map md_sm))) (her : ∀ x z D', md_word T e md_tok 0 p = .error x → cT X t D x z D' → Q (.inr z) D') :
    sw (sm_fe C 60 [.ref (X + 7), .ref t, .int (ni k)] (cs X t T e (ts t D f g) p pl)) Q := by
  have hX := h.1.1
  have ht := h.1.2.1
  have tr := (sm_tree_of hX ht).1
  refine sw_ge (f60 hX tr) ?_
  simp only [sw_bv, cs_p ht]
  refine c34 (cW_ts h) (st_tok h.1.2.2.1) md_tok_set hpl hp (fun xs r h1 => ?_) (fun x z D' h1 hT => ⟨hT.tw, her x z D' h1 (hT.of cF_ts)⟩)
  obtain ⟨o1, l1⟩ := md_word_ok hp h1
  have := o1.1
  simp only [sb_v, sw_bv, c135 h.1 hk (show pl.length + xs.length ≤ 16400 by omega), sw_some]
  have := hok xs r h1
  rw [List.length_map] at this
  exact this
theorem c61 (h : cW C X t T N e D) {f g : Nat → Int32} {σ : Nat → List Int32} {p i : Nat} {pl : List Int32} {ps : List (List Int32 × List Int32)} (hi : i < 40) (h6 : ps.length < 6) (hS : SL f g pl σ) (hP : PS i ps σ) (hpl : pl.length + (e - p) ≤ 16400) (hp : md_ok T e p)
    (hok : ∀ q r, md_par1 T e ps p = .ok (q, r) → ∀ f' g' pl' σ', SL f' g' pl' σ' → PS i (ps ++ [q]) σ' → (∀ k, k ≠ 480 + 2 * (6 * i + ps.length) → k ≠ 480 + 2 * (6 * i + ps.length) + 1 → σ' k = σ k) → md_ok T e r → p ≤ r → pl'.length + (e - r) ≤ pl.length + (e - p) → Q (.inl none) (cs X t T e (ts t D f' g') r pl'))
    (her : ∀ x z D', md_par1 T e ps p = .error x → cT X t D x z D' → Q (.inr z) D') :
    sw (sm_fe C 61 [.ref (X + 7), .ref t, .int (ni i), .int (ni ps.length)] (cs X t T e (ts t D f g) p pl)) Q := by
  have hX := h.1.1
  have ht := h.1.2.1
  have tr := (sm_tree_of hX ht).1
  unfold md_par1 at hok her
  refine sw_ge (f61 hX tr) ?_
  simp only [sw_bv]
  refine c32 (cW_ts h) hp (fun p1 h1 => ?_) (fun x z D' h1 hT => ⟨hT.tw, her x z D' (by rw [h1]; rfl) (hT.of cF_ts)⟩)
  obtain ⟨o1, l1⟩ := md_space_ok hp h1
  have oe1 := o1.1
  simp only [h1, bind, Except.bind] at hok her
  simp only [sb_v, sw_bi, c136, sw_some, sb_i, Nat.add_zero, sw_bv, cs_2]
  refine c60 h (by omega) (by omega) o1 (fun xs p2 h2 => ?_) (fun x z D' h2 hT => ⟨hT.tw, her x z D' (by rw [h2]) hT⟩)
  obtain ⟨o2, l2⟩ := md_word_ok o1 h2
  have oe2 := o2.1
  simp only [h2] at hok her
  have hS1 := hS.set (ys := xs.map md_sm) (480 + 2 * (6 * i + ps.length))
  have hlen1 : (pl ++ xs.map md_sm).length = pl.length + xs.length := by rw [List.length_append, List.length_map]
  have loop : ∀ (m j : Nat), j + m = ps.length → (∀ k q, k < j → ps[k]? = some q → (q.1 == xs.map md_sm) = false) →
      sw (sm_fx C 61 30 [.ref (X + 7), .ref t, .int (ni i), .int (ni ps.length), .int (ni p1), .int (ni j)] [] (cs X t T e (ts t D (up1 f (480 + 2 * (6 * i + ps.length)) (ni pl.length)) (up1 g (480 + 2 * (6 * i + ps.length)) (ni (xs.map md_sm).length))) p2 (pl ++ xs.map md_sm))) Q := by
    intro m
    induction m with
    | zero =>
      intro j hj hall
      have hany : ¬ (ps.any (fun q => q.1 == xs.map md_sm) = true) := by
        rw [List.any_eq_true]
        rintro ⟨q, hq, hq2⟩
        obtain ⟨k, hk, rfl⟩ := List.mem_iff_getElem.mp hq
        rw [hall k _ (by omega) (List.getElem?_eq_getElem hk)] at hq2
        cases hq2
      rw [if_neg hany] at hok her
      refine sw_ge (n61_30 hX tr) ?_
      simp (disch := omega) only [sw_ite, ni_le, sw_bv]
      rw [if_pos (by omega)]
      refine c32 (cW_ts h) o2 (fun p3 h3 => ?_) (fun x z D' h3 hT => ⟨hT.tw, her x z D' (by rw [h3]) (hT.of cF_ts)⟩)
      obtain ⟨o3, l3⟩ := md_space_ok o2 h3
      have oe3 := o3.1
      simp only [h3] at hok her
      simp only [sb_v, sw_bv]
      refine c35 (cW_ts h) (by omega) o3 (fun p4 h4 => ?_) (fun x z D' h4 hT => ⟨hT.tw, her x z D' (by rw [h4]) (hT.of cF_ts)⟩)
      obtain ⟨o4, l4⟩ := md_eat_ok o3 h4
      have oe4 := o4.1
      simp only [h4] at hok her
      simp only [sb_v, sw_bv]
      refine c32 (cW_ts h) o4 (fun p5 h5 => ?_) (fun x z D' h5 hT => ⟨hT.tw, her x z D' (by rw [h5]) (hT.of cF_ts)⟩)
      obtain ⟨o5, l5⟩ := md_space_ok o4 h5
      have oe5 := o5.1
      simp only [h5] at hok her
      have h144 : ∀ (v : List Int32) (r : Nat), md_by v → md_ok T e r → p5 + v.length ≤ r → (∀ f' g' pl' σ', SL f' g' pl' σ' → PS i (ps ++ [(xs.map md_sm, v)]) σ' → (∀ k, k ≠ 480 + 2 * (6 * i + ps.length) → k ≠ 480 + 2 * (6 * i + ps.length) + 1 → σ' k = σ k) → md_ok T e r → p ≤ r → pl'.length + (e - r) ≤ pl.length + (e - p) → Q (.inl none) (cs X t T e (ts t D f' g') r pl')) →
          sw (sm_fx C 61 144 [sm_junk, .ref t, .int (ni i), .int (ni ps.length), sm_junk, .int (ni (pl ++ xs.map md_sm).length)] [] (cs X t T e (ts t D (up1 f (480 + 2 * (6 * i + ps.length)) (ni pl.length)) (up1 g (480 + 2 * (6 * i + ps.length)) (ni (xs.map md_sm).length))) r ((pl ++ xs.map md_sm) ++ v))) Q := by
        intro v r hv o6 l6 hq
        have oe6 := o6.1
        refine sw_ge (n61_144 hX tr) ?_
        simp only [sw_bi, c136, sw_some, sb_i, sw_bv]
        rw [c131 h.1 (by omega) (by rw [List.length_append (bs := v)]; omega), sw_some, List.length_append (bs := v), Nat.add_sub_cancel_left]
        simp only [sb_v, sw_some]
        refine hq _ _ _ _ (hS1.set (ys := v) (480 + 2 * (6 * i + ps.length) + 1)) (fun n q hn => ?_) (fun k hk1 hk2 => ?_) o6 (by omega) (by rw [List.length_append (bs := v), hlen1]; omega)
        · rcases Nat.lt_or_ge n ps.length with hlt | hge
          · rw [List.getElem?_append_left hlt] at hn
            obtain ⟨g1, g2, g3, g4⟩ := hP n q hn
            unfold up1
            rw [if_neg (by omega), if_neg (by omega), if_neg (by omega), if_neg (by omega)]
            exact ⟨g1, g2, g3, g4⟩
          · rw [List.getElem?_append_right hge] at hn
            have : n - ps.length = 0 := by
              rcases Nat.eq_zero_or_pos (n - ps.length) with h0 | h0
              · exact h0
              · rw [List.getElem?_eq_none (by rw [List.length_singleton]; omega)] at hn; cases hn
            rw [this] at hn
            cases hn
            have en : n = ps.length := by omega
            subst en
            unfold up1
            rw [if_neg (by omega), if_pos rfl, if_pos rfl]
            refine ⟨rfl, rfl, ?_, hv⟩
            rw [List.map_map]
            exact List.map_congr_left (fun c _ => md_sm_sm c)
        · unfold up1
          rw [if_neg hk2, if_neg hk1]
      have hB : ∀ i, i < e → ∃ n, n < 256 ∧ T i = ni n := fun i hi => h.byte hi
      simp only [sb_v, sw_ite, cs_4, md_cu_is (show 34 < 2147483648 by omega), cs_p ht, sw_bv]
      by_cases hq : p5 < e ∧ T p5 = ni 34
      · rw [if_pos hq]
        simp only [if_pos hq] at hok her
        refine c36 (cW_ts h) (by omega) (by rw [hlen1]; have := md_nx_le (T := T) (e := e) p5; omega) o5 (fun v r h6 => ?_) (fun x z D' h6 hT => ⟨hT.tw, her x z D' (by rw [h6]) (hT.of cF_ts)⟩)
        obtain ⟨o6, l6⟩ := md_quo_ok o5.nx h6
        have := md_nx_le (T := T) (e := e) p5
        simp only [h6] at hok
        exact h144 v r (md_quo_by hB h6) o6 (by omega) (hok _ r rfl)
      · rw [if_neg hq]
        simp only [if_neg hq] at hok her
        refine c34 (cW_ts h) (st_tok h.1.2.2.1) md_tok_set (by rw [hlen1]; omega) o5 (fun v r h6 => ?_) (fun x z D' h6 hT => ⟨hT.tw, her x z D' (by rw [h6]) (hT.of cF_ts)⟩)
        obtain ⟨o6, l6⟩ := md_word_ok o5 h6
        simp only [h6] at hok
        exact h144 v r (md_word_by hB h6) o6 l6 (hok _ r rfl)
    | succ m ih =>
      intro j hj hall
      have hj2 : j < ps.length := by omega
      obtain ⟨g1, g2, g3, -⟩ := hP j ps[j] (List.getElem?_eq_getElem hj2)
      refine sw_ge (n61_30 hX tr) ?_
      simp (disch := omega) only [sw_ite, ni_le, sw_bi, c136, Nat.add_zero, sw_some, sb_i, c137 h.1 (show 480 + 2 * (6 * i + j) < 1061 by omega) (show 480 + 2 * (6 * i + ps.length) < 1061 by omega) hS1 (show (pl ++ xs.map md_sm).length ≤ 16400 by rw [hlen1]; omega), md_b_0, ni_add, sw_bv]
      rw [if_neg (by omega)]
      have e1 : up1 σ (480 + 2 * (6 * i + ps.length)) (xs.map md_sm) (480 + 2 * (6 * i + j)) = ps[j].1 := by
        unfold up1; rw [if_neg (by omega), g1]
      have e2 : up1 σ (480 + 2 * (6 * i + ps.length)) (xs.map md_sm) (480 + 2 * (6 * i + ps.length)) = xs.map md_sm := by
        unfold up1; rw [if_pos rfl]
      rw [e1, e2]
      by_cases hc : ps[j].1 = xs.map md_sm
      · rw [decide_eq_true hc, if_neg (fun z => nomatch z)]
        have hany : ps.any (fun q => q.1 == xs.map md_sm) = true := by
          rw [List.any_eq_true]
          exact ⟨ps[j], List.getElem_mem hj2, by rw [hc]; exact beq_self_eq_true _⟩
        rw [if_pos hany] at her
        exact c29 hX (cF_ts.trans cF_cs) (fun z D' hT => ⟨hT.tw, her p1 z D' rfl hT⟩)
      · rw [decide_eq_false hc, if_pos rfl]
        refine ih (j + 1) (by omega) (fun k q hk hq => ?_)
        by_cases hkj : k = j
        · subst hkj
          rw [List.getElem?_eq_getElem hj2] at hq
          cases hq
          exact beq_false_of_ne hc
        · exact hall k q (by omega) hq
  simp only [sb_v]
  exact loop ps.length 0 (Nat.zero_add _) (fun k q hk => absurd hk (Nat.not_lt_zero _))
end CTX
