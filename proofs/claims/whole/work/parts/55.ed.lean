/-! ===== parts ===== -/
section CPA
variable {C : sm_K} {X t N e p : Nat} {T T0 : Nat → Int32} {D : sm_D} {pl : List Int32} {Q : (Option Value ⊕ Nat) → sm_D → Prop}
theorem md_eol_le {b q : Nat} (h : q ≤ b) : md_eol T b q ≤ b := by
  unfold md_eol
  split
  · next g => exact md_eol_le g.1
  · exact h
termination_by b - q
theorem c106 (h : cH C X t T N D) {a z : Nat} (hz : z ≤ N) (ha : a ≤ N + 10) : sm_fe C 106 [.ref (X + 14), .int (ni a), .int (ni z)] (cs X t T0 e D p pl) = some (.inl (some (.int (md_b (md_dash T a z)))), cs X t T0 e D p pl) := by
  have hN := h.2.2.2.1
  apply sw_eq
  refine sw_ge (f106 h.1) ?_
  unfold md_dash
  simp (disch := omega) only [sw_ite, ni_add, ni_lt, sw_some, nar_b0, nar_b1, sw_bi]
  by_cases h1 : a + 2 ≤ z
  · rw [if_neg (by omega), c42b h (by omega), sw_some]
    simp only [sb_i, sw_ite, sw_bi, c42b h (show a + 1 < N by omega), sw_some, decide_eq_true h1, Bool.true_and]
    by_cases h2 : T a = ni 45
    · rw [if_pos h2, decide_eq_true h2, Bool.true_and]
      by_cases h3 : T (a + 1) = ni 45
      · rw [if_pos h3, decide_eq_true h3]; rfl
      · rw [if_neg h3, decide_eq_false h3]; rfl
    · rw [if_neg h2, decide_eq_false h2, Bool.false_and]; rfl
  · rw [if_pos (by omega), decide_eq_false h1, Bool.false_and, Bool.false_and]; rfl
theorem c107 (h : cH C X t T N D) {z : Nat} (hz : z ≤ N) : ∀ (m a : Nat), z - a ≤ m → a ≤ N + 10 → sm_fx C 107 2 [.ref (X + 14), sm_junk, .int (ni z), .int (ni a)] [] (cs X t T0 e D p pl) = some (.inl (some (.int (md_b (md_bls T z a)))), cs X t T0 e D p pl) := by
  have hN := h.2.2.2.1
  intro m
  induction m with
  | zero =>
    intro a hm ha
    apply sw_eq
    refine sw_ge (n107_2 h.1) ?_
    simp (disch := omega) only [sw_ite, ni_le, sw_some, nar_b1]
    rw [if_pos (by omega), md_bls, if_neg (by omega)]
    rfl
  | succ m ih =>
    intro a hm ha
    apply sw_eq
    refine sw_ge (n107_2 h.1) ?_
    by_cases haz : a < z
    · simp (disch := omega) only [sw_ite, ni_le, sw_some, nar_b1, nar_b0, sw_bi, c42b h (show a < N by omega), sb_i, c3, md_b_0, ni_add, ih (a + 1) (by omega) (by omega)]
      rw [if_neg (by omega), md_bls, if_pos haz]
      cases md_bl (T a)
      · rw [if_pos rfl]; rfl
      · rw [if_neg (fun z => nomatch z), Bool.true_and]
    · simp (disch := omega) only [sw_ite, ni_le, sw_some, nar_b1]
      rw [if_pos (by omega), md_bls, if_neg haz]
      rfl
theorem c105 (h : cH C X t T N D) {f g : Nat → Int32} {σ : Nat → List Int32} {k a z : Nat} (hk : k < 1061) (hS : SL f g pl σ) (hl : pl.length ≤ 16400) (hz : z ≤ N) (ha : a ≤ z) :
    sm_fe C 105 [.ref (X + 14), .ref t, .int (ni k), .int (ni a), .int (ni z)] (cs X t T0 e (ts t D f g) p pl) = some (.inl (some (.int (if a + 2 + (σ k).length ≤ z ∧ md_dash T a z = true ∧ md_eqs T (a + 2) (σ k) = true then ni (a + 2 + (σ k).length) else sm_k (-1)))), cs X t T0 e (ts t D f g) p pl) := by
  have hN := h.2.2.2.1
  have ht := h.2.1
  have tr := (sm_tree_of h.1 ht).1
  have hsl := (hS k hk).2.1
  have loop : a + 2 + (σ k).length ≤ z → ∀ (m j : Nat), j + m = (σ k).length → sm_fx C 105 33 [.ref (X + 14), .ref t, .int (ni k), .int (ni a), sm_junk, .int (ni (σ k).length), .int (ni j)] [] (cs X t T0 e (ts t D f g) p pl) = some (.inl (some (.int (if md_eqs T (a + 2 + j) ((σ k).drop j) = true then ni (a + 2 + (σ k).length) else sm_k (-1)))), cs X t T0 e (ts t D f g) p pl) := by
    intro hle m
    induction m with
    | zero =>
      intro j hj
      apply sw_eq
      refine sw_ge (n105_33 h.1 tr) ?_
      simp (disch := omega) only [sw_ite, ni_le, sw_some, ni_add]
      rw [if_pos (by omega), List.drop_of_length_le (by omega), if_pos (by rfl)]
    | succ m ih =>
      intro j hj
      have hj2 : j < (σ k).length := by omega
      apply sw_eq
      refine sw_ge (n105_33 h.1 tr) ?_
      simp (disch := omega) only [sw_ite, ni_le, sw_some, ni_add, sw_bi, c42b (cH_ts h) (show a + 2 + j < N by omega), sb_i, c139 h hk hS hl hj2, md_nth_get hj2, ih (j + 1) (by omega)]
      rw [if_neg (by omega), List.drop_eq_getElem_cons hj2]
      have e1 : md_eqs T (a + 2 + j) ((σ k)[j] :: (σ k).drop (j + 1)) = (decide (T (a + 2 + j) = (σ k)[j]) && md_eqs T (a + 2 + j + 1) ((σ k).drop (j + 1))) := rfl
      rw [e1]
      by_cases hc : T (a + 2 + j) = (σ k)[j]
      · rw [if_pos hc, decide_eq_true hc, Bool.true_and]; rfl
      · rw [if_neg hc, decide_eq_false hc, Bool.false_and, if_neg Bool.false_ne_true]
  apply sw_eq
  refine sw_ge (f105 h.1 tr) ?_
  simp (disch := omega) only [sw_bi, c138 h hk hS, sw_some, sb_i, sw_ite, ni_add, ni_lt]
  by_cases h1 : a + 2 + (σ k).length ≤ z
  · rw [if_neg (by omega), c106 (cH_ts h) hz (by omega), sw_some]
    simp only [sb_i, sw_ite, md_b_0, sw_some]
    cases hd : md_dash T a z
    · rw [if_pos rfl, if_neg (fun q => nomatch q.2.1)]
    · rw [if_neg (fun z => nomatch z), loop h1 (σ k).length 0 (Nat.zero_add _), sw_some, List.drop_zero, Nat.add_zero]
      by_cases hq : md_eqs T (a + 2) (σ k) = true
      · rw [if_pos hq, if_pos ⟨h1, rfl, hq⟩]
      · rw [if_neg hq, if_neg (fun q => hq q.2.2)]
  · rw [if_pos (by omega), if_neg (fun q => h1 q.1)]
theorem c104 (h : cH C X t T N D) {f g : Nat → Int32} {σ : Nat → List Int32} {i n lv b body : Nat} {ps : List (List Int32 × List Int32)} {v : List Int32} (hlv : lv < 6) (h15 : D.1 (X + 15) lv = ni i) (h16 : D.1 (X + 16) lv = ni b) (hn : D.1 t 11 = ni n) (hn40 : n ≤ 40) (hi : i < n) (hS : SL f g pl σ) (hl : pl.length ≤ 16400) (hP : PS i ps σ) (h6 : ps.length ≤ 6) (h8 : D.1 (t + 8) i = ni ps.length) (hv : md_bv ps = some v) (hb : b ≤ N) (hbody : body ≤ b + 2)
    (hok : ∀ d, md_del T v b body = some d → Q (.inl none) (cs X t T0 e (ts t (sm_dI (sm_dI (sm_dI D (X + 17) lv (ni d.1)) (X + 18) lv (ni d.2.1)) (X + 19) lv (md_b d.2.2)) f g) p pl))
    (her : md_del T v b body = none → ∀ z D', cT X t D b z D' → Q (.inr z) D') :
    sw (sm_fe C 104 [.ref (X + 14), .ref t, .int (ni lv), .int (ni body)] (cs X t T0 e (ts t D f g) p pl)) Q := by
  have hN := h.2.2.2.1
  have ht := h.2.1
  have hX := h.1
  have tr := (sm_tree_of hX ht).1
  have r : ∀ a j, a ≠ X + 1 → a ≠ t + 1 → a ≠ t + 2 → a ≠ t + 3 → a ≠ t + 4 → (cs X t T0 e (ts t D f g) p pl).1 a j = D.1 a j := fun a j h1 h2 h3 h4 h5 => by
    rw [cs_o h1 h2 h3, ts_o h4 h5]
  obtain ⟨k, hk, e1, e2, -, -⟩ := (md_bv_bsl hP).resolve_right (fun z => by rw [z.2] at hv; cases hv)
  rw [e2] at hv
  cases hv
  have hk2 : k < 1061 := by omega
  have loop : ∀ (m a : Nat), b + 2 - a ≤ m → a ≤ b + 2 → (∀ d, md_del T (σ k) b a = some d → Q (.inl none) (cs X t T0 e (ts t (sm_dI (sm_dI (sm_dI D (X + 17) lv (ni d.1)) (X + 18) lv (ni d.2.1)) (X + 19) lv (md_b d.2.2)) f g) p pl)) → (md_del T (σ k) b a = none → ∀ z D', cT X t D b z D' → Q (.inr z) D') →
      sw (sm_fx C 104 23 [.ref (X + 14), .ref t, .int (ni lv), sm_junk, .int (ni k), .int (ni b), .int (ni a), sm_junk, sm_junk, sm_junk] [] (cs X t T0 e (ts t D f g) p pl)) Q := by
    intro m
    induction m with
    | zero =>
      intro a hm ha hok her
      rw [md_del, if_neg (by omega)] at her
      refine sw_ge (n104_23 hX tr) ?_
      simp (disch := omega) only [sw_ite, ni_le, sw_bv]
      rw [if_pos (by omega)]
      exact c29 hX (cF_ts.trans cF_cs) (fun z D' hT => ⟨hT.tw, her rfl z D' hT⟩)
    | succ m ih =>
      intro a hm ha hok her
      by_cases hab : a < b
      · rw [md_del, if_pos hab] at hok her
        have hzl := md_eol_le (T := T) (Nat.le_of_lt hab)
        have hzg := md_eol_ge T b a
        have h162 : ¬ (a + 2 + (σ k).length ≤ md_eol T b a ∧ md_dash T a (md_eol T b a) = true ∧ md_eqs T (a + 2) (σ k) = true ∧ md_bls T (md_eol T b a) (if md_dash T (a + 2 + (σ k).length) (md_eol T b a) = true then a + 2 + (σ k).length + 2 else a + 2 + (σ k).length) = true) → sw (sm_fx C 104 162 [.ref (X + 14), .ref t, .int (ni lv), sm_junk, .int (ni k), .int (ni b), sm_junk, .int (ni (md_eol T b a)), sm_junk, sm_junk] [] (cs X t T0 e (ts t D f g) p pl)) Q := by
          intro hno
          dsimp only at hok her
          rw [if_neg hno] at hok her
          refine sw_ge (n104_162 hX tr) ?_
          rw [ni_add]
          exact ih _ (by omega) (by omega) hok her
        have h64 : sw (sm_fx C 104 64 [.ref (X + 14), .ref t, .int (ni lv), sm_junk, .int (ni k), .int (ni b), .int (ni a), .int (ni (md_eol T b a)), sm_junk, sm_junk] [] (cs X t T0 e (ts t D f g) p pl)) Q := by
          refine sw_ge (n104_64 hX tr) ?_
          simp only [sw_bi, c105 h hk2 hS hl (show md_eol T b a ≤ N by omega) hzg, sw_some, sb_i, sw_ite]
          by_cases hc : a + 2 + (σ k).length ≤ md_eol T b a ∧ md_dash T a (md_eol T b a) = true ∧ md_eqs T (a + 2) (σ k) = true
          · rw [if_pos hc, if_neg (by rw [ni_ne_k (by omega)]; exact id), c106 (cH_ts h) (by omega) (by omega), sw_some]
            simp only [sb_i, sw_ite, md_b_0]
            have h99 : ∀ s : Bool, s = md_dash T (a + 2 + (σ k).length) (md_eol T b a) → sw (sm_fx C 104 99 [.ref (X + 14), .ref t, .int (ni lv), sm_junk, .int (ni k), .int (ni b), .int (ni a), .int (ni (md_eol T b a)), .int (ni (a + 2 + (σ k).length)), sm_junk] [.int (md_b s)] (cs X t T0 e (ts t D f g) p pl)) Q := by
              intro s hs
              have h122 : ∀ w, w = (if md_dash T (a + 2 + (σ k).length) (md_eol T b a) = true then a + 2 + (σ k).length + 2 else a + 2 + (σ k).length) → w ≤ N + 10 → sw (sm_fx C 104 122 [.ref (X + 14), .ref t, .int (ni lv), sm_junk, .int (ni k), .int (ni b), .int (ni a), .int (ni (md_eol T b a)), sm_junk, .int (md_b s)] [.int (ni w), .ref (X + 14)] (cs X t T0 e (ts t D f g) p pl)) Q := by
                intro w hw hwN
                refine sw_ge (n104_122 hX tr) ?_
                simp only [sw_bi]
                refine sw_ge (f107 hX) ?_
                rw [c107 (cH_ts h) (by omega) _ w (Nat.le_refl _) hwN, sw_some]
                simp only [sb_i, sw_ite, md_b_0]
                by_cases hbl : md_bls T (md_eol T b a) w = true
                · rw [if_neg (by rw [hbl]; exact fun z => nomatch z)]
                  have hall : a + 2 + (σ k).length ≤ md_eol T b a ∧ md_dash T a (md_eol T b a) = true ∧ md_eqs T (a + 2) (σ k) = true ∧ md_bls T (md_eol T b a) (if md_dash T (a + 2 + (σ k).length) (md_eol T b a) = true then a + 2 + (σ k).length + 2 else a + 2 + (σ k).length) = true := ⟨hc.1, hc.2.1, hc.2.2, by rw [← hw]; exact hbl⟩
                  dsimp only at hok
                  rw [if_pos hall] at hok
                  have := hok _ rfl
                  dsimp only at this
                  simp (disch := omega) only [sw_gu, ni_in, ni_nat, ni_add, sw_bi, c284, sw_some, sb_i, nar_md]
                  refine ⟨decide_eq_true hlv, decide_eq_true hlv, decide_eq_true hlv, ?_⟩
                  rw [dI_cs (by omega) (by omega) (by omega), dI_ts (by omega) (by omega), dI_cs (by omega) (by omega) (by omega), dI_ts (by omega) (by omega), dI_cs (by omega) (by omega) (by omega), dI_ts (by omega) (by omega), hs]
                  exact this
                · rw [if_pos (by cases hx : md_bls T (md_eol T b a) w; rfl; exact absurd hx hbl)]
                  exact h162 (fun q => hbl (by rw [hw]; exact q.2.2.2))
              refine sw_ge (n104_99 hX tr) ?_
              simp only [sw_ite, md_b_0]
              rw [if_neg (by rw [ni_ne_k (by omega)]; exact id)]
              cases hd : s
              · rw [if_pos rfl]
                rw [hd] at h122 hs
                exact h122 _ (by rw [← hs, if_neg Bool.false_ne_true]) (by omega)
              · rw [if_neg (fun z => nomatch z), ni_add]
                rw [hd] at h122 hs
                exact h122 _ (by rw [← hs, if_pos rfl]) (by omega)
            cases hd : md_dash T (a + 2 + (σ k).length) (md_eol T b a)
            · rw [if_pos rfl]
              refine sw_ge (n104_98 hX tr) ?_
              exact h99 false hd.symm
            · rw [if_neg (fun z => nomatch z)]
              exact h99 true hd.symm
          · rw [if_neg hc, if_pos rfl]
            refine sw_ge (n104_98 hX tr) ?_
            refine sw_ge (n104_99 hX tr) ?_
            simp only [sw_ite, if_true]
            exact h162 (fun q => hc ⟨q.1, q.2.1, q.2.2.1⟩)
        have h34 : ∀ (m2 q : Nat), b - q ≤ m2 → a ≤ q → q ≤ b → md_eol T b q = md_eol T b a → sw (sm_fx C 104 34 [.ref (X + 14), .ref t, .int (ni lv), sm_junk, .int (ni k), .int (ni b), .int (ni a), .int (ni q), sm_junk, sm_junk] [] (cs X t T0 e (ts t D f g) p pl)) Q := by
          intro m2
          induction m2 with
          | zero =>
            intro q hq1 hq2 hq3 hq4
            rw [md_eol, if_neg (fun z => by omega)] at hq4
            refine sw_ge (n104_34 hX tr) ?_
            simp (disch := omega) only [sw_ite, ni_le]
            rw [if_pos (by omega), hq4]
            exact h64
          | succ m2 ih2 =>
            intro q hq1 hq2 hq3 hq4
            by_cases hqb : q < b
            · refine sw_ge (n104_34 hX tr) ?_
              simp (disch := omega) only [sw_ite, ni_le, sw_bi, c42b (cH_ts h) (show q < N by omega), sw_some, sb_i, ni_add]
              rw [if_neg (by omega)]
              by_cases h13 : T q = ni 13
              · rw [md_eol, if_neg (fun z => z.2 h13)] at hq4
                rw [if_pos h13, hq4]
                exact h64
              · rw [md_eol, if_pos ⟨hqb, h13⟩] at hq4
                rw [if_neg h13]
                exact ih2 (q + 1) (by omega) (by omega) (by omega) hq4
            · rw [md_eol, if_neg (fun z => hqb z.1)] at hq4
              refine sw_ge (n104_34 hX tr) ?_
              simp (disch := omega) only [sw_ite, ni_le]
              rw [if_pos (by omega), hq4]
              exact h64
        refine sw_ge (n104_23 hX tr) ?_
        simp (disch := omega) only [sw_ite, ni_le]
        rw [if_neg (by omega)]
        exact h34 _ a (Nat.le_refl _) (Nat.le_refl _) (by omega) rfl
      · rw [md_del, if_neg hab] at her
        refine sw_ge (n104_23 hX tr) ?_
        simp (disch := omega) only [sw_ite, ni_le, sw_bv]
        rw [if_pos (by omega)]
        exact c29 hX (cF_ts.trans cF_cs) (fun z D' hT => ⟨hT.tw, her rfl z D' hT⟩)
  refine sw_ge (f104 hX tr) ?_
  simp (disch := omega) only [sw_gu, ni_in, ni_nat, sw_bi]
  rw [r _ _ (by omega) (by omega) (by omega) (by omega) (by omega), h15, c142 h hn hn40 hi hS hl hP h6 h8, sw_some]
  simp only [sb_i, sw_gu]
  rw [r _ _ (by omega) (by omega) (by omega) (by omega) (by omega), h16, e1]
  exact ⟨decide_eq_true hlv, decide_eq_true hlv, loop _ body (Nat.le_refl _) (by omega) hok her⟩
end CPA
