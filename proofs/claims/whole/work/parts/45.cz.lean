section CCO
variable {C : sm_K} {X t N e p : Nat} {T : Nat → Int32} {D : sm_D} {T0 : Nat → Int32} {f g : Nat → Int32} {Q : (Option Value ⊕ Nat) → sm_D → Prop}
theorem c43p (h : cH C X t T N D) {s : Nat} {l pl xs : List Int32} (hs : st C s l) (hl : pl.length + xs.length ≤ 16400) : sm_fe C 43 [.ref (t + 1), .int (ni pl.length), .int (ni xs.length), .ref s] (cs X t T0 e D p (pl ++ xs)) = some (.inl (some (.int (md_b (decide (xs.map md_sm = l))))), cs X t T0 e D p (pl ++ xs)) := by
  have hr := (sm_tree_of h.1 h.2.1).2
  rw [c43g hr hs (P := md_nth (pl ++ xs)) (b := 16400) (fun i hi => c42 h (by rw [List.length_append]; exact hl) (by omega)) (fun _ => hl) (by omega) (by omega)]
  by_cases hh : xs.length = l.length
  · rw [decide_eq_true hh, Bool.true_and, md_at_iff hh (fun j _ => md_nth_app2)]
  · rw [decide_eq_false hh, Bool.false_and, decide_eq_false (fun z => hh (by rw [← z, List.length_map]))]
theorem md_code_k {k : Nat} {a : List Int32} (h : md_codeOf a = some k) : k ≤ 4 := by
  unfold md_codeOf at h
  repeat' split at h
  all_goals first
    | (cases h; omega)
    | cases h
theorem c64 (h : cH C X t T N D) {pl xs : List Int32} (hl : pl.length + xs.length ≤ 16400) : sm_fe C 64 [.ref (t + 1), .int (ni pl.length), .int (ni xs.length)] (cs X t T0 e D p (pl ++ xs)) = some (.inl (some (.int (match md_codeOf (xs.map md_sm) with | some k => ni k | none => sm_k (-1)))), cs X t T0 e D p (pl ++ xs)) := by
  have hr := (sm_tree_of h.1 h.2.1).2
  have hx := h.2.2.1
  apply sw_eq
  refine sw_ge (f64 hr) ?_
  simp only [sw_bi, c43p h (st_tx hx 29 (s := "7bit") rfl rfl (by decide) (by decide)) hl, c43p h (st_tx hx 30 (s := "8bit") rfl rfl (by decide) (by decide)) hl, c43p h (st_tx hx 31 (s := "binary") rfl rfl (by decide) (by decide)) hl, c43p h (st_tx hx 32 (s := "base64") rfl rfl (by decide) (by decide)) hl, c43p h (st_tx hx 33 (s := "quoted-printable") rfl rfl (by decide) (by decide)) hl, sw_some, sb_i, sw_ite, md_b_0, decide_eq_false_iff_not]
  unfold md_codeOf
  by_cases h1 : xs.map md_sm = md_w "7bit"
  · rw [if_neg (fun z => z h1), if_pos h1]
  · rw [if_pos h1, if_neg h1]
    by_cases h2 : xs.map md_sm = md_w "8bit"
    · rw [if_neg (fun z => z h2), if_pos h2]
    · rw [if_pos h2, if_neg h2]
      by_cases h3 : xs.map md_sm = md_w "binary"
      · rw [if_neg (fun z => z h3), if_pos h3]
      · rw [if_pos h3, if_neg h3]
        by_cases h4 : xs.map md_sm = md_w "base64"
        · rw [if_neg (fun z => z h4), if_pos h4]
        · rw [if_pos h4, if_neg h4]
          by_cases h5 : xs.map md_sm = md_w "quoted-printable"
          · rw [if_neg (fun z => z h5), if_pos h5]
          · rw [if_pos h5, if_neg h5]
theorem c63 (h : cW C X t T N e D) {σ : Nat → List Int32} {i n : Nat} {pl : List Int32} (hn : D.1 t 11 = ni n) (hn40 : n ≤ 40) (hi : i < n) (hS : SL f g pl σ) (hpl : pl.length + (e - p) ≤ 16400) (hp : md_ok T e p)
    (hok : ∀ k p1, md_code T e p = .ok (k, p1) → ∀ pl' r, SL f g pl' σ → md_ok T e r → pl'.length + (e - r) ≤ pl.length + (e - p) → Q (.inl none) (cs X t T e (ts t (sm_dI (sm_dI D (X + 7) 1 (ni p1)) (t + 9) i (ni k)) f g) r pl'))
    (her : ∀ x z D', md_code T e p = .error x → cT X t D x z D' → Q (.inr z) D') :
    sw (sm_fe C 63 [.ref (X + 7), .ref t, .int (ni i)] (cs X t T e (ts t D f g) p pl)) Q := by
  have hX := h.1.1
  have ht := h.1.2.1
  have tr := (sm_tree_of hX ht).1
  unfold md_code at hok her
  refine sw_ge (f63 hX tr) ?_
  simp only [sw_bv]
  refine c32 (cW_ts h) hp (fun p1 h1 => ?_) (fun x z D' h1 hT => ⟨hT.tw, her x z D' (by rw [h1]; rfl) (hT.of cF_ts)⟩)
  obtain ⟨o1, l1⟩ := md_space_ok hp h1
  have oe1 := o1.1
  simp only [h1, bind, Except.bind] at hok her
  have e1 : sm_up (cs X t T e (ts t D f g) p1 pl).1 (X + 7) 1 (ni p1) (t + 1) 1 = ni pl.length := by rw [up_ne (by omega), cs_p ht]
  simp only [sb_v, cs_2, e1, sw_bv]
  rw [dI_cs (by omega) (by omega) (by omega), dI_ts (by omega) (by omega)]
  have hW2 : cW C X t T N e (sm_dI D (X + 7) 1 (ni p1)) := cW_dI h (Or.inl (by omega)) (by omega)
  have hF2 : cF X t D (sm_dI D (X + 7) 1 (ni p1)) := cF_dI' (Or.inl (by omega))
  refine c34 (cW_ts hW2) (st_tok h.1.2.2.1) md_tok_set (by omega) o1 (fun xs p2 h2 => ?_) (fun x z D' h2 hT => ⟨hT.tw, her x z D' (by rw [h2]) (hT.of (hF2.trans cF_ts))⟩)
  obtain ⟨o2, l2⟩ := md_word_ok o1 h2
  have oe2 := o2.1
  simp only [h2] at hok her
  simp only [sb_v, sw_bi, cs_p ht, List.length_append, ni_sub (show pl.length ≤ pl.length + xs.length by omega), Nat.add_sub_cancel_left, c64 (cH_ts hW2.1) (show pl.length + xs.length ≤ 16400 by omega), sw_some, sb_i, sw_ite]
  cases hc : md_codeOf (xs.map md_sm) with
  | none =>
    simp only [hc] at her
    rw [if_pos rfl, sw_bv]
    have e7 : (cs X t T e (ts t (sm_dI D (X + 7) 1 (ni p1)) f g) p2 (pl ++ xs)).1 (X + 7) 1 = ni p1 := by
      rw [cs_o (by omega) (by omega) (by omega), ts_o (by omega) (by omega)]; exact dI_eq
    rw [e7]
    exact c29 hX ((hF2.trans cF_ts).trans cF_cs) (fun z D' hT => ⟨hT.tw, her p1 z D' rfl hT⟩)
  | some k =>
    simp only [hc] at hok her
    have hk := md_code_k hc
    rw [if_neg (by rw [ni_ne_k (by omega)]; exact id)]
    refine sw_ge (n63_75 hX tr) ?_
    simp only [sw_bv]
    refine c32 (cW_ts hW2) o2 (fun p3 h3 => ?_) (fun x z D' h3 hT => ⟨hT.tw, her x z D' (by rw [h3]) (hT.of (hF2.trans cF_ts))⟩)
    obtain ⟨o3, l3⟩ := md_space_ok o2 h3
    have oe3 := o3.1
    simp only [h3] at hok her
    simp only [sb_v, sw_bv]
    refine c37 (cW_ts hW2) (fun h4 => ?_) (fun x z D' h4 hT => ⟨hT.tw, her x z D' (by rw [h4]) (hT.of (hF2.trans cF_ts))⟩)
    simp only [h4] at hok her
    have e11 : (cs X t T e (ts t (sm_dI D (X + 7) 1 (ni p1)) f g) p3 (pl ++ xs)).1 t 11 = ni n := by rw [cs_o (by omega) (by omega) (by omega), ts_o (by omega) (by omega), dI_ne (by omega), hn]
    simp (disch := omega) only [sb_v, sw_bi, c128 tr e11 hn40 (show i < 2147483648 by omega), sw_some, sb_i, sw_ite, md_b_0, sw_gu, ni_in, ni_nat]
    rw [decide_eq_true hi, if_neg (fun z => nomatch z)]
    refine ⟨decide_eq_true (by omega), ?_⟩
    rw [dI_cs (by omega) (by omega) (by omega), dI_ts (by omega) (by omega)]
    exact hok k p1 rfl (pl ++ xs) p3 hS.mono o3 (by rw [List.length_append]; omega)
/-- the fields of an entity -/
def FS (t : Nat) (D : sm_D) (i tot : Nat) (fs : List md_F) : Prop := D.1 (t + 6) i = ni tot ∧ D.1 (t + 7) i = ni fs.length ∧ D.1 t 12 = ni (tot + fs.length) ∧ tot + fs.length ≤ 200 ∧ fs.length ≤ 20 ∧ ∀ j h, fs[j]? = some h → D.1 (t + 11) (tot + j) = ni h.1 ∧ h.1 ≤ 6
theorem c129 {D : sm_D} (tr : sm_tree C t) {i n tot j : Nat} {fs : List md_F} {h : md_F} (hn : D.1 t 11 = ni n) (hn40 : n ≤ 40) (hi : i < n) (hF : FS t D i tot fs) (hj : fs[j]? = some h) : sm_fe C 129 [.ref t, .int (ni i), .int (ni j)] D = some (.inl (some (.int (ni h.1))), D) := by
  obtain ⟨a1, a2, a3, a4, a5, a6⟩ := hF
  have hjl : j < fs.length := by
    rcases Nat.lt_or_ge j fs.length with h1 | h1
    · exact h1
    · rw [List.getElem?_eq_none h1] at hj; cases hj
  apply sw_eq
  refine sw_ge (f129 tr) ?_
  simp (disch := omega) only [sw_bi, c128 tr hn hn40 (show i < 2147483648 by omega), sw_some, sb_i, sw_ite, md_b_0, sw_gu, ni_in, ni_nat, a1, ni_add]
  rw [decide_eq_true hi, if_neg (fun z => nomatch z)]
  refine ⟨decide_eq_true (by omega), ?_⟩
  refine sw_ge (n129_20 tr) ?_
  simp (disch := omega) only [sw_some, sw_ite, sw_gu, ni_in, ni_nat, a3, ni_lt, ni_le]
  rw [if_neg (by omega), if_neg (by omega), if_neg (by omega), (a6 j h hj).1]
  exact ⟨decide_eq_true (by omega), rfl⟩
theorem c127 {D : sm_D} (tr : sm_tree C t) {i n tot k : Nat} {fs : List md_F} (hn : D.1 t 11 = ni n) (hn40 : n ≤ 40) (hi : i < n) (hF : FS t D i tot fs) (hk : k ≤ 6) : sm_fe C 127 [.ref t, .int (ni i), .int (ni k)] D = some (.inl (some (.int (md_b (fs.any (fun h => h.1 == k))))), D) := by
  obtain ⟨a1, a2, a3, a4, a5, a6⟩ := id hF
  have loop : ∀ (m j : Nat), j + m = fs.length → sm_fx C 127 22 [.ref t, .int (ni i), .int (ni k), .int (ni fs.length), .int (ni j)] [] D = some (.inl (some (.int (md_b ((fs.drop j).any (fun h => h.1 == k))))), D) := by
    intro m
    induction m with
    | zero =>
      intro j hj
      apply sw_eq
      refine sw_ge (n127_22 tr) ?_
      simp (disch := omega) only [sw_some, sw_ite, ni_le]
      rw [if_pos (by omega), List.drop_of_length_le (by omega), nar_b0]
      rfl
    | succ m ih =>
      intro j hj
      have hj2 : j < fs.length := by omega
      have hk2 := (a6 j fs[j] (List.getElem?_eq_getElem hj2)).2
      apply sw_eq
      refine sw_ge (n127_22 tr) ?_
      simp (disch := omega) only [sw_some, sw_ite, ni_le, sw_bi, c129 tr hn hn40 hi hF (List.getElem?_eq_getElem hj2), sb_i, ni_inj, ni_add, ih (j + 1) (by omega)]
      rw [if_neg (by omega), List.drop_eq_getElem_cons hj2, List.any_cons, nar_b1]
      by_cases hc : fs[j].1 = k
      · rw [if_pos hc, beq_iff_eq.mpr hc, Bool.true_or]; rfl
      · rw [if_neg hc, beq_false_of_ne hc, Bool.false_or]
  apply sw_eq
  refine sw_ge (f127 tr) ?_
  simp (disch := omega) only [sw_bi, c128 tr hn hn40 (show i < 2147483648 by omega), sw_some, sb_i, sw_ite, md_b_0, sw_gu, ni_in, ni_nat, a2]
  rw [decide_eq_true hi, if_neg (fun z => nomatch z)]
  refine ⟨decide_eq_true (by omega), ?_⟩
  refine sw_ge (n127_18 tr) ?_
  rw [loop fs.length 0 (Nat.zero_add _), sw_some, List.drop_zero]
theorem FS_cs {D : sm_D} {i tot : Nat} {fs : List md_F} {pl : List Int32} (ht : t = X + 23 ∨ t = X + 36) (hF : FS t D i tot fs) : FS t (cs X t T e (ts t D f g) p pl) i tot fs := by
  obtain ⟨a1, a2, a3, a4, a5, a6⟩ := hF
  have r : ∀ a j, (a = t ∨ a = t + 6 ∨ a = t + 7 ∨ a = t + 11) → (cs X t T e (ts t D f g) p pl).1 a j = D.1 a j := fun a j ha => by
    rw [cs_o (by omega) (by omega) (by omega), ts_o (by omega) (by omega)]
  exact ⟨by rw [r _ _ (by omega), a1], by rw [r _ _ (by omega), a2], by rw [r _ _ (by omega), a3], a4, a5, fun j h hj => by rw [r _ _ (by omega)]; exact a6 j h hj⟩
theorem c58 (h : cH C X t T N D) {σ : Nat → List Int32} {i n tot : Nat} {fs : List md_F} {pl : List Int32} (hn : D.1 t 11 = ni n) (hn40 : n ≤ 40) (hi : i < n) (hF : FS t D i tot fs) (hS : SL f g pl σ) (hpl : pl.length + 9 ≤ 16400) :
    ∃ f' g' pl' σ', SL f' g' pl' σ' ∧ pl'.length ≤ pl.length + 9 ∧ (∀ k, k ≠ 400 + 2 * i → k ≠ 400 + 2 * i + 1 → σ' k = σ k) ∧ (fs.any (fun h => h.1 == 1) = false → σ' (400 + 2 * i) = md_w "text" ∧ σ' (400 + 2 * i + 1) = md_w "plain") ∧
    sm_fe C 58 [.ref (X + 7), .ref t, .int (ni i)] (cs X t T0 e (ts t D f g) p pl) = some (.inl none, cs X t T0 e (ts t (sm_dI D (X + 7) 1 (ni 0)) f' g') p pl') := by
  have hX := h.1
  have ht := h.2.1
  have tr := (sm_tree_of hX ht).1
  have hn' : (cs X t T0 e (ts t (sm_dI D (X + 7) 1 (ni 0)) f g) p pl).1 t 11 = ni n := by rw [cs_o (by omega) (by omega) (by omega), ts_o (by omega) (by omega), dI_ne (by omega), hn]
  have hF1 : FS t (sm_dI D (X + 7) 1 (ni 0)) i tot fs := by
    obtain ⟨a1, a2, a3, a4, a5, a6⟩ := hF
    exact ⟨by rw [dI_ne (by omega), a1], by rw [dI_ne (by omega), a2], by rw [dI_ne (by omega), a3], a4, a5, fun j h hj => by rw [dI_ne (by omega)]; exact a6 j h hj⟩
  have hH1 : cH C X t T N (sm_dI D (X + 7) 1 (ni 0)) := cH_dI h (Or.inl (by omega))
  cases hb : fs.any (fun h => h.1 == 1)
  · have hS1 := hS.set (ys := md_w "text") (400 + 2 * i)
    have hS2 := hS1.set (ys := md_w "plain") (400 + 2 * i + 1)
    have l1 : (md_w "text").length = 4 := by decide
    have l2 : (md_w "plain").length = 5 := by decide
    refine ⟨_, _, _, _, hS2, ?_, fun k h1 h2 => ?_, fun _ => ⟨?_, ?_⟩, ?_⟩
    · rw [List.length_append, List.length_append, l1, l2]; omega
    · unfold up1; rw [if_neg h2, if_neg h1]
    · unfold up1; rw [if_neg (by omega), if_pos rfl]
    · unfold up1; rw [if_pos rfl]
    · apply sw_eq
      refine sw_ge (f58 hX tr) ?_
      simp only [sw_bi]
      rw [dI_cs (by omega) (by omega) (by omega), dI_ts (by omega) (by omega), c127 tr hn' hn40 hi (FS_cs ht hF1) (by omega), sw_some]
      simp only [sb_i, sw_ite, md_b_0, hb, if_true, sw_bi, c133, sw_some, Nat.add_zero, sw_bv, c134 hH1 (show 400 + 2 * i < 1061 by omega) (st_tx h.2.2.1 24 (s := "text") rfl rfl (by decide) (by decide)) (show pl.length + (md_w "text").length ≤ 16400 by omega), sb_v]
      rw [c134 hH1 (show 400 + 2 * i + 1 < 1061 by omega) (st_tx h.2.2.1 25 (s := "plain") rfl rfl (by decide) (by decide)) (by rw [List.length_append]; omega), sw_some]
      simp only [sb_v, sw_some]
  · refine ⟨f, g, pl, σ, hS, by omega, fun _ _ _ => rfl, (fun z => nomatch z), ?_⟩
    apply sw_eq
    refine sw_ge (f58 hX tr) ?_
    simp only [sw_bi]
    rw [dI_cs (by omega) (by omega) (by omega), dI_ts (by omega) (by omega), c127 tr hn' hn40 hi (FS_cs ht hF1) (by omega), sw_some]
    simp only [sb_i, sw_ite, md_b_0, hb, sw_some]
    rw [if_neg (fun z => nomatch z)]
    trivial
theorem c65 (h : cH C X t T N D) {i n k q : Nat} {m : Bool} {pl : List Int32} (hn : D.1 t 11 = ni n) (hn40 : n ≤ 40) (hi : i < n) (h10 : D.1 (t + 10) i = md_b m) (h9 : D.1 (t + 9) i = ni k) (hk : k ≤ 4) (h7 : m = true → 2 < k → D.1 (X + 7) 1 = ni q)
    (hok : ¬ (m = true ∧ 2 < k) → Q (.inl none) (cs X t T0 e (ts t D f g) p pl)) (her : ∀ z D', m = true ∧ 2 < k → cT X t D q z D' → Q (.inr z) D') :
    sw (sm_fe C 65 [.ref (X + 7), .ref t, .int (ni i)] (cs X t T0 e (ts t D f g) p pl)) Q := by
  have hX := h.1
  have ht := h.2.1
  have tr := (sm_tree_of hX ht).1
  have r : ∀ a j, a ≠ X + 1 → a ≠ t + 1 → a ≠ t + 2 → a ≠ t + 3 → a ≠ t + 4 → (cs X t T0 e (ts t D f g) p pl).1 a j = D.1 a j := fun a j h1 h2 h3 h4 h5 => by
    rw [cs_o h1 h2 h3, ts_o h4 h5]
  have hn' : (cs X t T0 e (ts t D f g) p pl).1 t 11 = ni n := by rw [r _ _ (by omega) (by omega) (by omega) (by omega) (by omega), hn]
  refine sw_ge (f65 hX tr) ?_
  simp (disch := omega) only [sw_bi, c128 tr hn' hn40 (show i < 2147483648 by omega), sw_some, sb_i, sw_ite, md_b_0, sw_gu, ni_in, ni_nat, sw_bv]
  rw [decide_eq_true hi, if_neg (fun z => nomatch z), r _ _ (by omega) (by omega) (by omega) (by omega) (by omega), r _ _ (by omega) (by omega) (by omega) (by omega) (by omega), h10, h9]
  refine ⟨decide_eq_true (by omega), ?_⟩
  cases m
  · rw [if_pos (by decide)]
    exact hok (fun z => nomatch z.1)
  · rw [if_neg (by decide)]
    refine ⟨decide_eq_true (by omega), ?_⟩
    by_cases h2 : 2 < k
    · rw [if_neg (by rw [ni_le (by omega) (by omega)]; omega), r _ _ (by omega) (by omega) (by omega) (by omega) (by omega), h7 rfl h2]
      exact c29 hX (cF_ts.trans cF_cs) (fun z D' hT => ⟨hT.tw, her z D' ⟨rfl, h2⟩ hT⟩)
    · rw [if_pos (by rw [ni_le (by omega) (by omega)]; omega)]
      exact hok (fun z => h2 z.2)
end CCO
