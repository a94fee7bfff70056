section CCE
variable {C : sm_K} {X t N e p : Nat} {T T0 : Nat → Int32} {D : sm_D} {Q : (Option Value ⊕ Nat) → sm_D → Prop}
theorem c84 (hx : tx C) {a b : Nat} (ha : a < 256) (hb : b < 256) : sm_fe C 84 [.int (ni a), .int (ni b)] D = some (.inl (some (.int (md_hx (ni a) (ni b)))), D) := by
  have hs := st_hex hx
  have hF : ∀ c, c ∈ md_w md_HEX ↔ (md_w md_HEX).contains c = true := fun c => List.contains_iff_mem.symm
  have h23 : ∀ s : Bool, s = decide (md_hex (ni a) ≠ sm_k (-1) ∧ md_hex (ni b) ≠ sm_k (-1)) → sw (sm_fx C 84 23 [.int (ni a), .int (ni b), sm_junk] [.int (md_b s)] D) (fun w E => (w, E) = (.inl (some (.int (md_hx (ni a) (ni b)))), D)) := by
    intro s hs2
    refine sw_ge (n84_23 hx.1) ?_
    simp only [sw_ite, md_b_0, sw_some, sw_bi, md_c16' a ha, md_c16' b hb, s265 hs, sb_i, md_hex_ix a ha, md_hex_ix b hb]
    unfold md_hx
    by_cases hc : md_hex (ni a) = sm_k (-1) ∨ md_hex (ni b) = sm_k (-1)
    · rw [if_pos hc]
      have : s = false := by rw [hs2]; exact decide_eq_false (fun z => hc.elim z.1 z.2)
      rw [if_pos this]
    · rw [if_neg hc]
      have : s = true := by rw [hs2]; exact decide_eq_true ⟨fun z => hc (Or.inl z), fun z => hc (Or.inr z)⟩
      rw [if_neg (by rw [this]; exact fun z => nomatch z), Int32.mul_comm]
  have h22 : (md_hex (ni a) = sm_k (-1) ∨ md_hex (ni b) = sm_k (-1)) → sw (sm_fx C 84 22 [.int (ni a), .int (ni b), sm_junk] [] D) (fun w E => (w, E) = (.inl (some (.int (md_hx (ni a) (ni b)))), D)) := by
    intro hc
    refine sw_ge (n84_22 hx.1) ?_
    exact h23 false (by rw [decide_eq_false (fun z => hc.elim z.1 z.2)])
  apply sw_eq
  refine sw_ge (f84 hx.1) ?_
  simp only [sw_bi, c4 hs hF ha, c4 hs hF hb, sw_some, sb_i, sw_ite, md_b_0, md_hex_in a ha, md_hex_in b hb, decide_eq_false_iff_not, Classical.not_not]
  by_cases h1 : md_hex (ni a) = sm_k (-1)
  · rw [if_pos h1]; exact h22 (Or.inl h1)
  · rw [if_neg h1]
    by_cases h2 : md_hex (ni b) = sm_k (-1)
    · rw [if_pos h2]; exact h22 (Or.inr h2)
    · rw [if_neg h2]; exact h23 true (by rw [decide_eq_true ⟨h1, h2⟩])
theorem c42b (h : cH C X t T N D) {pl : List Int32} {i : Nat} (hi : i < N) : sm_fe C 42 [.ref (X + 2), .int (ni i)] (cs X t T0 e D p pl) = some (.inl (some (.int (T i))), cs X t T0 e D p pl) := by
  have hN := h.2.2.2.1
  rw [c42t h (by omega), if_pos hi]
theorem c89 (h : cH C X t T N D) {code b : Nat} (hc : code ≤ 4) (hb : b ≤ N) : ∀ (m a : Nat) (pl : List Int32), a + m = b ∨ (m = 0 ∧ b ≤ a) → a ≤ N → pl.length + (b - a) ≤ 16400 → (∀ ys, md_pln T b code a = .ok ys → Q (.inl none) (cs X t T0 e D p (pl ++ ys))) → (∀ x z D', md_pln T b code a = .error x → cT X t D x z D' → Q (.inr z) D') →
    sw (sm_fx C 89 3 [.ref (X + 10), .ref (t + 1), .int (ni code), sm_junk, .int (ni b), .int (ni a), sm_junk] [] (cs X t T0 e D p pl)) Q := by
  have hX := h.1
  have ht := h.2.1
  have hr := (sm_tree_of hX ht).2
  have hN := h.2.2.2.1
  intro m
  induction m with
  | zero =>
    intro a pl hm ha hpl hok her
    refine sw_ge (n89_3 hX hr) ?_
    simp (disch := omega) only [sw_ite, ni_le, sw_some]
    rw [if_pos (by omega)]
    rw [md_pln, if_neg (by omega)] at hok
    have := hok [] rfl
    rw [List.append_nil] at this
    exact this
  | succ m ih =>
    intro a pl hm ha hpl hok her
    have hab : a < b := by omega
    obtain ⟨n, hn, eT⟩ := h.2.2.2.2.2.2 a (by omega)
    rw [md_pln, if_pos hab] at hok her
    refine sw_ge (n89_3 hX hr) ?_
    simp (disch := omega) only [sw_ite, ni_le, sw_bi, c42b h (show a < N by omega), sw_some, sb_i, ni_inj]
    rw [if_neg (by omega)]
    have h54 : ¬ ((T a = ni 0 ∧ code ≠ 2) ∨ (ni 127 < T a ∧ code = 0)) → sw (sm_fx C 89 54 [.ref (X + 10), .ref (t + 1), .int (ni code), sm_junk, .int (ni b), .int (ni a), .int (T a)] [] (cs X t T0 e D p pl)) Q := by
      intro hno
      rw [if_neg hno] at hok her
      refine sw_ge (n89_54 hX hr) ?_
      simp only [sw_bv, c44 h (show pl.length < 16400 by omega), sw_some, sb_v, ni_add]
      refine ih (a + 1) _ (by omega) (by omega) (by rw [List.length_append, List.length_singleton]; omega) (fun ys hy => ?_) (fun x z D' hy hT => ?_)
      · rw [hy] at hok
        rw [List.append_assoc]
        exact hok _ rfl
      · rw [hy] at her
        exact her x z D' rfl hT
    have h45 : ((T a = ni 0 ∧ code ≠ 2) ∨ (ni 127 < T a ∧ code = 0)) → sw (sm_fx C 89 45 [.ref (X + 10), .ref (t + 1), .int (ni code), sm_junk, .int (ni b), .int (ni a), .int (T a)] [] (cs X t T0 e D p pl)) Q := by
      intro hy
      rw [if_pos hy] at her
      refine sw_ge (n89_45 hX hr) ?_
      simp only [sw_bv]
      exact c29 hX cF_cs (fun z D' hT => ⟨hT.tw, her a z D' rfl hT⟩)
    have h34 : ¬ (T a = ni 0 ∧ code ≠ 2) → sw (sm_fx C 89 34 [.ref (X + 10), .ref (t + 1), .int (ni code), sm_junk, .int (ni b), .int (ni a), .int (T a)] [] (cs X t T0 e D p pl)) Q := by
      intro h0
      refine sw_ge (n89_34 hX hr) ?_
      simp (disch := omega) only [sw_ite, ni_inj]
      by_cases h7 : T a ≤ ni 127
      · rw [if_pos h7]
        exact h54 (fun z => z.elim h0 (fun y => absurd h7 (Int32.not_le.mpr y.1)))
      · rw [if_neg h7]
        by_cases hc0 : code = 0
        · rw [if_pos hc0]
          exact h45 (Or.inr ⟨Int32.not_le.mp h7, hc0⟩)
        · rw [if_neg hc0]
          exact h54 (fun z => z.elim h0 (fun y => hc0 y.2))
    by_cases h0 : T a = ni 0
    · rw [if_pos h0]
      by_cases hc2 : code = 2
      · rw [if_pos hc2]; exact h34 (fun z => z.2 hc2)
      · rw [if_neg hc2]; exact h45 (Or.inl ⟨h0, hc2⟩)
    · rw [if_neg h0]; exact h34 (fun z => h0 z.1)
theorem c88 (h : cH C X t T N D) {a b : Nat} {pl : List Int32} (hb : b ≤ N) (hab : a < b)
    (hok : a + 2 < b → md_hx (T (a + 1)) (T (a + 2)) ≠ sm_k (-1) → Q (.inl (some (.int (md_hx (T (a + 1)) (T (a + 2)))))) (cs X t T0 e D p pl))
    (her : ¬ (a + 2 < b ∧ md_hx (T (a + 1)) (T (a + 2)) ≠ sm_k (-1)) → ∀ z D', cT X t D a z D' → Q (.inr z) D') :
    sw (sm_fe C 88 [.ref (X + 10), .int (ni a), .int (ni b)] (cs X t T0 e D p pl)) Q := by
  have hX := h.1
  have hN := h.2.2.2.1
  refine sw_ge (f88 hX) ?_
  simp (disch := omega) only [sw_ite, ni_add, ni_le]
  by_cases h2 : a + 2 < b
  · rw [if_neg (by omega)]
    obtain ⟨n1, hn1, e1⟩ := h.2.2.2.2.2.2 (a + 1) (by omega)
    obtain ⟨n2, hn2, e2⟩ := h.2.2.2.2.2.2 (a + 2) (by omega)
    simp only [sw_bi, c42b h (show a + 1 < N by omega), c42b h (show a + 2 < N by omega), sw_some, sb_i]
    rw [e1, e2, c84 h.2.2.1 hn1 hn2, sw_some]
    rw [e1, e2] at hok her
    simp only [sb_i]
    refine sw_ge (n88_40 hX) ?_
    simp only [sw_ite, sw_bv, sw_some]
    by_cases hc : md_hx (ni n1) (ni n2) = sm_k (-1)
    · rw [if_pos hc]
      exact c29 hX cF_cs (fun z D' hT => ⟨hT.tw, her (fun z => z.2 hc) z D' hT⟩)
    · rw [if_neg hc]
      exact hok h2 hc
  · rw [if_pos (by omega)]
    refine sw_ge (n88_40 hX) ?_
    simp only [sw_ite, sw_bv, if_true]
    exact c29 hX cF_cs (fun z D' hT => ⟨hT.tw, her (fun z => h2 z.1) z D' hT⟩)
theorem c87 (h : cH C X t T N D) {b : Nat} (hb : b ≤ N) : ∀ (m a : Nat) (pl : List Int32), b - a ≤ m → a ≤ N + 3 → pl.length + (b - a) ≤ 16400 → (∀ ys, md_qp T b a = .ok ys → Q (.inl none) (cs X t T0 e D p (pl ++ ys))) → (∀ x z D', md_qp T b a = .error x → cT X t D x z D' → Q (.inr z) D') →
    sw (sm_fx C 87 3 [.ref (X + 10), .ref (t + 1), sm_junk, .int (ni b), .int (ni a), sm_junk, sm_junk, sm_junk] [] (cs X t T0 e D p pl)) Q := by
  have hX := h.1
  have ht := h.2.1
  have hr := (sm_tree_of hX ht).2
  have hN := h.2.2.2.1
  intro m
  induction m with
  | zero =>
    intro a pl hm ha hpl hok her
    refine sw_ge (n87_3 hX hr) ?_
    simp (disch := omega) only [sw_ite, ni_le, sw_some]
    rw [if_pos (by omega)]
    rw [md_qp, if_neg (by omega)] at hok
    have := hok [] rfl
    rw [List.append_nil] at this
    exact this
  | succ m ih =>
    intro a pl hm ha hpl hok her
    by_cases hab : a < b
    · rw [md_qp, if_pos hab] at hok her
      -- the letter is added
      have h161 : T a ≠ ni 61 → (md_in (T a) 33 126 = true ∨ (md_bl (T a) = true ∧ ¬ (b ≤ a + 1 ∨ T (a + 1) = ni 13)) ∨ T a = ni 13 ∨ T a = ni 10) → sw (sm_fx C 87 145 [.ref (X + 10), .ref (t + 1), sm_junk, .int (ni b), .int (ni a), .int (T a), sm_junk, sm_junk] [.int (ni 1)] (cs X t T0 e D p pl)) Q := by
        intro h61 hst
        rw [if_neg h61, if_pos hst] at hok her
        refine sw_ge (n87_145 hX hr) ?_
        simp only [sw_ite, ni_10, if_false]
        refine sw_ge (n87_161 hX hr) ?_
        simp only [sw_bv, c44 h (show pl.length < 16400 by omega), sw_some, sb_v, ni_add]
        refine ih (a + 1) _ (by omega) (by omega) (by rw [List.length_append, List.length_singleton]; omega) (fun ys hy => ?_) (fun x z D' hy hT => ?_)
        · rw [hy] at hok
          rw [List.append_assoc]
          exact hok _ rfl
        · rw [hy] at her
          exact her x z D' rfl hT
      have h145 : T a ≠ ni 61 → ¬ (md_in (T a) 33 126 = true ∨ (md_bl (T a) = true ∧ ¬ (b ≤ a + 1 ∨ T (a + 1) = ni 13)) ∨ T a = ni 13 ∨ T a = ni 10) → sw (sm_fx C 87 145 [.ref (X + 10), .ref (t + 1), sm_junk, .int (ni b), .int (ni a), .int (T a), sm_junk, sm_junk] [.int (ni 0)] (cs X t T0 e D p pl)) Q := by
        intro h61 hst
        rw [if_neg h61, if_neg hst] at her
        refine sw_ge (n87_145 hX hr) ?_
        simp only [sw_ite, if_true, sw_bv]
        exact c29 hX cF_cs (fun z D' hT => ⟨hT.tw, her a z D' rfl hT⟩)
      have h75 : ∀ s : Bool, s = decide (b ≤ a + 1 ∨ T (a + 1) = ni 13) → (T a = ni 61 → s = false) → sw (sm_fx C 87 75 [.ref (X + 10), .ref (t + 1), sm_junk, .int (ni b), .int (ni a), .int (T a), .int (md_b s), sm_junk] [] (cs X t T0 e D p pl)) Q := by
        intro s hs h61s
        refine sw_ge (n87_75 hX hr) ?_
        simp only [sw_ite, sw_bi]
        by_cases h61 : T a = ni 61
        · have hs0 := h61s h61
          rw [hs] at hs0
          have hlast : ¬ (b ≤ a + 1 ∨ T (a + 1) = ni 13) := of_decide_eq_false hs0
          rw [if_pos h61, if_neg hlast] at hok her
          rw [if_pos h61]
          refine c88 h hb hab (fun h2 hx => ?_) (fun hno z D' hT => ?_)
          · rw [if_pos ⟨h2, hx⟩] at hok her
            simp only [sb_i, sw_bv, c44 h (show pl.length < 16400 by omega), sw_some, sb_v, ni_add]
            refine ih (a + 3) _ (by omega) (by omega) (by rw [List.length_append, List.length_singleton]; omega) (fun ys hy => ?_) (fun x z D' hy hT => ?_)
            · rw [hy] at hok
              rw [List.append_assoc]
              exact hok _ rfl
            · rw [hy] at her
              exact her x z D' rfl hT
          · rw [if_neg hno] at her
            exact ⟨hT.tw, her a z D' rfl hT⟩
        · rw [if_neg h61]
          have h126 : md_in (T a) 33 126 = false → ¬ (md_bl (T a) = true ∧ ¬ (b ≤ a + 1 ∨ T (a + 1) = ni 13)) → sw (sm_fx C 87 126 [.ref (X + 10), .ref (t + 1), sm_junk, .int (ni b), .int (ni a), .int (T a), sm_junk, sm_junk] [] (cs X t T0 e D p pl)) Q := by
            intro g1 g2
            refine sw_ge (n87_126 hX hr) ?_
            simp only [sw_ite]
            by_cases h13 : T a = ni 13
            · rw [if_pos h13]; exact h161 h61 (Or.inr (Or.inr (Or.inl h13)))
            · rw [if_neg h13]
              by_cases h10 : T a = ni 10
              · rw [if_pos h10]; exact h161 h61 (Or.inr (Or.inr (Or.inr h10)))
              · rw [if_neg h10]
                exact h145 h61 (fun z => z.elim (fun y => by rw [g1] at y; cases y) (fun y => y.elim g2 (fun w => w.elim h13 h10)))
          have h113 : md_in (T a) 33 126 = false → sw (sm_fx C 87 113 [.ref (X + 10), .ref (t + 1), sm_junk, .int (ni b), .int (ni a), .int (T a), .int (md_b s), sm_junk] [] (cs X t T0 e D p pl)) Q := by
            intro g1
            refine sw_ge (n87_113 hX hr) ?_
            simp only [sw_bi, c3, sw_some, sb_i, sw_ite, md_b_0]
            by_cases hbl : md_bl (T a) = false
            · rw [if_pos hbl]; exact h126 g1 (fun z => by rw [hbl] at z; exact absurd z.1 Bool.false_ne_true)
            · rw [if_neg hbl]
              have hbl2 : md_bl (T a) = true := by cases hx : md_bl (T a); exact absurd hx hbl; rfl
              by_cases hs0 : s = false
              · rw [if_pos hs0]
                rw [hs0] at hs
                exact h161 h61 (Or.inr (Or.inl ⟨hbl2, of_decide_eq_false hs.symm⟩))
              · rw [if_neg hs0]
                refine h126 g1 (fun z => hs0 ?_)
                rw [hs]
                exact decide_eq_false z.2
          by_cases h32 : T a ≤ ni 32
          · rw [if_pos h32]
            refine h113 (md_in_lt ?_)
            rw [Int32.le_iff_toInt_le, ni_toInt (by omega)] at h32
            rw [Int32.lt_iff_toInt_lt, ni_toInt (by omega)]
            omega
          · rw [if_neg h32]
            by_cases h127 : T a < ni 127
            · rw [if_pos h127]
              refine h161 h61 (Or.inl (md_in_t ?_ ?_))
              · rw [Int32.le_iff_toInt_le, ni_toInt (by omega)] at h32
                rw [Int32.lt_iff_toInt_lt, ni_toInt (by omega)]
                omega
              · rw [Int32.lt_iff_toInt_lt, ni_toInt (by omega)] at h127 ⊢
                omega
            · rw [if_neg h127]
              refine h113 (md_in_gt ?_)
              rw [Int32.lt_iff_toInt_lt, ni_toInt (by omega)] at h127 ⊢
              omega
      have h55 : ∀ s : Bool, s = decide (b ≤ a + 1 ∨ T (a + 1) = ni 13) → sw (sm_fx C 87 55 [.ref (X + 10), .ref (t + 1), sm_junk, .int (ni b), .int (ni a), .int (T a), sm_junk, sm_junk] [.int (md_b s)] (cs X t T0 e D p pl)) Q := by
        intro s hs
        refine sw_ge (n87_55 hX hr) ?_
        simp only [sw_ite, md_b_0]
        by_cases h61 : T a = ni 61
        · rw [if_pos h61]
          by_cases hs0 : s = false
          · rw [if_pos hs0]
            exact h75 s hs (fun _ => hs0)
          · rw [if_neg hs0, ni_add]
            have hlast : b ≤ a + 1 ∨ T (a + 1) = ni 13 := by
              apply of_decide_eq_true
              rw [← hs]
              cases hx : s
              · exact absurd hx hs0
              · rfl
            rw [if_pos h61, if_pos hlast] at hok her
            exact ih (a + 3) pl (by omega) (by omega) (by omega) hok her
        · rw [if_neg h61]
          exact h75 s hs (fun z => absurd z h61)
      refine sw_ge (n87_3 hX hr) ?_
      simp (disch := omega) only [sw_ite, ni_le, sw_bi, c42b h (show a < N by omega), sw_some, sb_i, ni_add]
      rw [if_neg (by omega)]
      by_cases hl1 : b ≤ a + 1
      · rw [if_pos hl1]
        exact h55 true (by rw [decide_eq_true (Or.inl hl1)])
      · rw [if_neg hl1, c42b h (show a + 1 < N by omega), sw_some]
        simp only [sb_i, sw_ite]
        by_cases hl2 : T (a + 1) = ni 13
        · rw [if_pos hl2]
          exact h55 true (by rw [decide_eq_true (Or.inr hl2)])
        · rw [if_neg hl2]
          exact h55 false (by rw [decide_eq_false (fun z => z.elim hl1 hl2)])
    · refine sw_ge (n87_3 hX hr) ?_
      simp (disch := omega) only [sw_ite, ni_le, sw_some]
      rw [if_pos (by omega)]
      rw [md_qp, if_neg hab] at hok
      have := hok [] rfl
      rw [List.append_nil] at this
      exact this
end CCE
