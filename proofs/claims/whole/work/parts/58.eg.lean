/-! ===== lines and fields ===== -/
section CRD
variable {C : sm_K} {X t N e p : Nat} {T T0 : Nat → Int32} {D : sm_D} {Q : (Option Value ⊕ Nat) → sm_D → Prop}
theorem c49 (h : cH C X t T N D) {pl : List Int32} (hok : md_lns T N 0 0 = none → Q (.inl none) (cs X t T0 e D p pl)) (her : ∀ x z D', md_lns T N 0 0 = some x → cT X t D x z D' → Q (.inr z) D') :
    sw (sm_fe C 49 [.ref (X + 4)] (cs X t T0 e D p pl)) Q := by
  have hX := h.1
  have hN := h.2.2.2.1
  have loop : ∀ (m i l : Nat), N - i ≤ m → i ≤ N → l ≤ 998 → (md_lns T N i l = none → Q (.inl none) (cs X t T0 e D p pl)) → (∀ x z D', md_lns T N i l = some x → cT X t D x z D' → Q (.inr z) D') → sw (sm_fx C 49 15 [.ref (X + 4), .int (ni N), .int (ni l), .int (ni i), sm_junk] [] (cs X t T0 e D p pl)) Q := by
    intro m
    induction m with
    | zero =>
      intro i l hm hi hl hok her
      rw [md_lns, if_neg (by omega)] at hok
      refine sw_ge (n49_15 hX) ?_
      simp (disch := omega) only [sw_ite, ni_le, sw_some]
      rw [if_pos (by omega)]
      exact hok rfl
    | succ m ih =>
      intro i l hm hi hl hok her
      by_cases hiN : i < N
      · rw [md_lns, if_pos hiN] at hok her
        have h90 : (T i = ni 13 ∨ T i = ni 10 ∨ 998 ≤ l) → ¬ (T i = ni 13 ∧ i + 1 < N ∧ T (i + 1) = ni 10) → sw (sm_fx C 49 90 [.ref (X + 4), .int (ni N), .int (ni (l + 1)), .int (ni i), sm_junk] [] (cs X t T0 e D p pl)) Q := by
          intro h1 h2
          rw [if_neg h2, if_pos h1] at her
          refine sw_ge (n49_90 hX) ?_
          simp only [sw_bv]
          exact c29 hX cF_cs (fun z D' hT => ⟨hT.tw, her i z D' rfl hT⟩)
        have h69 : ¬ (T i = ni 13 ∧ i + 1 < N ∧ T (i + 1) = ni 10) → sw (sm_fx C 49 69 [.ref (X + 4), .int (ni N), .int (ni (l + 1)), .int (ni i), .int (T i)] [] (cs X t T0 e D p pl)) Q := by
          intro h2
          refine sw_ge (n49_69 hX) ?_
          simp (disch := omega) only [sw_ite, ni_le, ni_add]
          by_cases h13 : T i = ni 13
          · rw [if_pos h13]; exact h90 (Or.inl h13) h2
          · rw [if_neg h13]
            by_cases h10 : T i = ni 10
            · rw [if_pos h10]; exact h90 (Or.inr (Or.inl h10)) h2
            · rw [if_neg h10]
              by_cases h998 : 998 ≤ l
              · rw [if_neg (by omega)]; exact h90 (Or.inr (Or.inr h998)) h2
              · rw [if_pos (by omega)]
                rw [if_neg h2, if_neg (fun z => z.elim h13 (fun y => y.elim h10 h998))] at hok her
                exact ih (i + 1) (l + 1) (by omega) (by omega) (by omega) hok her
        refine sw_ge (n49_15 hX) ?_
        simp (disch := omega) only [sw_ite, ni_le, sw_bi, c42b h hiN, sw_some, sb_i, ni_add, c42t h (show i + 1 < 2147483648 by omega)]
        rw [if_neg (by omega)]
        by_cases h13 : T i = ni 13
        · rw [if_pos h13]
          by_cases h2 : i + 1 < N ∧ T (i + 1) = ni 10
          · rw [if_pos (by rw [if_pos h2.1]; exact h2.2)]
            rw [if_pos ⟨h13, h2⟩] at hok her
            exact ih (i + 2) 0 (by omega) (by omega) (by omega) hok her
          · rw [if_neg (fun z => h2 (by
              by_cases hlt : i + 1 < N
              · rw [if_pos hlt] at z; exact ⟨hlt, z⟩
              · rw [if_neg hlt, k_ne_ni (by omega)] at z; exact z.elim))]
            exact h69 (fun z => h2 z.2)
        · rw [if_neg h13]
          exact h69 (fun z => h13 z.1)
      · rw [md_lns, if_neg hiN] at hok
        refine sw_ge (n49_15 hX) ?_
        simp (disch := omega) only [sw_ite, ni_le, sw_some]
        rw [if_pos (by omega)]
        exact hok rfl
  refine sw_ge (f49 hX) ?_
  rw [cs_N h]
  exact loop N 0 0 (by omega) (by omega) (by omega) hok her
theorem c52 {c : Int32} : sm_fe C 52 [.int c] D = some (.inl (some (.int (md_b (md_in c 33 126 && !decide (c = ni 58))))), D) := by
  apply sw_eq
  refine sw_ge f52 ?_
  simp only [sw_ite, sw_some, nar_b0, nar_b1]
  by_cases h1 : c ≤ ni 32
  · rw [if_pos h1, md_in_lt (by
      rw [Int32.le_iff_toInt_le, ni_toInt (by omega)] at h1
      rw [Int32.lt_iff_toInt_lt, ni_toInt (by omega)]
      omega)]; rfl
  · rw [if_neg h1]
    by_cases h2 : ni 127 ≤ c
    · rw [if_pos h2, md_in_gt (by
        rw [Int32.le_iff_toInt_le, ni_toInt (by omega)] at h2
        rw [Int32.lt_iff_toInt_lt, ni_toInt (by omega)]
        omega)]; rfl
    · rw [if_neg h2, md_in_t (a := 33) (b := 126) (by
        rw [Int32.le_iff_toInt_le, ni_toInt (by omega)] at h1
        rw [Int32.lt_iff_toInt_lt, ni_toInt (by omega)]
        omega) (by
        rw [Int32.le_iff_toInt_le, ni_toInt (by omega)] at h2
        rw [Int32.lt_iff_toInt_lt, ni_toInt (by omega)]
        omega)]
      by_cases h3 : c = ni 58
      · rw [if_pos h3, decide_eq_true h3]; rfl
      · rw [if_neg h3, decide_eq_false h3]; rfl
theorem md_nm_ok {b a q c : Nat} (hq : a ≤ q) (h : md_nm T b a q = .ok c) : q ≤ c ∧ a < c ∧ c < b ∧ T c = ni 58 ∧ c ≤ a + 40 ∨ a + 40 < q := by
  rw [md_nm] at h
  split at h
  · next g =>
    split at h
    · next g1 =>
      split at h
      · cases h
      · next g2 =>
        cases h
        rcases Nat.lt_or_ge (a + 40) q with z | z
        · exact Or.inr z
        · exact Or.inl ⟨Nat.le_refl _, by omega, g, g1, z⟩
    · split at h
      · cases h
      · next g2 =>
        rcases md_nm_ok (by omega) h with z | z
        · exact Or.inl ⟨by omega, z.2.1, z.2.2.1, z.2.2.2.1, z.2.2.2.2⟩
        · right
          have : q ≠ a + 40 := fun w => g2 (Or.inr w)
          omega
  · cases h
termination_by b - q
theorem c51 (h : cH C X t T N D) {pl : List Int32} {a b : Nat} (hb : b ≤ N) (hab : a < b) (hok : ∀ c, md_nm T b a a = .ok c → Q (.inl (some (.int (ni c)))) (cs X t T0 e D p pl)) (her : ∀ x z D', md_nm T b a a = .error x → cT X t D x z D' → Q (.inr z) D') :
    sw (sm_fe C 51 [.ref (X + 4), .int (ni a), .int (ni b)] (cs X t T0 e D p pl)) Q := by
  have hX := h.1
  have hN := h.2.2.2.1
  have loop : ∀ (m q : Nat), b - q ≤ m → a ≤ q → q ≤ b → q ≤ a + 40 → (∀ c, md_nm T b a q = .ok c → Q (.inl (some (.int (ni c)))) (cs X t T0 e D p pl)) → (∀ x z D', md_nm T b a q = .error x → cT X t D x z D' → Q (.inr z) D') → sw (sm_fx C 51 2 [.ref (X + 4), .int (ni a), .int (ni b), .int (ni q)] [] (cs X t T0 e D p pl)) Q := by
    intro m
    induction m with
    | zero =>
      intro q hm h1 h2 h3 hok her
      have hqb : q = b := by omega
      subst hqb
      rw [md_nm, if_neg (by omega)] at her
      have h38 : sw (sm_fx C 51 38 [.ref (X + 4), .int (ni a), .int (ni q), .int (ni q)] [] (cs X t T0 e D p pl)) Q := by
        refine sw_ge (n51_38 hX) ?_
        simp (disch := omega) only [sw_ite, ni_le]
        rw [if_pos (Nat.le_refl _)]
        refine sw_ge (n51_64 hX) ?_
        simp only [sw_bv]
        exact c29 hX cF_cs (fun z D' hT => ⟨hT.tw, her q z D' rfl hT⟩)
      refine sw_ge (n51_2 hX) ?_
      simp (disch := omega) only [sw_ite, ni_le]
      rw [if_pos (Nat.le_refl _)]
      exact h38
    | succ m ih =>
      intro q hm h1 h2 h3 hok her
      by_cases hqb : q < b
      · have h64 : (∀ z D', cT X t D q z D' → Q (.inr z) D') → sw (sm_fx C 51 64 [.ref (X + 4), sm_junk, sm_junk, .int (ni q)] [] (cs X t T0 e D p pl)) Q := by
          intro hh
          refine sw_ge (n51_64 hX) ?_
          simp only [sw_bv]
          exact c29 hX cF_cs (fun z D' hT => ⟨hT.tw, hh z D' hT⟩)
        have h38 : ¬ (T q ≠ ni 58 ∧ md_in (T q) 33 126 = true ∧ q ≠ a + 40) → sw (sm_fx C 51 38 [.ref (X + 4), .int (ni a), .int (ni b), .int (ni q)] [] (cs X t T0 e D p pl)) Q := by
          intro hno
          rw [md_nm, if_pos hqb] at hok her
          refine sw_ge (n51_38 hX) ?_
          simp (disch := omega) only [sw_ite, ni_le, ni_inj, sw_bi, c42b h (show q < N by omega), sw_some, sb_i]
          rw [if_neg (by omega)]
          by_cases h58 : T q = ni 58
          · rw [if_pos h58] at hok her
            by_cases hqa : q = a
            · rw [if_pos hqa]
              rw [if_pos hqa] at her
              exact h64 (fun z D' hT => her q z D' rfl hT)
            · rw [if_neg hqa, if_pos h58]
              rw [if_neg hqa] at hok
              exact hok q rfl
          · have hor : md_in (T q) 33 126 = false ∨ q = a + 40 := by
              by_cases hc : md_in (T q) 33 126 = true
              · right
                by_cases hq : q = a + 40
                · exact hq
                · exact absurd ⟨h58, hc, hq⟩ hno
              · left
                cases hx : md_in (T q) 33 126
                · rfl
                · exact absurd hx hc
            rw [if_neg h58, if_pos hor] at her
            rw [if_neg h58]
            split <;> exact h64 (fun z D' hT => her q z D' rfl hT)
        refine sw_ge (n51_2 hX) ?_
        simp (disch := omega) only [sw_ite, ni_le, ni_sub h1, sw_bi, c42b h (show q < N by omega), sw_some, sb_i, c52, md_b_0, ni_add]
        rw [if_neg (by omega)]
        by_cases h40 : q = a + 40
        · rw [if_pos (by omega)]; exact h38 (fun z => z.2.2 h40)
        · rw [if_neg (by omega)]
          by_cases hc : md_in (T q) 33 126 = true ∧ T q ≠ ni 58
          · rw [hc.1, decide_eq_false hc.2, if_neg (fun z => nomatch z)]
            rw [md_nm, if_pos hqb, if_neg hc.2, if_neg (fun z => z.elim (fun y => by rw [hc.1] at y; cases y) h40)] at hok her
            exact ih (q + 1) (by omega) (by omega) (by omega) (by omega) hok her
          · have hf : (md_in (T q) 33 126 && !decide (T q = ni 58)) = false := by
              by_cases h1 : md_in (T q) 33 126 = true
              · have h58 : T q = ni 58 := by
                  by_cases z : T q = ni 58
                  · exact z
                  · exact absurd ⟨h1, z⟩ hc
                rw [decide_eq_true h58, Bool.not_true, Bool.and_false]
              · rw [Bool.not_eq_true] at h1
                rw [h1, Bool.false_and]
            rw [if_pos hf]
            exact h38 (fun z => hc ⟨z.2.1, z.1⟩)
      · have hqb2 : q = b := by omega
        subst hqb2
        rw [md_nm, if_neg (by omega)] at her
        refine sw_ge (n51_2 hX) ?_
        simp (disch := omega) only [sw_ite, ni_le]
        rw [if_pos (Nat.le_refl _)]
        refine sw_ge (n51_38 hX) ?_
        simp (disch := omega) only [sw_ite, ni_le]
        rw [if_pos (Nat.le_refl _)]
        refine sw_ge (n51_64 hX) ?_
        simp only [sw_bv]
        exact c29 hX cF_cs (fun z D' hT => ⟨hT.tw, her q z D' rfl hT⟩)
  refine sw_ge (f51 hX) ?_
  exact loop _ a (Nat.le_refl _) (Nat.le_refl _) (by omega) (by omega) hok her
/-- a word of the tape's -/
theorem c43b (h : cH C X t T N D) {pl : List Int32} {s : Nat} {w : String} (hs : st C s (md_w w)) {a n : Nat} (hn : a + n ≤ N) : sm_fe C 43 [.ref (X + 2), .int (ni a), .int (ni n), .ref s] (cs X t T0 e D p pl) = some (.inl (some (.int (md_b (md_is T a n w)))), cs X t T0 e D p pl) := by
  have hr : sm_row C (X + 2) 8000 := sm_row_of h.1 2 rfl rfl rfl
  have hN := h.2.2.2.1
  exact c43g hr hs (P := T) (b := N) (fun i hi => c42b h hi) (fun _ => hn) (by omega) (by omega)
theorem c54 (h : cH C X t T N D) {pl : List Int32} {i a n : Nat} (hn : a + n ≤ N) : sm_fe C 54 [.ref (X + 4), .int (ni a), .int (ni n), .int (md_b (decide (i = 0)))] (cs X t T0 e D p pl) = some (.inl (some (.int (ni (md_kd T i a n)))), cs X t T0 e D p pl) := by
  have hx := h.2.2.1
  apply sw_eq
  refine sw_ge (f54 h.1) ?_
  simp only [sw_bi, c43b h (st_tx hx 12 (s := "content-type") rfl rfl (by decide) (by decide)) hn, c43b h (st_tx hx 13 (s := "content-transfer-encoding") rfl rfl (by decide) (by decide)) hn, c43b h (st_tx hx 14 (s := "subject") rfl rfl (by decide) (by decide)) hn, c43b h (st_tx hx 15 (s := "date") rfl rfl (by decide) (by decide)) hn, c43b h (st_tx hx 16 (s := "from") rfl rfl (by decide) (by decide)) hn, c43b h (st_tx hx 17 (s := "to") rfl rfl (by decide) (by decide)) hn, sw_some, sb_i, sw_ite, md_b_0]
  unfold md_kd
  generalize md_is T a n "content-type" = b1
  generalize md_is T a n "content-transfer-encoding" = b2
  generalize md_is T a n "subject" = b3
  generalize md_is T a n "date" = b4
  generalize md_is T a n "from" = b5
  generalize md_is T a n "to" = b6
  by_cases hi : i = 0
  · subst hi
    cases b1 <;> cases b2 <;> cases b3 <;> cases b4 <;> cases b5 <;> cases b6 <;> rfl
  · have hi2 : 0 < i := by omega
    rw [decide_eq_false hi, if_pos hi2]
    cases b1 <;> cases b2 <;> rfl
theorem md_kd_le {i a n : Nat} : md_kd T i a n ≤ 6 := by
  unfold md_kd
  repeat' split
  all_goals omega
end CRD
