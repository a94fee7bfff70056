/-! ===== the class's parse of texts ===== -/
theorem md_b_0 {b : Bool} : (md_b b = ni 0) = (b = false) := by cases b <;> decide
theorem md_b_1 {b : Bool} : (md_b b = ni 1) = (b = true) := by cases b <;> decide
theorem ni_10 : (ni 1 = ni 0) = False := by decide
section CPS
variable {C : sm_K} {X t N e : Nat} {T : Nat → Int32} {D : sm_D}
theorem c3 {c : Int32} : sm_fe C 3 [.int c] D = some (.inl (some (.int (md_b (md_bl c)))), D) := by
  apply sw_eq
  refine sw_ge f3 ?_
  simp only [sw_ite, sw_some, nar_b0, nar_b1, md_bl]
  by_cases h1 : c = ni 32
  · rw [if_pos h1, decide_eq_true h1]; rfl
  · rw [if_neg h1, decide_eq_false h1]
    by_cases h2 : c = ni 9
    · rw [if_pos h2, decide_eq_true h2]; rfl
    · rw [if_neg h2, decide_eq_false h2]; rfl
theorem md_in_lt {c : Int32} {a b : Nat} (h : c < ni a) : md_in c a b = false := by
  unfold md_in; rw [decide_eq_false (Int32.not_le.mpr h)]; rfl
theorem md_in_gt {c : Int32} {a b : Nat} (h : ni b < c) : md_in c a b = false := by
  unfold md_in; rw [decide_eq_false (Int32.not_le.mpr h : ¬ c ≤ ni b), Bool.and_false]
theorem md_in_t {c : Int32} {a b : Nat} (h : ¬ c < ni a) (h2 : ¬ ni b < c) : md_in c a b = true := by
  unfold md_in; rw [decide_eq_true (Int32.not_lt.mp h), decide_eq_true (Int32.not_lt.mp h2)]; rfl
theorem c6 {c : Int32} : sm_fe C 6 [.int c] D = some (.inl (some (.int (md_b (md_dg c)))), D) := by
  apply sw_eq
  refine sw_ge f6 ?_
  simp only [sw_ite, sw_some, nar_b0, nar_b1, md_dg]
  by_cases h1 : c < ni 48
  · rw [if_pos h1, md_in_lt h1]; rfl
  · rw [if_neg h1]
    by_cases h2 : ni 57 < c
    · rw [if_pos h2, md_in_gt h2]; rfl
    · rw [if_neg h2, md_in_t h1 h2]; rfl
theorem c2 {c : Int32} : sm_fe C 2 [.int c] D = some (.inl (some (.int (md_sm c))), D) := by
  apply sw_eq
  refine sw_ge f2 ?_
  simp only [sw_ite, sw_some, md_sm]
  by_cases h1 : c < ni 65
  · rw [if_pos h1, md_in_lt h1]; rfl
  · rw [if_neg h1]
    by_cases h2 : ni 90 < c
    · rw [if_pos h2, md_in_gt h2]; rfl
    · rw [if_neg h2, md_in_t h1 h2]; rfl
theorem c5 {c : Int32} : sm_fe C 5 [.int c] D = some (.inl (some (.int (md_b (md_lt c)))), D) := by
  apply sw_eq
  have h12 : md_in c 97 122 = false → sw (sm_fx C 5 12 [.int c] [] D) (fun w E => (w, E) = (.inl (some (.int (md_b (md_lt c)))), D)) := by
    intro h
    refine sw_ge n5_12 ?_
    simp only [sw_ite, sw_some, nar_b0, nar_b1, md_lt, h]
    by_cases h1 : c < ni 65
    · rw [if_pos h1, md_in_lt h1]; rfl
    · rw [if_neg h1]
      by_cases h2 : ni 90 < c
      · rw [if_pos h2, md_in_gt h2]; rfl
      · rw [if_neg h2, md_in_t h1 h2]; rfl
  refine sw_ge f5 ?_
  simp only [sw_ite, sw_some, nar_b1]
  by_cases h1 : c < ni 97
  · rw [if_pos h1]; exact h12 (md_in_lt h1)
  · rw [if_neg h1]
    by_cases h2 : c ≤ ni 122
    · rw [if_pos h2]
      unfold md_lt
      rw [md_in_t h1 (Int32.not_lt.mpr h2)]; rfl
    · rw [if_neg h2]; exact h12 (md_in_gt (Int32.not_le.mp h2))
/-- the space between words -/
theorem c32_4 (h : cW C X t T N e D) {pl : List Int32} : ∀ (m d p k : Nat), e - p ≤ m → k + (e - p) ≤ 8000 → d ≤ 10 → md_ok T e p → ∀ {Q : (Option Value ⊕ Nat) → sm_D → Prop},
    (∀ r, md_space T e d p = .ok r → Q (.inl none) (cs X t T e D r pl)) → (∀ f z D', md_space T e d p = .error f → cT X t D f z D' → Q (.inr z) D') →
    sw (sm_fx C 32 4 [.ref (X + 1), .int (ni d), .int (ni k)] [] (cs X t T e D p pl)) Q := by
  have hX := h.1.1
  intro m
  induction m with
  | zero =>
    intro d p k hm hk hd hp Q hok her
    have hpe : ¬ p < e := by omega
    have hcu := md_cu_ge (T := T) hpe
    rw [md_space, dif_neg hpe] at hok her
    refine sw_ge (n32_4 hX) ?_
    simp (disch := omega) only [sw_ite, sw_some, ni_lt, ni_inj, cs_4, hcu, sw_bi, c3, sb_i, k_ne_ni, if_false]
    rw [if_neg (by omega)]
    by_cases hd0 : d = 0
    · subst hd0
      rw [if_pos rfl, if_pos (by decide)]
      exact hok p rfl
    · rw [if_neg hd0]
      rw [if_neg hd0] at her
      refine sw_ge (n32_35 hX) ?_
      simp only [sw_ite, cs_4, hcu, if_true]
      refine sw_ge (n32_58 hX) ?_
      simp only [sw_bv, cs_2]
      exact c29 hX cF_cs (fun z D' ht => ⟨ht.tw, her p z D' rfl ht⟩)
  | succ m ih =>
    intro d p k hm hk hd hp Q hok her
    by_cases hpe : p < e
    · have hcu := md_cu_lt (T := T) hpe
      have hlt := md_nx_lt (T := T) hpe
      have h109 : ∀ d' q k', md_ok T e q → q < e → p ≤ q → d' ≤ 10 → k' = k → (∀ r, md_space T e d' (md_nx T e q) = .ok r → Q (.inl none) (cs X t T e D r pl)) → (∀ f z D', md_space T e d' (md_nx T e q) = .error f → cT X t D f z D' → Q (.inr z) D') → sw (sm_fx C 32 109 [.ref (X + 1), .int (ni d'), .int (ni k')] [] (cs X t T e D q pl)) Q := by
        intro d' q k' hq hqe hpq hd' hk' hok' her'
        subst hk'
        have hlt2 := md_nx_lt (T := T) hqe
        refine sw_ge (n32_109 hX) ?_
        simp only [sw_bv, c31 h hq, sw_some, sb_v, ni_add]
        exact ih d' _ (k' + 1) (by omega) (by omega) hd' hq.nx hok' her'
      have hnn : (T p = sm_k (-1)) = False := by
        obtain ⟨n, hn, h1⟩ := h.byte hpe
        rw [h1, ni_ne_k (by omega)]
      have h35 : ¬ (d = 0 ∧ T p ≠ ni 40 ∧ md_bl (T p) = false) → sw (sm_fx C 32 35 [.ref (X + 1), .int (ni d), .int (ni k)] [] (cs X t T e D p pl)) Q := by
        intro hnot
        rw [md_space, dif_pos hpe] at hok her
        refine sw_ge (n32_35 hX) ?_
        simp (disch := omega) only [sw_ite, cs_4, hcu, hnn, if_false, ni_inj]
        by_cases h40 : T p = ni 40
        · rw [if_pos h40]
          rw [if_pos h40] at hok her
          by_cases hd10 : d = 10
          · rw [if_pos hd10]
            rw [if_pos hd10] at her
            refine sw_ge (n32_58 hX) ?_
            simp only [sw_bv, cs_2]
            exact c29 hX cF_cs (fun z D' ht => ⟨ht.tw, her p z D' rfl ht⟩)
          · rw [if_neg hd10]
            rw [if_neg hd10] at hok her
            refine sw_ge (n32_66 hX) ?_
            simp only [sw_ite, cs_4, hcu, h40, if_true, ni_add]
            exact h109 (d + 1) p k hp hpe (Nat.le_refl _) (by omega) rfl hok her
        · rw [if_neg h40]
          rw [if_neg h40] at hok her
          refine sw_ge (n32_66 hX) ?_
          simp only [sw_ite, cs_4, hcu]
          rw [if_neg h40]
          by_cases hd0 : d = 0
          · have hbl : md_bl (T p) = true := by
              cases hb : md_bl (T p)
              · exact absurd ⟨hd0, h40, hb⟩ hnot
              · rfl
            rw [if_pos hd0, if_pos hbl] at hok her
            have h41 : T p ≠ ni 41 := fun z => by rw [z] at hbl; revert hbl; decide
            have h92 : T p ≠ ni 92 := fun z => by rw [z] at hbl; revert hbl; decide
            rw [if_neg h41, if_neg h92]
            subst hd0
            exact h109 0 p k hp hpe (Nat.le_refl _) (by omega) rfl hok her
          · rw [if_neg hd0] at hok her
            by_cases h41 : T p = ni 41
            · rw [if_pos h41]
              rw [if_pos h41] at hok her
              rw [ni_sub (by omega)]
              exact h109 (d - 1) p k hp hpe (Nat.le_refl _) (by omega) rfl hok her
            · rw [if_neg h41]
              rw [if_neg h41] at hok her
              by_cases h92 : T p = ni 92
              · rw [if_pos h92]
                rw [if_pos h92] at hok her
                simp only [sw_bv]
                refine sw_ge (f33 hX) ?_
                simp only [sw_bv, c31 h hp, sw_some, sb_v, sw_ite, cs_4, md_cu_none h, cs_2]
                by_cases hq : md_nx T e p < e
                · rw [if_neg (fun z => z hq)]
                  rw [dif_pos hq] at hok her
                  exact h109 d _ k hp.nx hq (by omega) (by omega) rfl hok her
                · rw [if_pos hq]
                  rw [dif_neg hq] at her
                  exact c29 hX cF_cs (fun z D' ht => ⟨ht.tw, ht.tw, her _ z D' rfl ht⟩)
              · rw [if_neg h92]
                rw [if_neg h92] at hok her
                exact h109 d p k hp hpe (Nat.le_refl _) (by omega) rfl hok her
      refine sw_ge (n32_4 hX) ?_
      simp (disch := omega) only [sw_ite, sw_some, ni_lt, ni_inj, cs_4, hcu, sw_bi, c3, sb_i, md_b_0]
      rw [if_neg (by omega)]
      by_cases hd0 : d = 0
      · rw [if_pos hd0]
        by_cases h40 : T p = ni 40
        · rw [if_pos h40]; exact h35 (fun z => z.2.1 h40)
        · rw [if_neg h40]
          by_cases hb : md_bl (T p) = false
          · rw [if_pos hb]
            rw [md_space, dif_pos hpe, if_neg h40, if_pos hd0, if_neg (by rw [hb]; exact Bool.false_ne_true)] at hok
            exact hok p rfl
          · rw [if_neg hb]; exact h35 (fun z => hb z.2.2)
      · rw [if_neg hd0]; exact h35 (fun z => hd0 z.1)
    · have hcu := md_cu_ge (T := T) hpe
      rw [md_space, dif_neg hpe] at hok her
      refine sw_ge (n32_4 hX) ?_
      simp (disch := omega) only [sw_ite, sw_some, ni_lt, ni_inj, cs_4, hcu, sw_bi, c3, sb_i, k_ne_ni, if_false]
      rw [if_neg (by omega)]
      by_cases hd0 : d = 0
      · subst hd0
        rw [if_pos rfl, if_pos (by decide)]
        exact hok p rfl
      · rw [if_neg hd0]
        rw [if_neg hd0] at her
        refine sw_ge (n32_35 hX) ?_
        simp only [sw_ite, cs_4, hcu, if_true]
        refine sw_ge (n32_58 hX) ?_
        simp only [sw_bv, cs_2]
        exact c29 hX cF_cs (fun z D' ht => ⟨ht.tw, her p z D' rfl ht⟩)
theorem c32 (h : cW C X t T N e D) {pl : List Int32} {p : Nat} (hp : md_ok T e p) {Q : (Option Value ⊕ Nat) → sm_D → Prop}
    (hok : ∀ r, md_space T e 0 p = .ok r → Q (.inl none) (cs X t T e D r pl)) (her : ∀ f z D', md_space T e 0 p = .error f → cT X t D f z D' → Q (.inr z) D') :
    sw (sm_fe C 32 [.ref (X + 1)] (cs X t T e D p pl)) Q := by
  refine sw_ge (f32 h.1.1) ?_
  have h1 := h.2.1
  have h2 := h.1.2.2.2.1
  exact c32_4 h e 0 p 0 (by omega) (by omega) (by omega) hp hok her
theorem c35 (h : cW C X t T N e D) {pl : List Int32} {p c : Nat} (hc : c < 2147483648) (hp : md_ok T e p) {Q : (Option Value ⊕ Nat) → sm_D → Prop}
    (hok : ∀ r, md_eat T e (ni c) p = .ok r → Q (.inl none) (cs X t T e D r pl)) (her : ∀ f z D', md_eat T e (ni c) p = .error f → cT X t D f z D' → Q (.inr z) D') :
    sw (sm_fe C 35 [.ref (X + 1), .int (ni c)] (cs X t T e D p pl)) Q := by
  have hX := h.1.1
  refine sw_ge (f35 hX) ?_
  simp only [sw_ite, cs_4, md_cu_is hc, sw_bv, cs_2]
  unfold md_eat at hok her
  split
  · next g =>
    rw [if_pos g] at hok
    refine sw_ge (n35_16 hX) ?_
    simp only [sw_bv, c31 h hp, sw_some, sb_v]
    exact hok _ rfl
  · next g =>
    rw [if_neg g] at her
    exact c29 hX cF_cs (fun z D' ht => ⟨ht.tw, her p z D' rfl ht⟩)
theorem c37 (h : cW C X t T N e D) {pl : List Int32} {p : Nat} {Q : (Option Value ⊕ Nat) → sm_D → Prop}
    (hok : md_end e p = .ok () → Q (.inl none) (cs X t T e D p pl)) (her : ∀ f z D', md_end e p = .error f → cT X t D f z D' → Q (.inr z) D') :
    sw (sm_fe C 37 [.ref (X + 1)] (cs X t T e D p pl)) Q := by
  have hX := h.1.1
  refine sw_ge (f37 hX) ?_
  simp only [sw_ite, cs_4, md_cu_none h, sw_bv, cs_2, sw_some]
  unfold md_end at hok her
  split
  · next g =>
    rw [if_neg g] at hok
    exact hok rfl
  · next g =>
    rw [Classical.not_not] at g
    rw [if_pos g] at her
    exact c29 hX cF_cs (fun z D' ht => ⟨ht.tw, her p z D' rfl ht⟩)
end CPS
