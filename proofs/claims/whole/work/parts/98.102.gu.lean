/-! ===== the reference: lines and fields ===== -/
section RGV
variable {C : sm_K} {X N : Nat} {T : Nat → Int32} {D E : sm_D} {Q : (Option Value ⊕ Nat) → sm_D → Prop}
theorem rH.dI (h : rH C X T N D) {c j : Nat} {v : Int32} (hc : c ≠ X + 51) : rH C X T N (sm_dI D c j v) := ⟨h.1, h.2.1, h.2.2.1, fun i hi => by rw [dI_ne (fun z => hc z.1.symm)]; exact h.2.2.2.1 i hi, h.2.2.2.2⟩
theorem rH.fr {S : Nat → Nat → Prop} (h : rH C X T N D) (g : fr S D E) (hS : ∀ c j, S c j → c ≠ X + 51) : rH C X T N E := ⟨h.1, h.2.1, h.2.2.1, fun i hi => by rw [g.2 _ _ (fun z => hS _ _ z rfl)]; exact h.2.2.2.1 i hi, h.2.2.2.2⟩
theorem r160 (h : rH C X T N D) (h8 : D.1 (X + 49) 8 = sm_k (-1)) (h4 : D.1 (X + 49) 4 = ni N) (hok : md_lns T N 0 0 = none → Q (.inl none) D) (her : ∀ f, md_lns T N 0 0 = some f → f < N → Q (.inl none) (sm_dI D (X + 49) 8 (ni f))) : sw (sm_fe C 160 [.ref (X + 49)] D) Q := by
  have hX := h.1
  have hN := h.2.2.1
  have done : ∀ {f : Nat} {v1 v2 : Int32}, f < N → Q (.inl none) (sm_dI D (X + 49) 8 (ni f)) → sw (sm_fx C 160 4 [.ref (X + 49), .int v1, .int v2, sm_junk, sm_junk, sm_junk] [] (sm_dI D (X + 49) 8 (ni f))) Q := by
    intro f v1 v2 hf hQ
    refine sw_ge (n160_4 hX) ?_
    have e8 : ((sm_dI D (X + 49) 8 (ni f)).1 (X + 49) 8 = sm_k (-1)) = False := by rw [dI_eq]; exact ni_ne_k (by omega)
    simp only [sw_ite, sw_some]
    split
    · exact hQ
    · rw [if_neg (cast e8)]
      exact hQ
  have n112 : ∀ {f : Nat} {v1 : Int32}, f < N → Q (.inl none) (sm_dI D (X + 49) 8 (ni f)) → sw (sm_fx C 160 112 [.ref (X + 49), .int v1, .int (ni f), sm_junk, sm_junk, sm_junk] [] D) Q := by
    intro f v1 hf hQ
    refine sw_ge (n160_112 hX) ?_
    simp only [sw_bv, r162 hX h8, sw_some, sb_v]
    exact done hf hQ
  have loop : ∀ (m i l : Nat), N - i ≤ m → i ≤ N → l ≤ 998 → (i = 0 ∨ T (i - 1) ≠ ni 13) → (md_lns T N i l = none → Q (.inl none) D) → (∀ f, md_lns T N i l = some f → f < N → Q (.inl none) (sm_dI D (X + 49) 8 (ni f))) → sw (sm_fx C 160 4 [.ref (X + 49), .int (ni l), .int (ni i), sm_junk, sm_junk, sm_junk] [] D) Q := by
    intro m
    induction m with
    | zero =>
      intro i l hm hi hl hp hok her
      rw [md_lns, if_neg (by omega)] at hok
      refine sw_ge (n160_4 hX) ?_
      simp (disch := omega) only [sw_ite, h4, ni_le, sw_some]
      rw [if_pos (by omega)]
      exact hok rfl
    | succ m ih =>
      intro i l hm hi hl hp hok her
      by_cases hiN : i < N
      · rw [md_lns, if_pos hiN] at hok her
        -- with no pair
        have n59 : ¬ (T i = ni 13 ∧ i + 1 < N ∧ T (i + 1) = ni 10) → sw (sm_fx C 160 59 [.ref (X + 49), .int (ni l), .int (ni i), .int (T i), sm_junk, sm_junk] [.int (ni 0)] D) Q := by
          intro hnp
          rw [if_neg hnp] at hok her
          have n88 : sw (sm_fx C 160 88 [.ref (X + 49), .int (ni l), .int (ni i), .int (T i), .int (ni 0), sm_junk] [.int (ni 0)] D) Q := by
            refine sw_ge (n160_88 hX) ?_
            simp only [sw_ite, if_true]
            by_cases h13 : T i = ni 13
            · rw [if_pos h13]
              rw [if_pos (Or.inl h13)] at her
              exact n112 hiN (her i rfl hiN)
            · rw [if_neg h13]
              refine sw_ge (n160_101 hX) ?_
              simp only [sw_ite, if_true]
              by_cases h10 : T i = ni 10
              · rw [if_pos h10]
                rw [if_pos (Or.inr (Or.inl h10))] at her
                exact n112 hiN (her i rfl hiN)
              · rw [if_neg h10]
                refine sw_ge (n160_120 hX) ?_
                simp (disch := omega) only [sw_ite, if_true, ni_add, ni_inj, sw_bv, r162 hX h8, sw_some, sb_v]
                by_cases hl2 : 998 ≤ l
                · rw [if_pos (by omega)]
                  rw [if_pos (Or.inr (Or.inr hl2))] at her
                  exact done hiN (her i rfl hiN)
                · rw [if_neg (by omega)]
                  rw [if_neg (fun g => g.elim h13 (fun g => g.elim h10 hl2))] at hok her
                  exact ih (i + 1) (l + 1) (by omega) (by omega) (by omega) (Or.inr (by rw [Nat.add_sub_cancel]; exact h13)) hok her
          refine sw_ge (n160_59 hX) ?_
          have n87 : sw (sm_fx C 160 87 [.ref (X + 49), .int (ni l), .int (ni i), .int (T i), .int (ni 0), sm_junk] [] D) Q := by
            refine sw_ge (n160_87 hX) ?_
            exact n88
          simp (disch := omega) only [sw_ite, ni_le, sw_bi]
          by_cases h10 : T i = ni 10
          · rw [if_pos h10]
            by_cases hi0 : i ≤ 0
            · rw [if_pos hi0]; exact n87
            · rw [if_neg hi0, ni_sub (by omega), h.at (by omega), sw_some]
              simp only [sb_i, sw_ite]
              rw [if_neg (hp.elim (fun g => by omega) id)]
              exact n87
          · rw [if_neg h10]; exact n87
        have n58 : ¬ (T i = ni 13 ∧ i + 1 < N ∧ T (i + 1) = ni 10) → sw (sm_fx C 160 58 [.ref (X + 49), .int (ni l), .int (ni i), .int (T i), sm_junk, sm_junk] [] D) Q := by
          intro hnp
          refine sw_ge (n160_58 hX) ?_
          exact n59 hnp
        refine sw_ge (n160_4 hX) ?_
        simp (disch := omega) only [sw_ite, h4, ni_le, h8, if_true, sw_bi, h.at hiN, sw_some, sb_i, ni_add]
        rw [if_neg (by omega)]
        by_cases h13 : T i = ni 13
        · rw [if_pos h13]
          by_cases hi1 : i + 1 < N
          · rw [if_neg (by omega), h.at hi1, sw_some]
            simp only [sb_i, sw_ite]
            by_cases h10 : T (i + 1) = ni 10
            · rw [if_pos h10]
              rw [if_pos ⟨h13, hi1, h10⟩] at hok her
              have hne : ¬ T i = ni 10 := by rw [h13]; decide
              have hne2 : ¬ T (i + 1) = ni 13 := by rw [h10]; decide
              -- the first of a pair
              refine sw_ge (n160_59 hX) ?_
              simp only [sw_ite]
              rw [if_neg hne]
              refine sw_ge (n160_87 hX) ?_
              refine sw_ge (n160_88 hX) ?_
              simp only [sw_ite, ni_10, if_false]
              rw [if_pos h13]
              refine sw_ge (n160_101 hX) ?_
              simp only [sw_ite]
              rw [if_neg hne]
              refine sw_ge (n160_120 hX) ?_
              simp only [sw_ite, if_true, ni_10, if_false, ni_add]
              -- the second
              refine sw_ge (n160_4 hX) ?_
              simp (disch := omega) only [sw_ite, h4, ni_le, h8, if_true, sw_bi, h.at hi1, sw_some, sb_i]
              rw [if_neg (by omega), if_neg hne2]
              refine sw_ge (n160_58 hX) ?_
              refine sw_ge (n160_59 hX) ?_
              simp (disch := omega) only [sw_ite, ni_le, sw_bi, ni_sub (show 1 ≤ i + 1 by omega), Nat.add_sub_cancel, h.at hiN, sw_some, sb_i]
              rw [if_pos h10, if_neg (by omega), if_pos h13]
              refine sw_ge (n160_88 hX) ?_
              simp only [sw_ite]
              rw [if_neg hne2]
              refine sw_ge (n160_101 hX) ?_
              simp only [sw_ite, ni_10, if_false]
              rw [if_pos h10]
              refine sw_ge (n160_120 hX) ?_
              simp only [sw_ite, ni_10, if_false, ni_add]
              exact ih (i + 2) 0 (by omega) (by omega) (by omega) (Or.inr (by rw [show i + 2 - 1 = i + 1 from by omega]; exact hne2)) hok her
            · rw [if_neg h10]
              exact n58 (fun g => h10 g.2.2)
          · rw [if_pos (by omega)]
            exact n58 (fun g => hi1 g.2.1)
        · rw [if_neg h13]
          exact n58 (fun g => h13 g.1)
      · rw [md_lns, if_neg hiN] at hok
        refine sw_ge (n160_4 hX) ?_
        simp (disch := omega) only [sw_ite, h4, ni_le, sw_some]
        rw [if_pos (by omega)]
        exact hok rfl
  refine sw_ge (f160 hX) ?_
  exact loop N 0 0 (by omega) (by omega) (by omega) (Or.inl rfl) hok her
theorem r167 (h : rH C X T N E) {s c n : Nat} {w : List Int32} (hs : st C s w) (hc : c + n ≤ N) : sm_fe C 167 [.ref (X + 49), .int (ni c), .int (ni n), .ref s] E = some (.inl (some (.int (md_b (decide (n = w.length) && md_at T c w)))), E) := by
  have hX := h.1
  have hN := h.2.2.1
  obtain ⟨u, h1, -, -, h4, -⟩ := id hs
  have loop : ∀ (m k : Nat) (fl : Bool), k + m = n → n = w.length → sm_fx C 167 18 [.ref (X + 49), .int (ni c), .int (ni n), .ref s, .int (md_b fl), .int (ni k)] [] E = some (.inl (some (.int (md_b (fl && md_at T (c + k) (w.drop k))))), E) := by
    intro m
    induction m with
    | zero =>
      intro k fl hk hw
      apply sw_eq
      refine sw_ge (n167_18 hX h1) ?_
      simp (disch := omega) only [sw_ite, sw_some, ni_le]
      rw [if_pos (by omega), List.drop_of_length_le (by omega), nar_bb, md_at, Bool.and_true]
    | succ m ih =>
      intro k fl hk hw
      have hk2 : k < w.length := by omega
      apply sw_eq
      refine sw_ge (n167_18 hX h1) ?_
      simp (disch := omega) only [sw_ite, sw_some, ni_le, ni_add, sw_bi, h.at (show c + k < N by omega), r168, sb_i, s262 hs hk2]
      rw [if_neg (by omega)]
      cases fl
      · rw [if_pos (show md_b false = ni 0 from rfl), nar_bb, Bool.false_and]
      · rw [if_neg (by decide)]
        have e1 := ih (k + 1) true (by omega) hw
        have e0 := ih (k + 1) false (by omega) hw
        rw [show md_b true = ni 1 from rfl] at e1
        rw [show md_b false = ni 0 from rfl] at e0
        simp only [e1, e0, sw_some]
        rw [List.drop_eq_getElem_cons hk2, md_at_cons, Bool.true_and, ← md_nth_get hk2, Nat.add_assoc]
        split
        · next g => rw [decide_eq_true g, Bool.true_and, Bool.true_and]
        · next g => rw [decide_eq_false g, Bool.false_and]; rfl
  apply sw_eq
  refine sw_ge (f167 hX h1) ?_
  simp (disch := omega) only [sw_bi, s260 h1, sw_some, sb_i, sw_ite, ni_inj]
  by_cases hw : n = w.length
  · rw [if_pos hw]
    refine sw_ge (n167_13 hX h1) ?_
    have := loop n 0 true (by omega) hw
    rw [show md_b true = ni 1 from rfl] at this
    simp only [Nat.add_zero] at this
    rw [this, sw_some, decide_eq_true hw, List.drop_zero]
  · rw [if_neg hw]
    refine sw_ge (n167_13 hX h1) ?_
    refine sw_ge (n167_18 hX h1) ?_
    simp (disch := omega) only [sw_ite, sw_some, ni_le, if_true]
    rw [decide_eq_false hw, Bool.false_and, show ni 0 = md_b false from rfl, nar_bb]
    split <;> trivial
theorem r166 (h : rH C X T N E) {i a n : Nat} (hi : i < 2147483648) (hn : a + n ≤ N) : sm_fe C 166 [.ref (X + 49), .int (ni i), .int (ni a), .int (ni n)] E = some (.inl (some (.int (ni (md_kd T i a n)))), E) := by
  have hx := h.2.1
  have tt : ∀ {s : Nat} {w : String}, st C s (md_w w) → sm_fe C 167 [.ref (X + 49), .int (ni a), .int (ni n), .ref s] E = some (.inl (some (.int (md_b (md_is T a n w)))), E) := fun hs => by rw [r167 h hs hn]; rfl
  apply sw_eq
  refine sw_ge (f166 h.1) ?_
  simp (disch := omega) only [sw_bi, tt (st_tx hx 44 (s := "content-type") rfl rfl (by decide) (by decide)), tt (st_tx hx 45 (s := "content-transfer-encoding") rfl rfl (by decide) (by decide)), tt (st_tx hx 46 (s := "subject") rfl rfl (by decide) (by decide)), tt (st_tx hx 47 (s := "date") rfl rfl (by decide) (by decide)), tt (st_tx hx 48 (s := "from") rfl rfl (by decide) (by decide)), tt (st_tx hx 49 (s := "to") rfl rfl (by decide) (by decide)), sw_some, sb_i, sw_ite, md_b_0, ni_le]
  unfold md_kd
  cases md_is T a n "content-type"
  · rw [if_pos rfl]
    cases md_is T a n "content-transfer-encoding"
    · rw [if_pos rfl]
      by_cases hi0 : i ≤ 0
      · rw [if_pos hi0]
        simp only [Bool.false_eq_true, if_false, if_neg (show ¬ 0 < i by omega)]
        cases md_is T a n "subject" <;> cases md_is T a n "date" <;> cases md_is T a n "from" <;> cases md_is T a n "to" <;> rfl
      · rw [if_neg hi0]
        simp only [Bool.false_eq_true, if_false, if_pos (show 0 < i by omega)]
    · rfl
  · rfl
end RGV
