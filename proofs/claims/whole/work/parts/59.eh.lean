section CRF
variable {C : sm_K} {X t N e p : Nat} {T T0 : Nat → Int32} {Q : (Option Value ⊕ Nat) → sm_D → Prop}
def LN (T : Nat → Int32) (N : Nat) : Prop := ∀ i, i < N → T i = ni 13 → i + 1 < N ∧ T (i + 1) = ni 10
theorem md_lns_LN {i l : Nat} (h : md_lns T N i l = none) : ∀ j, i ≤ j → j < N → (T j = ni 13 → j + 1 < N ∧ T (j + 1) = ni 10) := by
  intro j hij hj h13
  rw [md_lns, if_pos (by omega)] at h
  split at h
  · next g =>
    rcases Nat.lt_or_ge j (i + 2) with hlt | hge
    · by_cases hji : j = i
      · subst hji; exact g.2
      · have : j = i + 1 := by omega
        subst this
        rw [g.2.2] at h13
        exact absurd h13 (by decide)
    · exact md_lns_LN h j hge hj h13
  · next g =>
    split at h
    · cases h
    · next g2 =>
      by_cases hji : j = i
      · subst hji; exact absurd (Or.inl h13) g2
      · exact md_lns_LN h j (by omega) hj h13
termination_by N - i
theorem md_chs_len {z q : Nat} : (md_chs T z q).length ≤ z - q := by
  rw [md_chs]
  split
  · next g =>
    rw [List.length_cons]
    have := md_nx_lt (T := T) g
    have := md_chs_len (z := z) (q := md_nx T z q)
    omega
  · exact Nat.zero_le _
termination_by z - q
decreasing_by exact md_nx_gt (by assumption)
theorem md_tx_ok {b q z : Nat} (hL : LN T N) (hb : b ≤ N) (h : md_tx T b q = .ok z) : q ≤ z ∧ z < b ∧ T z = ni 13 ∧ ∀ r, q ≤ r → r < z → T r = ni 13 → r + 2 < z ∧ md_bl (T (r + 2)) = true := by
  rw [md_tx] at h
  split at h
  · next g =>
    split at h
    · next g13 =>
      split at h
      · next g2 =>
        obtain ⟨a1, a2, a3, a4⟩ := md_tx_ok hL hb h
        have hne : q + 2 ≠ z := fun w => by
          rw [w] at g2
          rw [a3] at g2
          exact absurd g2.2 (by decide)
        refine ⟨by omega, a2, a3, fun r h1 h2 h3 => ?_⟩
        rcases Nat.lt_or_ge r (q + 2) with hlt | hge
        · by_cases hrq : r = q
          · subst hrq; exact ⟨by omega, g2.2⟩
          · have : r = q + 1 := by omega
            subst this
            rw [(hL q (by omega) g13).2] at h3
            exact absurd h3 (by decide)
        · exact a4 r hge h2 h3
      · cases h
        exact ⟨Nat.le_refl _, g, g13, fun r h1 h2 => by omega⟩
    · next g13 =>
      split at h
      · obtain ⟨a1, a2, a3, a4⟩ := md_tx_ok hL hb h
        refine ⟨by omega, a2, a3, fun r h1 h2 h3 => ?_⟩
        by_cases hrq : r = q
        · subst hrq; exact absurd h3 g13
        · exact a4 r (by omega) h2 h3
      · cases h
  · cases h
termination_by b - q
theorem md_chs_fold {z q : Nat} (h : q < z) (h13 : T q = ni 13) (hb : T (q + 2) ≠ ni 13) : md_chs T z (md_go T z q) = md_chs T z (md_go T z (q + 2)) := by
  unfold md_go
  rw [if_pos ⟨h, h13⟩, if_neg (fun w => hb w.2)]
theorem md_chs_char {z q : Nat} (h : q < z) (h13 : T q ≠ ni 13) : md_chs T z (md_go T z q) = T q :: md_chs T z (md_go T z (q + 1)) := by
  have e1 : md_go T z q = q := by unfold md_go; rw [if_neg (fun w => h13 w.2)]
  rw [e1, md_chs, dif_pos h]
  unfold md_nx
  rw [if_pos h]
theorem c55 {D : sm_D} (h : cH C X t T N D) (hL : LN T N) {f g : Nat → Int32} {F b q : Nat} {pl : List Int32} (hF : D.1 t 12 = ni F) (hF1 : 1 ≤ F) (hF2 : F ≤ 200) (hb : b ≤ N) (hq : q ≤ b) (hpl : pl.length + (b - q) ≤ 16400)
    (hok : ∀ z, md_tx T b q = .ok z → Q (.inl (some (.int (ni z)))) (cs X t T0 e (ts t D (up1 f (2 * (F - 1) + 1) (ni pl.length)) (up1 g (2 * (F - 1) + 1) (ni (md_chs T z (md_go T z q)).length))) p (pl ++ md_chs T z (md_go T z q)))) (her : ∀ x z D', md_tx T b q = .error x → cT X t D x z D' → Q (.inr z) D') :
    sw (sm_fe C 55 [.ref (X + 4), .ref t, .int (ni q), .int (ni b)] (cs X t T0 e (ts t D f g) p pl)) Q := by
  have hX := h.1
  have ht := h.2.1
  have tr := (sm_tree_of hX ht).1
  have hN := h.2.2.2.1
  have loop : ∀ (m q : Nat) (ys : List Int32), b - q ≤ m → q ≤ b → pl.length + ys.length + (b - q) ≤ 16400 → (∀ z, md_tx T b q = .ok z → Q (.inl (some (.int (ni z)))) (cs X t T0 e (ts t D (up1 f (2 * (F - 1) + 1) (ni pl.length)) (up1 g (2 * (F - 1) + 1) (ni (ys ++ md_chs T z (md_go T z q)).length))) p (pl ++ (ys ++ md_chs T z (md_go T z q))))) → (∀ x z D', md_tx T b q = .error x → cT X t D x z D' → Q (.inr z) D') →
      sw (sm_fx C 55 12 [.ref (X + 4), .ref t, sm_junk, .int (ni b), .int (ni pl.length), .int (ni q), sm_junk] [] (cs X t T0 e (ts t D f g) p (pl ++ ys))) Q := by
    intro m
    induction m with
    | zero =>
      intro q ys hm hqb hpl hok her
      have hqe : q = b := by omega
      subst hqe
      rw [md_tx, if_neg (by omega)] at her
      refine sw_ge (n55_12 hX tr) ?_
      simp (disch := omega) only [sw_ite, ni_le]
      rw [if_pos (Nat.le_refl _)]
      refine sw_ge (n55_124 hX tr) ?_
      simp (disch := omega) only [sw_ite, ni_lt, sw_bv]
      rw [if_neg (by omega)]
      exact c29 hX (cF_ts.trans cF_cs) (fun z D' hT => ⟨hT.tw, her q z D' rfl hT⟩)
    | succ m ih =>
      intro q ys hm hqb hpl hok her
      by_cases hlt : q < b
      · have h124 : T q = ni 13 → ¬ (q + 2 < b ∧ md_bl (T (q + 2)) = true) → sw (sm_fx C 55 124 [.ref (X + 4), .ref t, sm_junk, .int (ni b), .int (ni pl.length), .int (ni q), sm_junk] [] (cs X t T0 e (ts t D f g) p (pl ++ ys))) Q := by
          intro h13 hno
          rw [md_tx, if_pos hlt, if_pos h13, if_neg hno] at hok
          refine sw_ge (n55_124 hX tr) ?_
          simp (disch := omega) only [sw_ite, ni_lt]
          rw [if_pos hlt]
          refine sw_ge (n55_138 hX tr) ?_
          have e12 : (cs X t T0 e (ts t D f g) p (pl ++ ys)).1 t 12 = ni F := by rw [cs_o (by omega) (by omega) (by omega), ts_o (by omega) (by omega), hF]
          simp only [sw_bi, e12, ni_sub hF1, c130, sw_some, sb_i, sw_bv]
          rw [c131 h (by omega) (by rw [List.length_append]; omega), sw_some, List.length_append, Nat.add_sub_cancel_left]
          simp only [sb_v, sw_some]
          have := hok q rfl
          have e1 : md_chs T q (md_go T q q) = [] := by
            unfold md_go; rw [if_neg (fun w => by omega), md_chs, dif_neg (by omega)]
          rw [e1, List.append_nil] at this
          exact this
        have h97 : T q ≠ ni 13 → (md_in (T q) 32 126 = true ∨ T q = ni 9) → sw (sm_fx C 55 97 [.ref (X + 4), .ref t, sm_junk, .int (ni b), .int (ni pl.length), .int (ni q), .int (T q)] [] (cs X t T0 e (ts t D f g) p (pl ++ ys))) Q := by
          intro h13 hp
          rw [md_tx, if_pos hlt, if_neg h13, if_pos hp] at hok her
          refine sw_ge (n55_97 hX tr) ?_
          simp only [sw_bv, c44 (cH_ts h) (show (pl ++ ys).length < 16400 by rw [List.length_append]; omega), sw_some, sb_v, ni_add]
          rw [List.append_assoc]
          refine ih (q + 1) (ys ++ [T q]) (by omega) (by omega) (by rw [List.length_append, List.length_singleton]; omega) (fun z hz => ?_) her
          have hzq := md_tx_ok hL hb hz
          have := hok z hz
          rw [md_chs_char (by omega) h13] at this
          rw [List.append_assoc]
          exact this
        have h90 : T q ≠ ni 13 → md_in (T q) 32 126 = false → sw (sm_fx C 55 90 [.ref (X + 4), .ref t, sm_junk, .int (ni b), .int (ni pl.length), .int (ni q), .int (T q)] [] (cs X t T0 e (ts t D f g) p (pl ++ ys))) Q := by
          intro h13 hp
          refine sw_ge (n55_90 hX tr) ?_
          simp only [sw_ite, sw_bv]
          by_cases h9 : T q = ni 9
          · rw [if_pos h9]; exact h97 h13 (Or.inr h9)
          · rw [if_neg h9]
            rw [md_tx, if_pos hlt, if_neg h13, if_neg (fun w => w.elim (fun y => by rw [hp] at y; cases y) h9)] at her
            exact c29 hX (cF_ts.trans cF_cs) (fun z D' hT => ⟨hT.tw, her q z D' rfl hT⟩)
        refine sw_ge (n55_12 hX tr) ?_
        simp (disch := omega) only [sw_ite, ni_le, sw_bi, c42b (cH_ts h) (show q < N by omega), sw_some, sb_i, ni_add]
        rw [if_neg (by omega)]
        by_cases h13 : T q = ni 13
        · rw [if_pos h13]
          by_cases h2 : q + 2 < b
          · rw [if_neg (by omega), c42b (cH_ts h) (show q + 2 < N by omega), sw_some]
            simp only [sb_i, sw_bi, c3, sw_some, sw_ite, md_b_0]
            cases hbl : md_bl (T (q + 2))
            · rw [if_pos rfl]
              exact h124 h13 (fun w => by rw [hbl] at w; exact nomatch w.2)
            · rw [if_neg (fun w => nomatch w)]
              rw [md_tx, if_pos hlt, if_pos h13, if_pos ⟨h2, hbl⟩] at hok her
              refine ih (q + 2) ys (by omega) (by omega) (by omega) (fun z hz => ?_) her
              have hzq := md_tx_ok hL hb hz
              have hn13 : T (q + 2) ≠ ni 13 := fun w => by rw [w] at hbl; revert hbl; decide
              have := hok z hz
              rw [md_chs_fold (by omega) h13 hn13] at this
              exact this
          · rw [if_pos (by omega)]
            exact h124 h13 (fun w => h2 w.1)
        · rw [if_neg h13]
          by_cases h32 : T q < ni 32
          · rw [if_pos h32]; exact h90 h13 (md_in_lt h32)
          · rw [if_neg h32]
            by_cases h127 : T q < ni 127
            · rw [if_pos h127]
              refine h97 h13 (Or.inl (md_in_t h32 ?_))
              rw [Int32.lt_iff_toInt_lt, ni_toInt (by omega)] at h127 ⊢
              omega
            · rw [if_neg h127]
              refine h90 h13 (md_in_gt ?_)
              rw [Int32.lt_iff_toInt_lt, ni_toInt (by omega)] at h127 ⊢
              omega
      · have hqe : q = b := by omega
        subst hqe
        rw [md_tx, if_neg (by omega)] at her
        refine sw_ge (n55_12 hX tr) ?_
        simp (disch := omega) only [sw_ite, ni_le]
        rw [if_pos (Nat.le_refl _)]
        refine sw_ge (n55_124 hX tr) ?_
        simp (disch := omega) only [sw_ite, ni_lt, sw_bv]
        rw [if_neg (by omega)]
        exact c29 hX (cF_ts.trans cF_cs) (fun z D' hT => ⟨hT.tw, her q z D' rfl hT⟩)
  refine sw_ge (f55 hX tr) ?_
  rw [cs_p ht]
  have := loop _ q [] (Nat.le_refl _) hq (by rw [List.length_nil]; omega) (fun z hz => by rw [List.nil_append]; exact hok z hz) her
  rw [List.append_nil] at this
  exact this
theorem c132 {D : sm_D} (tr : sm_tree C t) {i n F m : Nat} {v : Int32} (hn : D.1 t 11 = ni n) (hn40 : n ≤ 40) (hi : i < n) (hF : D.1 t 12 = ni F) (hF2 : F < 200) (h7 : D.1 (t + 7) i = ni m) : sm_fe C 132 [.ref t, .int (ni i), .int v] D = some (.inl none, sm_dI (sm_dI (sm_dI D (t + 11) F v) t 12 (ni (F + 1))) (t + 7) i (ni (m + 1))) := by
  apply sw_eq
  refine sw_ge (f132 tr) ?_
  have e1 : sm_up D.1 (t + 11) F v t 12 = ni F := by rw [up_ne (by omega), hF]
  have e2 : sm_up (sm_up D.1 (t + 11) F v) t 12 (ni (F + 1)) (t + 7) i = ni m := by rw [up_ne (by omega), up_ne (by omega), h7]
  simp (disch := omega) only [sw_bi, c128 tr hn hn40 (show i < 2147483648 by omega), sw_some, sb_i, sw_ite, md_b_0, sw_gu, ni_in, ni_nat, hF, ni_lt, ni_le, e1, ni_add, e2]
  rw [decide_eq_true hi, if_neg (fun z => nomatch z), if_neg (by omega), if_neg (by omega)]
  exact ⟨decide_eq_true hF2, decide_eq_true (by omega), decide_eq_true (by omega), trivial⟩
end CRF
