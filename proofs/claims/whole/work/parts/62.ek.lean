section CSK
variable {C : sm_K} {X t N e p : Nat} {T T0 : Nat → Int32} {D : sm_D} {Q : (Option Value ⊕ Nat) → sm_D → Prop}
theorem c94 (h : cH C X t T N D) {pl : List Int32} (hl : pl.length ≤ 16400) {a n : Nat} (hn : a + n < 100000) : sm_fe C 94 [.ref (t + 1), .int (ni a), .int (ni n)] (cs X t T0 e D p pl) = some (.inl (some (.int (match md_chset (md_nth pl) a n with | some k => ni k | none => sm_k (-1)))), cs X t T0 e D p pl) := by
  have hr := (sm_tree_of h.1 h.2.1).2
  have hx := h.2.2.1
  have key : ∀ {s : Nat} {w : String}, st C s (md_w w) → sm_fe C 43 [.ref (t + 1), .int (ni a), .int (ni n), .ref s] (cs X t T0 e D p pl) = some (.inl (some (.int (md_b (md_is (md_nth pl) a n w)))), cs X t T0 e D p pl) := fun hs => c43g hr hs (P := md_nth pl) (b := 100000) (fun i hi => c42 h hl (by omega)) (fun _ => by omega) (by omega) (by omega)
  apply sw_eq
  refine sw_ge (f94 hr) ?_
  simp only [sw_bi, key (st_tx hx 18 (s := "us-ascii") rfl rfl (by decide) (by decide)), key (st_tx hx 19 (s := "iso-8859-1") rfl rfl (by decide) (by decide)), key (st_tx hx 20 (s := "utf-8") rfl rfl (by decide) (by decide)), sw_some, sb_i, sw_ite, md_b_0]
  unfold md_chset
  generalize md_is (md_nth pl) a n "us-ascii" = b1
  generalize md_is (md_nth pl) a n "iso-8859-1" = b2
  generalize md_is (md_nth pl) a n "utf-8" = b3
  cases b1 <;> cases b2 <;> cases b3 <;> rfl
theorem c92 (h : cH C X t T N D) {pl : List Int32} (hl : pl.length ≤ 16400) {a n : Nat} (han : a ≤ n) (hn : n < 90000) (hby : ∀ j, a ≤ j → j < n → ∃ n, n < 256 ∧ md_nth pl j = ni n)
    (hok : ∀ ch l, md_enc (md_nth pl) a n = some (ch, l) → ∀ D', cM X D D' → MT X D' l → Q (.inl (some (.int (ni ch)))) (cs X t T0 e D' p pl)) (hno : md_enc (md_nth pl) a n = none → ∀ D', cM X D D' → Q (.inl (some (.int (sm_k (-1))))) (cs X t T0 e D' p pl)) :
    sw (sm_fe C 92 [.ref (X + 11), .ref (t + 1), .int (ni a), .int (ni n)] (cs X t T0 e D p pl)) Q := by
  have hX := h.1
  have ht := h.2.1
  have hr := (sm_tree_of hX ht).2
  have m1 := md_mark_le (P := md_nth pl) (n := n) (k := a + 2)
  have m2 := md_mark_le (P := md_nth pl) (n := n) (k := md_mark (md_nth pl) n (a + 2) + 3)
  unfold md_enc at hok hno
  dsimp only at hok hno
  generalize hm : md_mark (md_nth pl) n (a + 2) = m at *
  generalize hz : md_mark (md_nth pl) n (m + 3) = z at *
  have hmN : m ≤ n + 2 := by
    rcases Nat.lt_or_ge n (a + 2) with w | w
    · have := m1.2.2 w; omega
    · have := m1.2.1 w; omega
  have hzN : z ≤ n + 5 := by
    rcases Nat.lt_or_ge n (m + 3) with w | w
    · have := m2.2.2 w; omega
    · have := m2.2.1 w; omega
  have hnone : ¬ (n ≤ a + 75 ∧ m + 3 < z ∧ z + 2 = n ∧ md_nth pl a = ni 61 ∧ md_nth pl (a + 1) = ni 63 ∧ md_nth pl (m + 2) = ni 63 ∧ md_nth pl (n - 1) = ni 61) → Q (.inl (some (.int (sm_k (-1))))) (cs X t T0 e D p pl) := by
    intro hc
    rw [if_neg hc] at hno
    exact hno rfl D (cM.refl D)
  refine sw_ge (f92 hX hr) ?_
  rw [ni_sub han]
  refine sw_if (fun h75 => ?_) (fun h75 => ?_)
  · rw [ni_lt (by omega) (by omega)] at h75
    rw [sw_some]
    exact hnone (fun w => by omega)
  · rw [ni_lt (by omega) (by omega)] at h75
    rw [sw_bi, c42 h hl (by omega), sw_some]
    show sw (if md_nth pl a = ni 61 then _ else _) Q
    refine sw_if (fun h61 => ?_) (fun h61 => by rw [sw_some]; exact hnone (fun w => h61 w.2.2.2.1))
    rw [ni_add, sw_bi, c42 h hl (by omega), sw_some]
    show sw (if md_nth pl (a + 1) = ni 63 then _ else _) Q
    refine sw_if (fun h63 => ?_) (fun h63 => by rw [sw_some]; exact hnone (fun w => h63 w.2.2.2.2.1))
    rw [ni_add, sw_bi, c93' h hl (by omega) (by omega), hm, sw_some]
    show sw (sm_bi _ _) Q
    rw [ni_sub (show a ≤ m by omega), ni_sub (show 2 ≤ m - a by omega), sw_bi, c94 h hl (show a + 2 + (m - a - 2) < 100000 by omega), sw_some]
    show sw (sm_bi _ _) Q
    rw [ni_add, sw_bi, c93' h hl (by omega) (by omega), hz, sw_some]
    show sw (sm_bi _ _) Q
    rw [ni_add, sw_bi, c42 h hl (by omega), sw_some, show m - a - 2 = m - (a + 2) from by omega]
    show sw (if md_nth pl (m + 2) = ni 63 then _ else _) Q
    refine sw_if (fun hq => ?_) (fun hq => by rw [sw_some]; exact hnone (fun w => hq w.2.2.2.2.2.1))
    refine sw_if (fun hz1 => ?_) (fun hz1 => ?_)
    · rw [ni_le (by omega) (by omega)] at hz1
      rw [sw_some]
      exact hnone (fun w => by omega)
    · rw [ni_le (by omega) (by omega)] at hz1
      rw [ni_add]
      refine sw_if (fun hz2 => ?_) (fun hz2 => ?_)
      · rw [ni_inj (by omega) (by omega)] at hz2
        rw [ni_sub (by omega), sw_bi, c42 h hl (by omega), sw_some]
        show sw (if md_nth pl (n - 1) = ni 61 then _ else _) Q
        refine sw_if (fun hl1 => ?_) (fun hl1 => by rw [sw_some]; exact hnone (fun w => hl1 w.2.2.2.2.2.2))
        have hall : n ≤ a + 75 ∧ m + 3 < z ∧ z + 2 = n ∧ md_nth pl a = ni 61 ∧ md_nth pl (a + 1) = ni 63 ∧ md_nth pl (m + 2) = ni 63 ∧ md_nth pl (n - 1) = ni 61 := ⟨by omega, by omega, hz2, h61, h63, hq, hl1⟩
        rw [if_pos hall] at hok hno
        have hby2 : ∀ j, m + 3 ≤ j → j < z → ∃ n, n < 256 ∧ md_nth pl j = ni n := fun j h1 h2 => hby j (by omega) (by omega)
        rw [ni_add, sw_bi, c42 h hl (by omega), sw_some]
        show sw (sm_bi _ _) Q
        rw [sw_bi, c2, sw_some]
        show sw (if md_sm (md_nth pl (m + 1)) = ni 98 then _ else _) Q
        rw [sw_ite]
        -- a right word whose charset is told or not
        have h170 : ∀ (l : List Int32) (D' : sm_D), cM X D D' → MT X D' l → ((∀ ch, md_chset (md_nth pl) (a + 2) (m - (a + 2)) = some ch → Q (.inl (some (.int (ni ch)))) (cs X t T0 e D' p pl)) ∧ (md_chset (md_nth pl) (a + 2) (m - (a + 2)) = none → Q (.inl (some (.int (sm_k (-1))))) (cs X t T0 e D' p pl))) → sw (sm_fx C 92 170 [sm_junk, sm_junk, sm_junk, sm_junk, sm_junk, .int (match md_chset (md_nth pl) (a + 2) (m - (a + 2)) with | some k => ni k | none => sm_k (-1)), sm_junk, sm_junk, sm_junk, sm_junk] [.int (ni 1)] (cs X t T0 e D' p pl)) Q := by
          intro l D' hD hM hh
          refine sw_ge (n92_170 hX hr) ?_
          simp only [sw_ite, ni_10, if_false, sw_some]
          cases hcs : md_chset (md_nth pl) (a + 2) (m - (a + 2)) with
          | none => exact hh.2 hcs
          | some ch => exact hh.1 ch hcs
        have h169 : ∀ (v5 : Int32) (D' : sm_D), Q (.inl (some (.int (sm_k (-1))))) (cs X t T0 e D' p pl) → sw (sm_fx C 92 169 [sm_junk, sm_junk, sm_junk, sm_junk, sm_junk, .int v5, sm_junk, sm_junk, sm_junk, sm_junk] [] (cs X t T0 e D' p pl)) Q := by
          intro v5 D' hh
          refine sw_ge (n92_169 hX hr) ?_
          refine sw_ge (n92_170 hX hr) ?_
          simp only [sw_ite, if_true, sw_some]
          exact hh
        by_cases h98 : md_sm (md_nth pl (m + 1)) = ni 98
        · rw [if_pos h98, sw_bi]
          refine c95 h hl (by omega) (by omega) (by omega) hby2 (fun l hl2 D' hD hM => ?_) (fun hl2 D' hD => ?_)
          · simp only [sb_i, sw_ite, md_b_0]
            rw [if_neg (fun z => nomatch z)]
            refine h170 l D' hD hM ⟨fun ch hcs => ?_, fun hcs => ?_⟩
            · rw [hcs] at hok
              dsimp only at hok
              rw [if_pos h98, hl2] at hok
              exact hok ch l rfl D' hD hM
            · rw [hcs] at hno
              exact hno rfl D' hD
          · simp only [sb_i, sw_ite, md_b_0, if_true]
            refine sw_ge (n92_146 hX hr) ?_
            simp only [sw_ite, h98]
            rw [if_neg (by decide)]
            refine h169 _ D' ?_
            refine hno ?_ D' hD
            cases hcs : md_chset (md_nth pl) (a + 2) (m - (a + 2)) with
            | none => rfl
            | some ch => dsimp only; rw [if_pos h98, hl2]; rfl
        · rw [if_neg h98]
          refine sw_ge (n92_146 hX hr) ?_
          simp only [sw_ite, sw_bi]
          by_cases h113 : md_sm (md_nth pl (m + 1)) = ni 113
          · rw [if_pos h113]
            refine c96 h hl (by omega) (by omega) (by omega) hby2 (fun l hl2 D' hD hM => ?_) (fun hl2 D' hD => ?_)
            · simp only [sb_i, sw_ite, md_b_0]
              rw [if_neg (fun z => nomatch z)]
              refine h170 l D' hD hM ⟨fun ch hcs => ?_, fun hcs => ?_⟩
              · rw [hcs] at hok
                dsimp only at hok
                rw [if_neg h98, if_pos h113, hl2] at hok
                exact hok ch l rfl D' hD hM
              · rw [hcs] at hno
                exact hno rfl D' hD
            · simp only [sb_i, sw_ite, md_b_0, if_true]
              refine h169 _ D' ?_
              refine hno ?_ D' hD
              cases hcs : md_chset (md_nth pl) (a + 2) (m - (a + 2)) with
              | none => rfl
              | some ch => dsimp only; rw [if_neg h98, if_pos h113, hl2]; rfl
          · rw [if_neg h113]
            refine h169 _ D ?_
            refine hno ?_ D (cM.refl D)
            cases hcs : md_chset (md_nth pl) (a + 2) (m - (a + 2)) with
            | none => rfl
            | some ch => dsimp only; rw [if_neg h98, if_neg h113]
      · rw [ni_inj (by omega) (by omega)] at hz2
        rw [sw_some]
        exact hnone (fun w => hz2 w.2.2.1)
/-- a piece of the pool is added to it once more -/
theorem c97 (h : cH C X t T N D) : ∀ (m a b : Nat) (pl : List Int32), a + m = b ∨ (m = 0 ∧ b ≤ a) → b ≤ pl.length → pl.length + (b - a) ≤ 16400 → a < 100000 → sm_fx C 97 2 [.ref (t + 1), sm_junk, .int (ni b), .int (ni a)] [] (cs X t T0 e D p pl) = some (.inl none, cs X t T0 e D p (pl ++ md_sl (md_nth pl) a b)) := by
  have hr := (sm_tree_of h.1 h.2.1).2
  intro m
  induction m with
  | zero =>
    intro a b pl hm hb hl ha
    apply sw_eq
    refine sw_ge (n97_2 hr) ?_
    simp (disch := omega) only [sw_ite, ni_le, sw_some]
    rw [if_pos (by omega)]
    have : md_sl (md_nth pl) a b = [] := List.length_eq_zero_iff.mp (by rw [md_sl_len]; omega)
    rw [this, List.append_nil]
  | succ m ih =>
    intro a b pl hm hb hl ha
    apply sw_eq
    refine sw_ge (n97_2 hr) ?_
    simp (disch := omega) only [sw_ite, ni_le, sw_bi, c42 h (show pl.length ≤ 16400 by omega) (show a < 2147483648 by omega), sw_some, sb_i, sw_bv, c44 h (show pl.length < 16400 by omega), sb_v, ni_add]
    rw [if_neg (by omega), ih (a + 1) b _ (by omega) (by rw [List.length_append]; omega) (by rw [List.length_append, List.length_singleton]; omega) (by omega), sw_some]
    refine congrArg (fun l => ((Sum.inl none, cs X t T0 e D p l) : sm_o)) ?_
    rw [List.append_assoc]
    refine congrArg (fun l => pl ++ l) ?_
    unfold md_sl
    rw [show b - a = (b - (a + 1)) + 1 from by omega, List.range_succ_eq_map, List.map_cons, List.map_map]
    show [md_nth pl a] ++ _ = _ :: _
    rw [Nat.add_zero]
    show _ :: _ = _ :: _
    congr 1
    refine List.map_congr_left (fun k hk => ?_)
    rw [List.mem_range] at hk
    show md_nth (pl ++ [md_nth pl a]) (a + 1 + k) = md_nth pl (a + (k + 1))
    rw [show a + (k + 1) = a + 1 + k from by omega, md_nth_app (by omega)]
theorem c97' (h : cH C X t T N D) {a b : Nat} {pl : List Int32} (hb : b ≤ pl.length) (hl : pl.length + (b - a) ≤ 16400) (ha : a < 100000) : sm_fe C 97 [.ref (t + 1), .int (ni a), .int (ni b)] (cs X t T0 e D p pl) = some (.inl none, cs X t T0 e D p (pl ++ md_sl (md_nth pl) a b)) := by
  have hr := (sm_tree_of h.1 h.2.1).2
  apply sw_eq
  refine sw_ge (f97 hr) ?_
  rw [c97 h (b - a) a b pl (by omega) hb hl ha, sw_some]
end CSK
