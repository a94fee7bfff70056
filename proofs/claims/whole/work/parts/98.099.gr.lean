theorem md_mark_sp {P : Nat → Int32} {n k : Nat} : (md_mark P n k < n → P (md_mark P n k) = ni 63) ∧ ∀ j, k ≤ j → j < md_mark P n k → P j ≠ ni 63 := by
  rw [md_mark]
  split
  · next h =>
    have ih := md_mark_sp (P := P) (n := n) (k := k + 1)
    refine ⟨ih.1, fun j hj hj2 => ?_⟩
    by_cases hjk : j = k
    · rw [hjk]; exact h.2
    · exact ih.2 j (by omega) hj2
  · next h =>
    refine ⟨fun g => ?_, fun j hj hj2 => by omega⟩
    rcases Classical.em (P k = ni 63) with g2 | g2
    · exact g2
    · exact absurd ⟨g, g2⟩ h
termination_by n - k
theorem md_is_len {P : Nat → Int32} {a n : Nat} {w : String} (h : md_is P a n w = true) : n = (md_w w).length := by
  unfold md_is at h
  rw [Bool.and_eq_true, decide_eq_true_eq] at h
  exact h.1
theorem md_chset_5 {P : Nat → Int32} {a n cs : Nat} (h : md_chset P a n = some cs) : 5 ≤ n := by
  unfold md_chset at h
  split at h
  · next g => have := md_is_len g; rw [this]; decide
  · split at h
    · next g => have := md_is_len g; rw [this]; decide
    · split at h
      · next g => have := md_is_len g; rw [this]; decide
      · cases h
section RGS
variable {C : sm_K} {X : Nat} {E : sm_D} {Q : (Option Value ⊕ Nat) → sm_D → Prop} {xs : List Int32}
/-- is a word encoded -/
theorem r213 (hX : sm_Lay C X) (hx : tx C) (hP : PLN X xs E) (hL : xs.length ≤ 8000) {w z : Nat} (hwz : w < z) (hz : z ≤ xs.length) (hpr : ∀ j, w ≤ j → j < z → md_in (md_nth xs j) 33 126 = true)
    (hok : ∀ cs l, md_enc (md_nth xs) w z = some (cs, l) → ∀ E', fr (sEn X) E E' → WB X l E' → E'.1 (X + 49) 59 = ni cs → Q (.inl (some (.int (ni 1)))) E')
    (her : md_enc (md_nth xs) w z = none → ∀ E', fr (sEn X) E E' → Q (.inl (some (.int (ni 0)))) E') :
    sw (sm_fe C 213 [.ref (X + 49), .int (ni w), .int (ni z)] E) Q := by
  have key : md_enc (md_nth xs) w z = (let m := md_mark (md_nth xs) z (w + 2); let y := md_mark (md_nth xs) z (m + 3)
      if z ≤ w + 75 ∧ m + 3 < y ∧ y + 2 = z ∧ md_nth xs w = ni 61 ∧ md_nth xs (w + 1) = ni 63 ∧ md_nth xs (m + 2) = ni 63 ∧ md_nth xs (z - 1) = ni 61 then
        match md_chset (md_nth xs) (w + 2) (m - (w + 2)) with
        | none => none
        | some cs =>
          if md_sm (md_nth xs (m + 1)) = ni 98 then (md_mB (md_nth xs) y (ni 0) 0 0 (m + 3)).map (fun l => (cs, l))
          else if md_sm (md_nth xs (m + 1)) = ni 113 then (md_mQ (md_nth xs) y (m + 3)).map (fun l => (cs, l))
          else none
      else none) := rfl
  dsimp only at key
  have em : ∀ k, k < 100000 → sm_fe C 214 [.ref (X + 49), .int (ni k), .int (ni z)] E = some (.inl (some (.int (if md_mark (md_nth xs) z k < z then ni (md_mark (md_nth xs) z k) else sm_k (-1)))), E) := fun k hk => r214' hX hP hL hz hk
  have em2 := em (w + 2) (by omega)
  have hm1 := md_mark_sp (P := md_nth xs) (n := z) (k := w + 2)
  have hm2 := md_mark_le (P := md_nth xs) (n := z) (k := w + 2)
  generalize md_mark (md_nth xs) z (w + 2) = m at key hm1 hm2 em2
  have hy1 := md_mark_sp (P := md_nth xs) (n := z) (k := m + 3)
  have hy2 := md_mark_le (P := md_nth xs) (n := z) (k := m + 3)
  generalize hyd : md_mark (md_nth xs) z (m + 3) = y at key hy1 hy2
  have no : ¬ (z ≤ w + 75 ∧ m + 3 < y ∧ y + 2 = z ∧ md_nth xs w = ni 61 ∧ md_nth xs (w + 1) = ni 63 ∧ md_nth xs (m + 2) = ni 63 ∧ md_nth xs (z - 1) = ni 61) → Q (.inl (some (.int (ni 0)))) E := fun g => her (by rw [key, if_neg g]) E fr.refl
  have hmz := hm2.2.1
  have hyz := hy2.2.1
  -- behind the marks
  have n200 : ∀ (csv : Int32), m < z → (z ≤ w + 75 ∧ m + 3 < y ∧ y + 2 = z ∧ md_nth xs w = ni 61 ∧ md_nth xs (w + 1) = ni 63 ∧ md_nth xs (m + 2) = ni 63 ∧ md_nth xs (z - 1) = ni 61) → csv = (match md_chset (md_nth xs) (w + 2) (m - (w + 2)) with | some k => ni k | none => sm_k (-1)) →
      sw (sm_fx C 213 200 [.ref (X + 49), sm_junk, sm_junk, .int (ni m), .int (ni (m + 2)), .int (ni y), sm_junk] [.int csv, .ref (X + 49)] E) Q := by
    intro csv hmlt hc hcsv
    rw [if_pos hc] at key
    obtain ⟨c1, c2, c3, c4, c5, c6, c7⟩ := hc
    refine sw_ge (n213_200 hX) ?_
    have ep : sm_up E.1 (X + 49) 59 csv (X + 82) (m + 1) = md_nth xs (m + 1) := by rw [up_ne (by omega)]; exact hP.2 _ (by omega)
    have e59 : sm_up E.1 (X + 49) 59 csv (X + 49) 59 = csv := up_eq
    simp (disch := omega) only [sw_gu, ni_add, ni_in, ni_nat, sw_bi, ep, r168, sw_some, sb_i, sw_ite, e59, nar_b0]
    refine ⟨decide_eq_true (by omega), ?_⟩
    have hfr1 : fr (sEn X) E (sm_dI E (X + 49) 59 csv) := fr.refl.dI (Or.inl ⟨rfl, Or.inr rfl⟩)
    cases hcs : md_chset (md_nth xs) (w + 2) (m - (w + 2)) with
    | none =>
      rw [hcs] at hcsv key
      rw [if_pos hcsv]
      exact her key _ hfr1
    | some cs =>
      rw [hcs] at hcsv key
      dsimp only at key
      have hcs3 : cs < 3 := by
        unfold md_chset at hcs
        split at hcs
        · cases hcs; omega
        · split at hcs
          · cases hcs; omega
          · split at hcs
            · cases hcs; omega
            · cases hcs
      have hcsv' : csv = ni cs := hcsv
      rw [if_neg (by rw [hcsv', ni_ne_k (by omega)]; exact id)]
      have hfr2 : fr (sEn X) E (sm_dI (sm_dI E (X + 49) 59 csv) (X + 49) 57 (ni 0)) := hfr1.dI (Or.inl ⟨rfl, Or.inl rfl⟩)
      have hP2 : PLN X xs (sm_dI (sm_dI E (X + 49) 59 csv) (X + 49) 57 (ni 0)) := hP.fr hfr2 sEn_P
      have hW2 : WB X [] (sm_dI (sm_dI E (X + 49) 59 csv) (X + 49) 57 (ni 0)) := ⟨dI_eq, fun i hi => by cases hi⟩
      have h59 : (sm_dI (sm_dI E (X + 49) 59 csv) (X + 49) 57 (ni 0)).1 (X + 49) 59 = ni cs := by rw [dI_ne (by omega), dI_eq, hcsv']
      by_cases h98 : md_sm (md_nth xs (m + 1)) = ni 98
      · rw [if_pos h98]
        rw [if_pos h98] at key
        refine sw_ge (n213_240 hX) ?_
        simp only [sw_ite, h98, if_true, ni_add, sw_bi]
        refine r216 hX hL (by omega) (by omega) hP2 hW2 (by omega) (fun ys hy E' hE' hWE h59' => ?_) (fun hy E' hE' => ?_)
        · simp only [sb_i, sw_some, nar_b1]
          exact hok cs ys (by rw [key, hy]; rfl) E' (hfr2.trans hE') hWE (by rw [h59', h59])
        · simp only [sb_i, sw_some, nar_b0]
          exact her (by rw [key, hy]; rfl) E' (hfr2.trans hE')
      · rw [if_neg h98]
        rw [if_neg h98] at key
        by_cases h113 : md_sm (md_nth xs (m + 1)) = ni 113
        · rw [if_pos h113]
          rw [if_pos h113] at key
          refine sw_ge (n213_240 hX) ?_
          simp only [sw_ite, sw_bi, ni_add]
          rw [if_neg h98]
          refine sw_ge (f219 hX) ?_
          refine r219 hX hL (n := y) (q0 := w) (by omega) (fun j hj => by
            rcases Nat.lt_or_ge j w with g | g
            · exact Or.inr g
            · exact Or.inl (hpr j g (by omega))) (D0 := sm_dI (sm_dI E (X + 49) 59 csv) (X + 49) 57 (ni 0)) y (m + 3) [] _ (by omega) (by omega) (by omega) hP2 hW2 (by rw [List.length_nil]; omega) fr.refl (fun ys hy E' hE' hWE h59' => ?_) (fun hy E' hE' => ?_)
          · simp only [sb_i, sw_some, nar_b1]
            rw [List.nil_append] at hWE
            exact hok cs ys (by rw [key, hy]; rfl) E' (hfr2.trans hE') hWE (by rw [h59', h59])
          · simp only [sb_i, sw_some, nar_b0]
            exact her (by rw [key, hy]; rfl) E' (hfr2.trans hE')
        · rw [if_neg h113]
          rw [if_neg h113] at key
          exact her key _ hfr1
  have n115 : ∀ (bv cv : Int32), (m < z → z ≤ w + 75 → md_nth xs w = ni 61 → md_nth xs (w + 1) = ni 63 → md_nth xs (z - 1) = ni 61 → md_nth xs (z - 2) = ni 63 → (bv = ni (m + 2) ∧ cv = (if y < z then ni y else sm_k (-1)) ∧ md_nth xs (m + 2) = ni 63 ∧ md_nth xs (m + 1) ≠ ni 63) ∨ (bv ≠ ni (m + 2) ∧ (md_nth xs (m + 2) ≠ ni 63 ∨ md_nth xs (m + 1) = ni 63 ∨ z ≤ m + 2)) ∨ (cv = sm_k (-1) ∧ (md_nth xs (m + 2) ≠ ni 63 ∨ z ≤ m + 2))) → m < z → z ≤ w + 75 → md_nth xs w = ni 61 → md_nth xs (w + 1) = ni 63 → md_nth xs (z - 1) = ni 61 → md_nth xs (z - 2) = ni 63 →
      sw (sm_fx C 213 115 [.ref (X + 49), .int (ni w), .int (ni z), .int (ni m), .int bv, sm_junk, sm_junk] [.int cv] E) Q := by
    intro bv cv hcase h1 h2 h3 h4 h5 h6
    have hz2 : 2 ≤ z := by omega
    refine sw_ge (n213_115 hX) ?_
    have zs : ∀ {g : md_nth xs (m + 1) = ni 63}, Q (.inl (some (.int (ni 0)))) E := by
      intro g
      refine her ?_ E fr.refl
      rw [key]
      have s1 : ¬ md_sm (md_nth xs (m + 1)) = ni 98 := by rw [g]; decide
      have s2 : ¬ md_sm (md_nth xs (m + 1)) = ni 113 := by rw [g]; decide
      split
      · split
        · rfl
        · first | rfl | rw [if_neg s1, if_neg s2]
      · rfl
    simp (disch := omega) only [sw_ite, sw_some, nar_b0, ni_sub hz2, ni_add]
    rcases hcase h1 h2 h3 h4 h5 h6 with ⟨g1, g2, g3, g4⟩ | ⟨g1, g2⟩ | ⟨g1, g2⟩
    · by_cases hyy : y + 2 = z
      · rw [g2, if_pos (show y < z by omega), if_pos (by congr 1; omega), g1, if_pos rfl, ni_add]
        by_cases hy3 : m + 3 < y
        · rw [if_neg (by rw [ni_inj (by omega) (by omega)]; omega)]
          have hall : z ≤ w + 75 ∧ m + 3 < y ∧ y + 2 = z ∧ md_nth xs w = ni 61 ∧ md_nth xs (w + 1) = ni 63 ∧ md_nth xs (m + 2) = ni 63 ∧ md_nth xs (z - 1) = ni 61 := ⟨h2, hy3, hyy, h3, h4, g3, h5⟩
          have hw2 : w + 2 ≤ m := hm2.1
          have t1 := r215 hX hP hL (st_tx hx 61 (s := "us-ascii") rfl rfl (by decide) (by decide)) hw2 (show m ≤ xs.length by omega)
          have t2 := r215 hX hP hL (st_tx hx 62 (s := "iso-8859-1") rfl rfl (by decide) (by decide)) hw2 (show m ≤ xs.length by omega)
          have t3 := r215 hX hP hL (st_tx hx 63 (s := "utf-8") rfl rfl (by decide) (by decide)) hw2 (show m ≤ xs.length by omega)
          simp only [sw_bi, t1, t2, t3, sw_some, sb_i, sw_ite, md_b_0]
          have u1 : (decide (m - (w + 2) = (md_w "us-ascii").length) && md_at (md_nth xs) (w + 2) (md_w "us-ascii")) = md_is (md_nth xs) (w + 2) (m - (w + 2)) "us-ascii" := rfl
          have u2 : (decide (m - (w + 2) = (md_w "iso-8859-1").length) && md_at (md_nth xs) (w + 2) (md_w "iso-8859-1")) = md_is (md_nth xs) (w + 2) (m - (w + 2)) "iso-8859-1" := rfl
          have u3 : (decide (m - (w + 2) = (md_w "utf-8").length) && md_at (md_nth xs) (w + 2) (md_w "utf-8")) = md_is (md_nth xs) (w + 2) (m - (w + 2)) "utf-8" := rfl
          rw [u1, u2, u3]
          have hch : md_chset (md_nth xs) (w + 2) (m - (w + 2)) = if md_is (md_nth xs) (w + 2) (m - (w + 2)) "us-ascii" then some 0 else if md_is (md_nth xs) (w + 2) (m - (w + 2)) "iso-8859-1" then some 1 else if md_is (md_nth xs) (w + 2) (m - (w + 2)) "utf-8" then some 2 else none := rfl
          rw [hch] at n200
          cases v1 : md_is (md_nth xs) (w + 2) (m - (w + 2)) "us-ascii"
          · rw [if_pos rfl]
            rw [v1] at n200
            cases v2 : md_is (md_nth xs) (w + 2) (m - (w + 2)) "iso-8859-1"
            · rw [if_pos rfl]
              rw [v2] at n200
              cases v3 : md_is (md_nth xs) (w + 2) (m - (w + 2)) "utf-8"
              · rw [v3] at n200
                rw [if_pos rfl]
                exact n200 _ h1 hall rfl
              · rw [v3] at n200
                rw [if_neg (fun g => nomatch g)]
                exact n200 _ h1 hall rfl
            · rw [v2] at n200
              rw [if_neg (fun g => nomatch g)]
              exact n200 _ h1 hall rfl
          · rw [v1] at n200
            rw [if_neg (fun g => nomatch g)]
            exact n200 _ h1 hall rfl
        · rw [if_pos (by have := hy2.1; congr 1; omega)]
          exact no (fun g => hy3 g.2.1)
      · have hn : ¬ (cv = ni (z - 2)) := by
          rw [g2]
          split
          · next g => rw [ni_inj (by omega) (by omega)]; omega
          · rw [k_ne_ni (by omega)]; exact id
        rw [if_neg hn]
        exact no (fun g => hyy g.2.2.1)
    · have hQ : Q (.inl (some (.int (ni 0)))) E := by
        rcases g2 with g2 | g2 | g2
        · exact no (fun g => g2 g.2.2.2.2.2.1)
        · exact zs (g := g2)
        · exact no (fun g => by have := g.2.1; have := g.2.2.1; omega)
      rw [if_neg g1]
      split <;> exact hQ
    · have hQ : Q (.inl (some (.int (ni 0)))) E := by
        rcases g2 with g2 | g2
        · exact no (fun g => g2 g.2.2.2.2.2.1)
        · exact no (fun g => by have := g.2.1; have := g.2.2.1; omega)
      rw [g1, if_neg (by rw [k_ne_ni (by omega)]; exact id)]
      exact hQ
  refine sw_ge (f213 hX) ?_
  simp (disch := omega) only [sw_ite, sw_some, nar_b0, ni_sub (show w ≤ z by omega), ni_lt]
  by_cases h75 : 75 < z - w
  · rw [if_pos h75]
    exact no (fun g => by omega)
  rw [if_neg h75]
  by_cases h9 : z - w < 9
  · rw [if_pos h9]
    refine her ?_ E fr.refl
    rw [key]
    split
    · next g =>
      split
      · rfl
      · next cs hcs =>
        have := md_chset_5 hcs
        obtain ⟨-, g2, g3, -⟩ := g
        omega
    · rfl
  rw [if_neg h9]
  have hz2 : 2 ≤ z := by omega
  simp (disch := omega) only [sw_gu, sw_ite, sw_some, nar_b0, ni_in, ni_nat, hP.2 w (by omega), ni_add, hP.2 (w + 1) (by omega), ni_sub (show 1 ≤ z by omega), ni_sub hz2, hP.2 (z - 1) (by omega), hP.2 (z - 2) (by omega)]
  refine ⟨decide_eq_true (by omega), ?_⟩
  by_cases h3 : md_nth xs w = ni 61
  · rw [if_pos h3]
    refine ⟨decide_eq_true (by omega), ?_⟩
    by_cases h4 : md_nth xs (w + 1) = ni 63
    · rw [if_pos h4]
      refine ⟨decide_eq_true (by omega), ?_⟩
      by_cases h5 : md_nth xs (z - 1) = ni 61
      · rw [if_pos h5]
        refine ⟨decide_eq_true (by omega), ?_⟩
        by_cases h6 : md_nth xs (z - 2) = ni 63
        · rw [if_pos h6, sw_bi, em2, sw_some]
          -- z - 2 is a mark
          have hmz2 : m < z := by
            rcases Nat.lt_or_ge m z with g | g
            · exact g
            · exact absurd h6 (hm1.2 (z - 2) (by omega) (by omega))
          rw [if_pos hmz2]
          simp only [sb_i, sw_ite, ni_add]
          rw [if_neg (by rw [ni_ne_k (by omega)]; exact id), sw_bi, em (m + 1) (by omega), sw_some]
          simp only [sb_i]
          have hb1 := md_mark_sp (P := md_nth xs) (n := z) (k := m + 1)
          have hb2 := md_mark_le (P := md_nth xs) (n := z) (k := m + 1)
          have emb : md_mark (md_nth xs) z (m + 1) < z → sm_fe C 214 [.ref (X + 49), .int (ni (md_mark (md_nth xs) z (m + 1) + 1)), .int (ni z)] E = some (.inl (some (.int (if md_mark (md_nth xs) z (md_mark (md_nth xs) z (m + 1) + 1) < z then ni (md_mark (md_nth xs) z (md_mark (md_nth xs) z (m + 1) + 1)) else sm_k (-1)))), E) := fun g => em _ (by omega)
          generalize hbd : md_mark (md_nth xs) z (m + 1) = mb at hb1 hb2 emb
          refine sw_ge (n213_94 hX) ?_
          simp only [sw_ite, sw_bi]
          by_cases hmb : mb < z
          · rw [if_pos hmb, if_neg (by rw [ni_ne_k (by omega)]; exact id), ni_add, emb hmb, sw_some]
            simp only [sb_i]
            refine n115 _ _ (fun _ _ _ _ _ _ => ?_) hmz2 (by omega) h3 h4 h5 h6
            by_cases hm2' : mb = m + 2
            · left
              refine ⟨by rw [hm2'], ?_, by rw [← hm2']; exact hb1.1 hmb, hb1.2 (m + 1) (by omega) (by omega)⟩
              rw [hm2', hyd]
            · right; left
              refine ⟨by rw [Ne, ni_inj (by omega) (by omega)]; exact hm2', ?_⟩
              rcases Nat.lt_or_ge mb (m + 2) with g | g
              · right; left
                have : mb = m + 1 := by have := hb2.1; omega
                rw [← this]; exact hb1.1 hmb
              · left; exact hb1.2 (m + 2) (by omega) (by omega)
          · rw [if_neg hmb, if_pos rfl]
            refine n115 _ _ (fun _ _ _ _ _ _ => Or.inr (Or.inr ⟨rfl, ?_⟩)) hmz2 (by omega) h3 h4 h5 h6
            rcases Nat.lt_or_ge (m + 2) z with g | g
            · left; exact hb1.2 (m + 2) (by omega) (by omega)
            · right; exact g
        · rw [if_neg h6]
          refine no (fun g => h6 ?_)
          have := hy1.1 (by have := g.2.2.1; omega)
          rw [show z - 2 = y from by have := g.2.2.1; omega]
          exact this
      · rw [if_neg h5]
        exact no (fun g => h5 g.2.2.2.2.2.2)
    · rw [if_neg h4]
      exact no (fun g => h4 g.2.2.2.2.1)
  · rw [if_neg h3]
    exact no (fun g => h3 g.2.2.2.1)
end RGS
