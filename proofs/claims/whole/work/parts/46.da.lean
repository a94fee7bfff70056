/-! ===== dates ===== -/
theorem ni_div {a b : Nat} (ha : a < 2147483648) (hb : b < 2147483648) : ni a / ni b = ni (a / b) := (Int32.ofNat_div (by omega) (by omega)).symm
theorem ni_rem {a b : Nat} (ha : a < 2147483648) (hb : b < 2147483648) : ni a - ni a / ni b * ni b = ni (a % b) := by
  rw [ni_div ha hb, ni_mul, ni_sub (by exact Nat.div_mul_le_self a b)]
  congr 1
  have := Nat.div_add_mod a b
  rw [Nat.mul_comm] at this
  omega
theorem ni_64 {a : Nat} (ha : a < 2147483648) : (ni a).toInt64 = Int64.ofInt a := by
  rw [← Int64.ofInt_int32ToInt, ni_toInt ha]
def md_mds : List Nat := [31, 28, 31, 30, 31, 30, 31, 31, 30, 31, 30, 31]
def sm_mv (C : sm_K) : Prop := sm_md C ∧ ∀ m, m < 12 → C.2.2.2 (C.1.1 71) m = ni (md_mds.getD m 0)
theorem md_dom_mds (y : Nat) : ∀ m, m < 12 → ¬ (m = 1 ∧ md_leap y = true) → md_dom m y = md_mds.getD m 0 := by
  intro m hm hl
  unfold md_dom
  by_cases h1 : m = 1
  · rw [if_pos h1, if_neg (fun z => hl ⟨h1, z⟩), h1]; rfl
  · rw [if_neg h1]
    match m, hm, h1 with
    | 0, _, _ | 2, _, _ | 3, _, _ | 4, _, _ | 5, _, _ | 6, _, _ | 7, _, _ | 8, _, _ | 9, _, _ | 10, _, _ | 11, _, _ => rfl
theorem md_dom_le (m y : Nat) : md_dom m y ≤ 31 := by
  unfold md_dom
  split
  · split <;> omega
  · split <;> omega
section CDA
variable {C : sm_K} {X t N e : Nat} {T : Nat → Int32} {D : sm_D} {Q : (Option Value ⊕ Nat) → sm_D → Prop} {pl : List Int32}
theorem c71 (hM : sm_mv C) {m y : Nat} (hm : m < 12) (hy : y < 10000) : sm_fe C 71 [.int (ni m), .int (ni y)] D = some (.inl (some (.int (ni (md_dom m y)))), D) := by
  obtain ⟨hM, hv⟩ := hM
  have h40 : ∀ b : Bool, b = md_leap y → sw (sm_fx C 71 40 [.int (ni m), sm_junk, sm_junk] [.int (md_b b)] D) (fun w E => (w, E) = (.inl (some (.int (ni (md_dom m y)))), D)) := by
    intro b hb
    refine sw_ge (n71_40 hM) ?_
    simp (disch := omega) only [sw_ite, sw_some, sw_gu, ni_inj, ni_in, ni_nat, md_b_0, hv m hm]
    by_cases h1 : m = 1
    · rw [if_pos h1]
      cases hb2 : b
      · rw [if_pos rfl, md_dom_mds y m hm (fun z => by rw [hb, z.2] at hb2; cases hb2)]
        exact ⟨decide_eq_true hm, rfl⟩
      · rw [if_neg (fun z => nomatch z)]
        unfold md_dom
        rw [if_pos h1, if_pos (by rw [← hb, hb2])]
    · rw [if_neg h1, md_dom_mds y m hm (fun z => h1 z.1)]
      exact ⟨decide_eq_true hm, rfl⟩
  have h39 : md_leap y = false → sw (sm_fx C 71 39 [.int (ni m), sm_junk, sm_junk] [] D) (fun w E => (w, E) = (.inl (some (.int (ni (md_dom m y)))), D)) := by
    intro hl
    refine sw_ge (n71_39 hM) ?_
    exact h40 false hl.symm
  apply sw_eq
  refine sw_ge (f71 hM) ?_
  simp (disch := omega) only [sw_ite, sw_some, ni_lt, ni_rem, ni_inj]
  rw [if_neg (by omega), if_pos hm]
  by_cases h4 : y % 4 = 0
  · rw [if_pos h4]
    by_cases h100 : y % 100 = 0
    · rw [if_pos h100]
      by_cases h400 : y % 400 = 0
      · rw [if_pos h400]
        exact h40 true (by unfold md_leap; simp [h4, h100, h400])
      · rw [if_neg h400]
        exact h39 (by unfold md_leap; simp [h4, h100, h400])
    · rw [if_neg h100]
      exact h40 true (by unfold md_leap; simp [h4, h100])
  · rw [if_neg h4]
    exact h39 (by unfold md_leap; simp [h4])
theorem c74 (h : cW C X t T N e D) {most p : Nat} (hm : most < 100) (hp : md_ok T e p)
    (hok : ∀ w r, md_two T e most p = .ok (w, r) → Q (.inl (some (.int (ni w)))) (cs X t T e D r pl)) (her : ∀ x z D', md_two T e most p = .error x → cT X t D x z D' → Q (.inr z) D') :
    sw (sm_fe C 74 [.ref (X + 8), .int (ni most)] (cs X t T e D p pl)) Q := by
  have hX := h.1.1
  unfold md_two at hok her
  refine sw_ge (f74 hX) ?_
  simp only [sw_bi, cs_2]
  refine c38 h (by omega) hp (fun w r h1 => ?_) (fun x z D' h1 hT => ⟨hT.tw, her x z D' (by rw [h1]; rfl) hT⟩)
  have hw := md_num_lt h1 (fun i hi => h.byte hi)
  simp only [h1, bind, Except.bind] at hok her
  simp (disch := omega) only [sb_i, sw_ite, ni_le, sw_some, sw_bv]
  by_cases hc : most < w
  · rw [if_neg (by omega)]
    rw [if_pos hc] at her
    exact c29 hX cF_cs (fun z D' hT => ⟨hT.tw, her p z D' rfl hT⟩)
  · rw [if_pos (by omega)]
    rw [if_neg hc] at hok
    exact hok w r rfl
theorem md_two_ok {most p w r : Nat} (hp : md_ok T e p) (h : md_two T e most p = .ok (w, r)) : md_ok T e r ∧ p ≤ r ∧ w ≤ most := by
  unfold md_two at h
  cases h1 : md_num T e 2 0 p with
  | error x => rw [h1] at h; cases h
  | ok a =>
    obtain ⟨v, p1⟩ := a
    simp only [h1, bind, Except.bind] at h
    split at h
    · cases h
    · cases h
      have := md_num_ok hp h1
      exact ⟨this.1, this.2, by omega⟩
theorem md_lets_ok {p : Nat} (hp : md_ok T e p) : md_ok T e (md_lets T e p).2 ∧ p ≤ (md_lets T e p).2 ∧ (∀ j, j < (md_lets T e p).1.length → md_nth (md_lets T e p).1 j = T (p + j) ∧ p + j < e) ∧ ¬ ((md_lets T e p).2 < e ∧ md_lt (T (md_lets T e p).2) = true) := by
  rw [md_lets]
  split
  · next g =>
    have hlt := md_nx_lt (T := T) g.1
    obtain ⟨a1, a2, a3, a4⟩ := md_lets_ok (p := md_nx T e p) hp.nx
    refine ⟨a1, by dsimp only; omega, fun j hj => ?_, a4⟩
    dsimp only at hj ⊢
    cases j with
    | zero => exact ⟨rfl, g.1⟩
    | succ j =>
      rw [List.length_cons] at hj
      have hj2 : j < (md_lets T e (md_nx T e p)).1.length := by omega
      obtain ⟨b1, b2⟩ := a3 j hj2
      have h0 := a3 0 (by omega)
      have hnx : md_nx T e p = p + 1 := by
        unfold md_nx md_go
        rw [if_pos g.1]
        by_cases hc : p + 1 < e ∧ T (p + 1) = ni 13
        · exfalso
          have hnx3 : md_nx T e p = p + 3 := by unfold md_nx md_go; rw [if_pos g.1, if_pos hc]
          have hb := (hp.2.2 (p + 1) (by omega) hc.1 hc.2).2
          have hlet : md_lt (T (p + 3)) = true := by
            have h9 : (md_lets T e (md_nx T e p)).1.length ≠ 0 := by omega
            rw [md_lets] at h9
            split at h9
            · next g2 => rw [hnx3] at g2; exact g2.2
            · exact absurd rfl h9
          have hbl : md_bl (T (p + 3)) = true := hb
          unfold md_bl at hbl
          rw [Bool.or_eq_true, decide_eq_true_eq, decide_eq_true_eq] at hbl
          rcases hbl with z | z <;> (rw [z] at hlet; revert hlet; decide)
        · rw [if_neg hc]
      rw [hnx] at b1 b2
      refine ⟨?_, by omega⟩
      show md_nth (md_lets T e (md_nx T e p)).1 j = _
      rw [hnx, b1]
      congr 1
      omega
  · next g => exact ⟨hp, Nat.le_refl _, fun j hj => absurd hj (Nat.not_lt_zero _), g⟩
termination_by e - p
decreasing_by omega
theorem md_idx_len {a : List Int32} (h : a.length ≠ 3) : ∀ (k : Nat) (l : List Int32), md_idx a k l = none := by
  intro k l
  match l with
  | [] => rfl
  | [_] => rfl
  | [_, _] => rfl
  | x :: y :: z :: ws =>
    unfold md_idx
    rw [if_neg (fun q => h (by rw [q]; rfl))]
    exact md_idx_len h (k + 1) ws
theorem c69 (h : cW C X t T N e D) {p s : Nat} {ws : String} (hs : st C s (md_w ws)) (h3 : (md_w ws).length % 3 = 0) (hp : md_ok T e p)
    (hok : ∀ k r, md_wd T e ws p = .ok (k, r) → 3 * k < (md_w ws).length → Q (.inl (some (.int (ni k)))) (cs X t T e D r pl)) (her : ∀ x z D', md_wd T e ws p = .error x → cT X t D x z D' → Q (.inr z) D') :
    sw (sm_fe C 69 [.ref (X + 8), .ref s] (cs X t T e D p pl)) Q := by
  have hX := h.1.1
  have hN := h.1.2.2.2.1
  have heN := h.2.1
  obtain ⟨w, h1, h2, hs3, hs4, -⟩ := id hs
  have hpe := hp.1
  obtain ⟨lo, ll, la, lz⟩ := md_lets_ok hp
  have hre := lo.1
  have h162 : (∀ z D', cT X t D p z D' → Q (.inr z) D') → sw (sm_fx C 69 162 [.ref (X + 8), sm_junk, .int (ni p), sm_junk, sm_junk, sm_junk, sm_junk, sm_junk] [] (cs X t T e D (md_lets T e p).2 pl)) Q := by
    intro hh
    refine sw_ge (n69_162 hX h1) ?_
    simp only [sw_bv]
    exact c29 hX cF_cs (fun z D' ht => ⟨ht.tw, hh z D' ht⟩)
  unfold md_wd at hok her
  have h43 : sw (sm_fx C 69 43 [.ref (X + 8), .ref s, .int (ni p), .int (ni (md_lets T e p).1.length), sm_junk, sm_junk, sm_junk, sm_junk] [] (cs X t T e D (md_lets T e p).2 pl)) Q := by
    refine sw_ge (n69_43 hX h1) ?_
    simp (disch := omega) only [sw_bi, c42t h.1 (show p < 2147483648 by omega), c42t h.1 (show p + 1 < 2147483648 by omega), c42t h.1 (show p + 2 < 2147483648 by omega), ni_add, sw_some, sb_i, c2]
    have hlen : (md_lets T e p).1.length ≤ e := by
      rcases Nat.eq_zero_or_pos (md_lets T e p).1.length with z | z
      · omega
      · have := (la ((md_lets T e p).1.length - 1) (by omega)).2
        omega
    by_cases hl3 : (md_lets T e p).1.length = 3
    · have e0 : md_lets T e p = ([T p, T (p + 1), T (p + 2)], (md_lets T e p).2) := by
        refine Prod.ext (md_ext (by rw [hl3]; rfl) (fun k hk => ?_)) rfl
        rw [(la k hk).1]
        match k, (show k < 3 by omega) with
        | 0, _ => rfl
        | 1, _ => rfl
        | 2, _ => rfl
      have p2 := (la 2 (by omega)).2
      have elm : (md_lets T e p).1.map md_sm = [md_sm (T p), md_sm (T (p + 1)), md_sm (T (p + 2))] := by rw [e0]; rfl
      rw [elm] at hok her
      rw [if_pos (by omega), if_pos (by omega), if_pos (by omega), hl3]
      have loop : ∀ (m j : Nat), 3 * j + 3 * m = (md_w ws).length → (∀ k, md_idx [md_sm (T p), md_sm (T (p + 1)), md_sm (T (p + 2))] 0 (md_w ws) = some k ↔ md_idx [md_sm (T p), md_sm (T (p + 1)), md_sm (T (p + 2))] j ((md_w ws).drop (3 * j)) = some k) → sw (sm_fx C 69 98 [.ref (X + 8), .ref s, .int (ni p), .int (ni 3), .int (md_sm (T p)), .int (md_sm (T (p + 1))), .int (md_sm (T (p + 2))), .int (ni (3 * j))] [] (cs X t T e D (md_lets T e p).2 pl)) Q := by
        intro m
        induction m with
        | zero =>
          intro j hj heq
          refine sw_ge (n69_98 hX h1) ?_
          simp (disch := omega) only [sw_ite, sw_bi, s260 h1, sw_some, sb_i, ni_add, ni_le, if_true]
          rw [if_pos (by omega)]
          refine h162 (fun z D' ht => her p z D' ?_ ht)
          have : md_idx [md_sm (T p), md_sm (T (p + 1)), md_sm (T (p + 2))] 0 (md_w ws) = none := by
            cases hc : md_idx [md_sm (T p), md_sm (T (p + 1)), md_sm (T (p + 2))] 0 (md_w ws) with
            | none => rfl
            | some k =>
              have := (heq k).mp hc
              rw [List.drop_of_length_le (by omega)] at this
              cases this
          rw [this]
        | succ m ih =>
          intro j hj heq
          have d1 : (md_w ws).drop (3 * j) = (md_w ws)[3 * j] :: (md_w ws)[3 * j + 1] :: (md_w ws)[3 * j + 2] :: (md_w ws).drop (3 * (j + 1)) := by
            rw [List.drop_eq_getElem_cons (by omega), List.drop_eq_getElem_cons (by omega), List.drop_eq_getElem_cons (by omega)]
            rfl
          have hnext : ¬ ((md_w ws)[3 * j] = md_sm (T p) ∧ (md_w ws)[3 * j + 1] = md_sm (T (p + 1)) ∧ (md_w ws)[3 * j + 2] = md_sm (T (p + 2))) → sw (sm_fx C 69 98 [.ref (X + 8), .ref s, .int (ni p), .int (ni 3), .int (md_sm (T p)), .int (md_sm (T (p + 1))), .int (md_sm (T (p + 2))), .int (ni (3 * j + 3))] [] (cs X t T e D (md_lets T e p).2 pl)) Q := by
            intro hne
            refine ih (j + 1) (by omega) (fun k => ?_)
            rw [heq k, d1]
            conv => lhs; unfold md_idx
            rw [if_neg (fun z => hne (by simp only [List.cons.injEq] at z; exact ⟨z.1.symm, z.2.1.symm, z.2.2.1.symm⟩))]
          refine sw_ge (n69_98 hX h1) ?_
          simp (disch := omega) only [sw_ite, sw_bi, s260 h1, sw_some, sb_i, ni_add, ni_le, if_true, s262 hs (show 3 * j < (md_w ws).length by omega), s262 hs (show 3 * j + 1 < (md_w ws).length by omega), s262 hs (show 3 * j + 2 < (md_w ws).length by omega), md_nth_get (show 3 * j < (md_w ws).length by omega), md_nth_get (show 3 * j + 1 < (md_w ws).length by omega), md_nth_get (show 3 * j + 2 < (md_w ws).length by omega), ni_div]
          rw [if_neg (by omega)]
          by_cases c1 : (md_w ws)[3 * j] = md_sm (T p)
          · rw [if_pos c1]
            by_cases c2 : (md_w ws)[3 * j + 1] = md_sm (T (p + 1))
            · rw [if_pos c2]
              by_cases c3 : (md_w ws)[3 * j + 2] = md_sm (T (p + 2))
              · rw [if_pos c3]
                have hidx : md_idx [md_sm (T p), md_sm (T (p + 1)), md_sm (T (p + 2))] 0 (md_w ws) = some j := by
                  rw [heq j, d1]
                  unfold md_idx
                  rw [if_pos (by rw [c1, c2, c3])]
                rw [show 3 * j / 3 = j from by omega]
                exact hok j _ (by rw [hidx]) (by omega)
              · rw [if_neg c3]; exact hnext (fun z => c3 z.2.2)
            · rw [if_neg c2]; exact hnext (fun z => c2 z.2.1)
          · rw [if_neg c1]; exact hnext (fun z => c1 z.1)
      exact loop ((md_w ws).length / 3) 0 (by omega) (fun k => Iff.rfl)
    · have hno : md_idx ((md_lets T e p).1.map md_sm) 0 (md_w ws) = none := md_idx_len (by rw [List.length_map]; exact hl3) 0 _
      rw [hno] at her
      refine sw_ge (n69_98 hX h1) ?_
      simp (disch := omega) only [sw_ite, ni_inj]
      rw [if_neg hl3]
      exact h162 (fun z D' ht => her p z D' rfl ht)
  have hgo : ∀ (m q k : Nat), e - q ≤ m → md_ok T e q → k + (e - q) ≤ 8000 → (md_lets T e p).2 = (md_lets T e q).2 → (md_lets T e p).1.length = k + (md_lets T e q).1.length → sw (sm_fx C 69 10 [.ref (X + 8), .ref s, .int (ni p), .int (ni k), sm_junk, sm_junk, sm_junk, sm_junk] [] (cs X t T e D q pl)) Q := by
    intro m
    induction m with
    | zero =>
      intro q k hm hq hk h5 h6
      have hqe : ¬ q < e := by omega
      have hl : md_lets T e q = ([], q) := by rw [md_lets, dif_neg (fun z => hqe z.1)]
      rw [hl] at h5 h6
      rw [h5] at h43
      rw [h6] at h43
      refine sw_ge (n69_10 hX h1) ?_
      simp (disch := omega) only [sw_ite, ni_le, sw_bi, c5, sw_some, sb_i, cs_4, md_cu_ge hqe, md_b_0]
      have : md_lt (sm_k (-1)) = false := by decide
      rw [if_pos this]
      split <;> exact h43
    | succ m ih =>
      intro q k hm hq hk h5 h6
      by_cases hl : q < e ∧ md_lt (T q) = true
      · have hlt := md_nx_lt (T := T) hl.1
        have e1 : md_lets T e q = (T q :: (md_lets T e (md_nx T e q)).1, (md_lets T e (md_nx T e q)).2) := by rw [md_lets, dif_pos hl]
        rw [e1] at h5 h6
        rw [List.length_cons] at h6
        refine sw_ge (n69_10 hX h1) ?_
        simp (disch := omega) only [sw_ite, ni_le, sw_bi, c5, sw_some, sb_i, cs_4, md_cu_lt hl.1, md_b_0, sw_bv, c31 h hq, sb_v, ni_add]
        rw [if_neg (by omega), if_neg (by rw [hl.2]; exact fun z => nomatch z)]
        exact ih _ (k + 1) (by omega) hq.nx (by omega) h5 (by omega)
      · have e1 : md_lets T e q = ([], q) := by rw [md_lets, dif_neg hl]
        rw [e1] at h5 h6
        rw [h5] at h43
        rw [h6] at h43
        have hf : md_lt (md_cu T e q) = false := by
          by_cases hqe : q < e
          · rw [md_cu_lt hqe]
            cases hb : md_lt (T q)
            · rfl
            · exact absurd ⟨hqe, hb⟩ hl
          · rw [md_cu_ge hqe]; decide
        refine sw_ge (n69_10 hX h1) ?_
        simp (disch := omega) only [sw_ite, ni_le, sw_bi, c5, sw_some, sb_i, cs_4, md_b_0]
        rw [if_pos hf]
        split <;> exact h43
  refine sw_ge (f69 hX h1) ?_
  rw [cs_2]
  exact hgo e p 0 (by omega) hp (by omega) rfl (by omega)
end CDA
