section CPC
variable {C : sm_K} {X t N e p : Nat} {T T0 : Nat → Int32} {pl : List Int32} {Q : (Option Value ⊕ Nat) → sm_D → Prop}
theorem cQ.trans {D E F : sm_D} (h : cQ X D E) (g : cQ X E F) : cQ X D F := ⟨g.1.trans h.1, fun a j ha => (g.2 a j ha).trans (h.2 a j ha)⟩
theorem STK_pop {D : sm_D} {o : md_O} {st : List md_O} (h : STK X D (o :: st)) : STK X (sm_dI D (X + 14) 6 (ni st.length)) st := by
  refine ⟨dI_eq, fun j o' hj => ?_⟩
  have hlt : j < st.length := by
    rcases Nat.lt_or_ge j st.length with h1 | h1
    · exact h1
    · rw [List.getElem?_eq_none (by rw [List.length_reverse]; exact h1)] at hj; cases hj
  have := h.2 j o' (by rw [List.reverse_cons, List.getElem?_append_left (by rw [List.length_reverse]; exact hlt)]; exact hj)
  rw [dI_ne (by omega), dI_ne (by omega), dI_ne (by omega), dI_ne (by omega), dI_ne (by omega)]
  exact this
theorem c108 {f g : Nat → Int32} {σ : Nat → List Int32} {n : Nat} {V : Nat → List Int32} {D0 : sm_D} (hn40 : n ≤ 40) (hS : SL f g pl σ) (hl : pl.length ≤ 16400) : ∀ (st : List md_O) (D : sm_D), cH C X t T N D → cQ X D0 D → STK X D st → st.length ≤ 6 → D.1 t 11 = ni n →
    (∀ o ∈ st, o.1 < n ∧ o.2.1 ≤ N ∧ 2 ≤ o.2.2.2.1 ∧ o.2.2.2.1 ≤ o.2.1 ∧ o.2.2.1 < 2147483648 ∧ ∃ ps, PS o.1 ps σ ∧ ps.length ≤ 6 ∧ D.1 (t + 8) o.1 = ni ps.length ∧ md_bv ps = some (V o.1)) →
    (st.dropWhile (fun o => o.2.2.2.2) = [] → ∀ D', cQ X D0 D' → Q (.inl (some (.int (md_b false)))) (cs X t T0 e (ts t D' f g) p pl)) →
    (∀ o r d, st.dropWhile (fun o => o.2.2.2.2) = o :: r → n < 40 → md_del T (V o.1) o.2.1 o.2.2.2.1 = some d → ∀ D', STK X D' ((o.1, o.2.1, d) :: r) → cQ X D0 D' → D'.1 (X + 14) 7 = ni o.1 → D'.1 (X + 14) 8 = ni o.2.2.2.1 → D'.1 (X + 14) 9 = ni (max o.2.2.2.1 (d.1 - 2)) → Q (.inl (some (.int (md_b true)))) (cs X t T0 e (ts t D' f g) p pl)) →
    (∀ x z D', (∃ o r, st.dropWhile (fun o => o.2.2.2.2) = o :: r ∧ ((40 ≤ n ∧ x = o.2.2.1) ∨ (n < 40 ∧ md_del T (V o.1) o.2.1 o.2.2.2.1 = none ∧ x = o.2.1))) → cT X t D0 x z D' → Q (.inr z) D') →
    sw (sm_fx C 108 0 [.ref (X + 14), .ref t, sm_junk] [] (cs X t T0 e (ts t D f g) p pl)) Q := by
  intro st
  induction st with
  | nil =>
    intro D h hq hst hlen hn hE hend hok her
    have ht := h.2.1
    have hX := h.1
    have tr := (sm_tree_of hX ht).1
    have e6 : (cs X t T0 e (ts t D f g) p pl).1 (X + 14) 6 = ni 0 := by rw [cs_o (by omega) (by omega) (by omega), ts_o (by omega) (by omega), hst.1]; rfl
    refine sw_ge (n108_0 hX tr) ?_
    simp (disch := omega) only [sw_ite, e6, ni_le]
    rw [if_pos (Nat.le_refl _)]
    refine sw_ge (n108_43 hX tr) ?_
    simp only [sw_ite, e6, sw_some, nar_b0]
    rw [if_pos (by decide)]
    exact hend rfl D hq
  | cons o st ih =>
    intro D h hq hst hlen hn hE hend hok her
    rw [List.length_cons] at hlen
    have ht := h.2.1
    have hX := h.1
    have tr := (sm_tree_of hX ht).1
    have hN := h.2.2.2.1
    have r : ∀ {D : sm_D} (a j), a ≠ X + 1 → a ≠ t + 1 → a ≠ t + 2 → a ≠ t + 3 → a ≠ t + 4 → (cs X t T0 e (ts t D f g) p pl).1 a j = D.1 a j := fun a j h1 h2 h3 h4 h5 => by
      rw [cs_o h1 h2 h3, ts_o h4 h5]
    have e6 : (cs X t T0 e (ts t D f g) p pl).1 (X + 14) 6 = ni (st.length + 1) := by rw [r _ _ (by omega) (by omega) (by omega) (by omega) (by omega), hst.1]; rfl
    obtain ⟨t1, t2, t3, t4, t5⟩ := STK_top hst
    have e19 : (cs X t T0 e (ts t D f g) p pl).1 (X + 19) st.length = md_b o.2.2.2.2 := by rw [r _ _ (by omega) (by omega) (by omega) (by omega) (by omega), t5]
    obtain ⟨o1, o2, o3, o4, o5, ps, p1, p2, p3, p4⟩ := hE o List.mem_cons_self
    refine sw_ge (n108_0 hX tr) ?_
    simp (disch := omega) only [sw_ite, e6, ni_le, ni_lt, sw_gu, ni_sub (show 1 ≤ st.length + 1 by omega), Nat.add_sub_cancel, ni_in, ni_nat, e19, md_b_0]
    rw [if_neg (by omega), if_neg (by omega)]
    refine ⟨decide_eq_true (by omega), ?_⟩
    cases hc : o.2.2.2.2
    · rw [if_pos rfl]
      have hdw : (o :: st).dropWhile (fun o => o.2.2.2.2) = o :: st := by
        rw [List.dropWhile_cons, hc]; rfl
      refine sw_ge (n108_43 hX tr) ?_
      simp (disch := omega) only [sw_ite, e6, ni_lt, ni_sub (show 1 ≤ st.length + 1 by omega), Nat.add_sub_cancel, sw_some, sw_gu, ni_in, ni_nat, sw_bv]
      rw [if_neg (by omega), if_pos (by omega), r t 11 (by omega) (by omega) (by omega) (by omega) (by omega), hn, r (X + 17) st.length (by omega) (by omega) (by omega) (by omega) (by omega), t3]
      by_cases h40 : n < 40
      · rw [if_pos (by rw [ni_lt (by omega) (by omega)]; exact h40)]
        refine sw_ge (n108_84 hX tr) ?_
        have e8 : sm_up (cs X t T0 e (ts t D f g) p pl).1 (X + 14) 7 (ni o.1) (X + 18) st.length = ni o.2.2.2.1 := by rw [up_ne (by omega), r _ _ (by omega) (by omega) (by omega) (by omega) (by omega), t4]
        have e15 : (cs X t T0 e (ts t D f g) p pl).1 (X + 15) st.length = ni o.1 := by rw [r _ _ (by omega) (by omega) (by omega) (by omega) (by omega), t1]
        simp (disch := omega) only [sw_gu, ni_in, ni_nat, e15, e8, up_eq, sw_bv]
        refine ⟨decide_eq_true (by omega), decide_eq_true (by omega), ?_⟩
        rw [dI_cs (by omega) (by omega) (by omega), dI_ts (by omega) (by omega), dI_cs (by omega) (by omega) (by omega), dI_ts (by omega) (by omega)]
        have q2 : cQ X D (sm_dI (sm_dI D (X + 14) 7 (ni o.1)) (X + 14) 8 (ni o.2.2.2.1)) := ((cQ.refl X D).dI (by omega)).dI (by omega)
        refine c104 (q2.cH h) (show st.length < 6 by omega) (i := o.1) (b := o.2.1) (by rw [dI_ne (by omega), dI_ne (by omega), t1]) (by rw [dI_ne (by omega), dI_ne (by omega), t2]) (by rw [q2.2 _ _ (by omega), hn]) hn40 o1 hS hl p1 p2 (by rw [q2.2 _ _ (by omega), p3]) p4 o2 (by omega) (fun d hd => ?_) (fun hd z D' hT => ⟨hT.tw, her o.2.1 z D' ⟨o, st, hdw, Or.inr ⟨h40, hd, rfl⟩⟩ ((hT.of q2.cF).of hq.cF)⟩)
        have hdo := md_del_ok hd
        have q5 := ((q2.dI (a := X + 17) (i := st.length) (v := ni d.1) (by omega)).dI (a := X + 18) (i := st.length) (v := ni d.2.1) (by omega)).dI (a := X + 19) (i := st.length) (v := md_b d.2.2) (by omega)
        have e8b : (cs X t T0 e (ts t (sm_dI (sm_dI (sm_dI (sm_dI (sm_dI D (X + 14) 7 (ni o.1)) (X + 14) 8 (ni o.2.2.2.1)) (X + 17) st.length (ni d.1)) (X + 18) st.length (ni d.2.1)) (X + 19) st.length (md_b d.2.2)) f g) p pl).1 (X + 14) 8 = ni o.2.2.2.1 := by
          rw [r _ _ (by omega) (by omega) (by omega) (by omega) (by omega), dI_ne (by omega), dI_ne (by omega), dI_ne (by omega), dI_eq]
        have e17 : (cs X t T0 e (ts t (sm_dI (sm_dI (sm_dI (sm_dI (sm_dI D (X + 14) 7 (ni o.1)) (X + 14) 8 (ni o.2.2.2.1)) (X + 17) st.length (ni d.1)) (X + 18) st.length (ni d.2.1)) (X + 19) st.length (md_b d.2.2)) f g) p pl).1 (X + 17) st.length = ni d.1 := by
          rw [r _ _ (by omega) (by omega) (by omega) (by omega) (by omega), dI_ne (by omega), dI_ne (by omega), dI_eq]
        simp (disch := omega) only [sb_v, sw_gu, sw_bi, e8b, e17, ni_sub (show 2 ≤ d.1 by omega), c283, sw_some, sb_i, nar_b1]
        refine ⟨decide_eq_true (by omega), ?_⟩
        rw [dI_cs (by omega) (by omega) (by omega), dI_ts (by omega) (by omega)]
        refine hok o st d hdw h40 hd _ (STK_new (D := D) (fun j o' hj => ?_) ?_ (fun a j h1 h2 hj => ?_) ⟨?_, ?_, ?_, ?_, ?_⟩) (hq.trans (q5.dI (by omega))) ?_ ?_ dI_eq
        · have hlt : j < st.length := by
            rcases Nat.lt_or_ge j st.length with h1 | h1
            · exact h1
            · rw [List.getElem?_eq_none (by rw [List.length_reverse]; exact h1)] at hj; cases hj
          exact hst.2 j o' (by rw [List.reverse_cons, List.getElem?_append_left (by rw [List.length_reverse]; exact hlt)]; exact hj)
        · rw [dI_ne (by omega), dI_ne (by omega), dI_ne (by omega), dI_ne (by omega), dI_ne (by omega), dI_ne (by omega), hst.1]; rfl
        · rw [dI_ne (by omega), dI_ne (by omega), dI_ne (by omega), dI_ne (by omega), dI_ne (by omega), dI_ne (by omega)]
        · rw [dI_ne (by omega), dI_ne (by omega), dI_ne (by omega), dI_ne (by omega), dI_ne (by omega), dI_ne (by omega), t1]
        · rw [dI_ne (by omega), dI_ne (by omega), dI_ne (by omega), dI_ne (by omega), dI_ne (by omega), dI_ne (by omega), t2]
        · rw [dI_ne (by omega), dI_ne (by omega), dI_ne (by omega), dI_eq]
        · rw [dI_ne (by omega), dI_ne (by omega), dI_eq]
        · rw [dI_ne (by omega), dI_eq]
        · rw [dI_ne (by omega), dI_ne (by omega), dI_ne (by omega), dI_ne (by omega), dI_ne (by omega), dI_eq]
        · rw [dI_ne (by omega), dI_ne (by omega), dI_ne (by omega), dI_ne (by omega), dI_eq]
      · rw [if_neg (by rw [ni_lt (by omega) (by omega)]; exact h40)]
        refine ⟨decide_eq_true (by omega), ?_⟩
        exact c29 hX ((hq.cF.trans cF_ts).trans cF_cs) (fun z D' hT => ⟨hT.tw, her _ z D' ⟨o, st, hdw, Or.inl ⟨by omega, rfl⟩⟩ hT⟩)
    · rw [if_neg (fun z => nomatch z)]
      have hdw : (o :: st).dropWhile (fun o => o.2.2.2.2) = st.dropWhile (fun o => o.2.2.2.2) := by
        rw [List.dropWhile_cons, hc]; rfl
      rw [hdw] at hend
      rw [dI_cs (by omega) (by omega) (by omega), dI_ts (by omega) (by omega)]
      have q1 : cQ X D (sm_dI D (X + 14) 6 (ni st.length)) := (cQ.refl X D).dI (by omega)
      refine ih _ (q1.cH h) (hq.trans q1) (STK_pop hst) (by omega) (by rw [q1.2 _ _ (by omega), hn]) (fun o' ho' => ?_) hend (fun o' r' d' h1 => hok o' r' d' (hdw.trans h1)) (fun x z D' ⟨o', r', h1, h2⟩ => her x z D' ⟨o', r', hdw.trans h1, h2⟩)
      obtain ⟨a1, a2, a3, a4, a5, ps', b1, b2, b3, b4⟩ := hE o' (List.mem_cons_of_mem _ ho')
      exact ⟨a1, a2, a3, a4, a5, ps', b1, b2, by rw [q1.2 _ _ (by omega)]; exact b3, b4⟩
end CPC
