section CWG
variable {C : sm_K} {X t N : Nat} {T T' : Nat → Int32} {D : sm_D} {m : md_M} {pl : List Int32} {σ : Nat → List Int32} {o : List Int32}
theorem w115 (h : WT C X t T' N T m pl σ D) {i : Nat} {u : md_E} (hi : i < m.1.length) (hu : m.1[i]? = some u) (hl : o.length + (md_wfs T u.2.1).length ≤ 20000) : sm_fe C 115 [.ref (X + 20), .ref t, .int (ni i)] (ws X D o) = some (.inl none, ws X D (o ++ md_wfs T u.2.1)) := by
  have hX := h.1.1
  have hx := h.1.2.2.1
  have ht := h.1.2.1
  have tr := (sm_tree_of h.1.1 h.1.2.1).1
  have hG := h.2.2.2.2.2
  have h40 : m.1.length ≤ 40 := hG.2.2.1
  have h200 : m.tot ≤ 200 := hG.2.2.2.1
  have en := hG.2.2.2.2.1 i u hu
  have hb : md_tb m.1 i + u.2.1.length ≤ m.tot := md_tb_get hu
  have g0 : sm_in_b (ni i) 40 = true := by rw [ni_in (by omega)]; exact decide_eq_true (by omega)
  have g1 : (ni i).toNatClampNeg = i := ni_nat (by omega)
  have h7 : ∀ o, (ws X D o).1 (t + 7) i = ni u.2.1.length := fun o => by rw [ws_o (by omega) (by omega)]; exact en.2.1.2.1
  have h6 : ∀ o, (ws X D o).1 (t + 6) i = ni (md_tb m.1 i) := fun o => by rw [ws_o (by omega) (by omega)]; exact en.2.1.1
  have lc : md_cr.length = 2 := rfl
  have l37 : (md_w ": ").length = 2 := rfl
  have loop : ∀ (f n : Nat) (o : List Int32), n + f = u.2.1.length → o.length + (md_wfs T (u.2.1.drop n)).length ≤ 20000 → sm_fx C 115 2 [.ref (X + 20), .ref t, .int (ni i), .int (ni n), sm_junk, sm_junk, sm_junk] [] (ws X D o) = some (.inl none, ws X D (o ++ md_wfs T (u.2.1.drop n))) := by
    intro f
    induction f with
    | zero =>
      intro n o hn ho
      rw [List.drop_of_length_le (by omega)] at ho ⊢
      apply sw_eq
      refine sw_ge (n115_2 hX tr) ?_
      rw [sw_gu, g1, h7, sw_ite, if_pos (by rw [ni_le (by omega) (by omega)]; omega), sw_some]
      unfold md_wfs
      rw [List.append_nil]
      exact ⟨g0, rfl⟩
    | succ f ih =>
      intro n o hn ho
      have hnl : n < u.2.1.length := by omega
      have hh := List.getElem?_eq_getElem hnl
      rw [List.drop_eq_getElem_cons hnl] at ho ⊢
      unfold md_wfs at ho ⊢
      generalize u.2.1[n] = q at *
      have ns := en.2.1.2.2.2.2 n q hh
      have kq := (en.2.1.2.2.2.1 n q hh).2
      have ⟨hH, p1, p2, p3, p4, hG'⟩ := WT_ws (o := o) h
      have n0 : σ (2 * (md_tb m.1 i + n) + 0) = md_nM T q := ns.1
      have n1 : σ (2 * (md_tb m.1 i + n) + 1) = md_vl T q := ns.2
      have hz : (md_nM T q).length ≤ 16400 := by rw [← n0]; have := (p4 (2 * (md_tb m.1 i + n) + 0) (by omega)).2.1; omega
      apply sw_eq
      refine sw_ge (n115_2 hX tr) ?_
      rw [sw_gu, g1, h7, sw_ite, if_neg (by rw [ni_le (by omega) (by omega)]; omega)]
      refine ⟨g0, ?_⟩
      have k1 : (ni q.1 = ni 1) = (q.1 = 1) := ni_inj (by omega) (by omega)
      have k2 : (ni q.1 = ni 2) = (q.1 = 2) := ni_inj (by omega) (by omega)
      rw [sw_bi, a129 hH hG' hi hu hnl hh, sw_some, sb_i]
      simp only [sw_ite, k1, k2]
      unfold md_wf at ho ⊢
      by_cases hk : q.1 = 1 ∨ q.1 = 2
      · rw [if_pos hk] at ho ⊢
        rw [List.nil_append] at ho ⊢
        rw [ni_add, ih (n + 1) o (by omega) ho, sw_some]
        rcases hk with hk | hk
        · rw [if_pos hk]
        · rw [if_neg (by omega), if_pos hk]
      · rw [if_neg hk] at ho ⊢
        simp only [List.length_append, lc, l37] at ho
        rw [if_neg (fun z => hk (Or.inl z)), if_neg (fun z => hk (Or.inr z)), sw_gu, h6]
        refine ⟨g0, ?_⟩
        rw [ni_add, sw_bi, c130, sw_some, sb_i, sw_bv, w116 h (by omega) (by rw [n0]; omega), sw_some, sb_v, n0, sw_bv, w112 hX (st37 hx) (by rw [List.length_append, l37]; omega), sw_some, sb_v, sw_bi, c130, sw_some, sb_i, sw_bi]
        have ⟨hH2, q1, q2, q3, q4, hG2⟩ := WT_ws (o := o ++ md_nM T q ++ md_w ": ") h
        rw [a138 hH2 q1 q3 q4 (by omega), sw_some, sb_i, n0, sw_bi, c130, sw_some, sb_i, ni_add, sw_bv, w117 h (by omega) (by omega) (by rw [n1]; simp only [List.length_append, l37]; omega), sw_some, sb_v, n1, sw_bv, w114 hX (by simp only [List.length_append, l37]; omega), sw_some, sb_v, ni_add, ih (n + 1) _ (by omega) (by simp only [List.length_append, l37, lc]; omega), sw_some]
        simp only [List.append_assoc]
  apply sw_eq
  refine sw_ge (f115 hX tr) ?_
  have := loop u.2.1.length 0 o (by omega)
  rw [List.drop_zero] at this
  rw [this hl, sw_some]
theorem md_par_lt {es : List md_E} {j : Nat} (h : j < es.length) (h2 : es.length < 2147483648) : md_par es (ni j) = es[j].1 := by
  unfold md_par
  rw [ac_in_ni h h2]
  dsimp only
  rw [List.getElem?_eq_getElem h]
theorem md_par_ge {es : List md_E} {j : Nat} (h : es.length ≤ j) (h2 : j < 2147483648) : md_par es (ni j) = sm_k (-1) := by
  unfold md_par
  have e : ac_in (ni j) es.length = none := by
    cases hc : ac_in (ni j) es.length with
    | none => rfl
    | some k =>
      have := ac_in_some hc
      rw [ni_inj (by omega) (by omega)] at this
      omega
  rw [e]
theorem x149 (h : WT C X t T' N T m pl σ D) {v : Int32} (hv : ∃ j, j < 2147483648 ∧ v = ni j) : sm_fe C 149 [.ref t, .int v] D = some (.inl (some (.int (md_par m.1 v))), D) := by
  obtain ⟨j, hj, rfl⟩ := hv
  obtain ⟨hH, p1, p2, p3, p4, hG⟩ := h
  have tr := (sm_tree_of hH.1 hH.2.1).1
  have h40 := hG.2.2.1
  by_cases hlt : j < m.1.length
  · rw [md_par_lt hlt (by omega)]
    exact a149 hH hG (List.getElem?_eq_getElem hlt)
  · rw [md_par_ge (by omega) hj]
    apply sw_eq
    refine sw_ge (f149 tr) ?_
    simp (disch := omega) only [sw_bi, c128 tr hG.1 h40 (show j < 2147483648 by omega), sw_some, sb_i, sw_ite, md_b_0]
    rw [decide_eq_false hlt, if_pos rfl]
    trivial
/-- a part's parent comes before it -/
def md_pk (es : List md_E) : Prop := ∀ j u, es[j]? = some u → (j = 0 → u.1 = sm_k (-1)) ∧ (0 < j → ∃ p, p < j ∧ u.1 = ni p)
theorem w123 (h : WT C X t T' N T m pl σ D) (hpk : md_pk m.1) {i : Nat} (hi : i < m.1.length) (hl : o.length + (md_cl m.1 (md_par m.1 (ni (i + 1))) 40 (ni i)).length ≤ 20000) : sm_fe C 123 [.ref (X + 20), .ref t, .int (ni i)] (ws X D o) = some (.inl none, ws X D (o ++ md_cl m.1 (md_par m.1 (ni (i + 1))) 40 (ni i))) := by
  have hX := h.1.1
  have hx := h.1.2.2.1
  have ht := h.1.2.1
  have tr := (sm_tree_of h.1.1 h.1.2.1).1
  have h40 : m.1.length ≤ 40 := h.2.2.2.2.2.2.2.1
  have lc : md_cr.length = 2 := rfl
  have l35 : (md_w "--").length = 2 := rfl
  have loop : ∀ (f c j : Nat) (o : List Int32) (go : Int32), f + c = 40 → j < m.1.length → o.length + (md_cl m.1 go f (ni j)).length ≤ 20000 → sm_fx C 123 14 [.ref (X + 20), .ref t, sm_junk, .int go, .int (ni j), .int (ni c)] [] (ws X D o) = some (.inl none, ws X D (o ++ md_cl m.1 go f (ni j))) := by
    intro f
    induction f with
    | zero =>
      intro c j o go hc hj ho
      apply sw_eq
      refine sw_ge (n123_14 hX tr) ?_
      rw [sw_ite, if_pos (by rw [ni_le (by omega) (by omega)]; omega), sw_some]
      unfold md_cl
      rw [List.append_nil]
    | succ f ih =>
      intro c j o go hc hj ho
      unfold md_cl at ho ⊢
      apply sw_eq
      refine sw_ge (n123_14 hX tr) ?_
      have l1 : (ni j ≤ ni 0) = (j ≤ 0) := ni_le (by omega) (by omega)
      simp only [l1] at ho ⊢
      rw [sw_ite, if_neg (by rw [ni_le (by omega) (by omega)]; omega), sw_ite]
      by_cases hj0 : j ≤ 0
      · rw [if_pos hj0, if_pos hj0, List.append_nil, sw_some]
      · rw [if_neg hj0] at ho ⊢
        rw [if_neg hj0]
        rw [List.length_append, lc] at ho
        rw [sw_bv, w114 hX (by omega), sw_some, sb_v, sw_bi, x149 (WT_ws h) ⟨j, by omega, rfl⟩, sw_some, sb_i]
        have hp : ∃ p, p < j ∧ md_par m.1 (ni j) = ni p := by
          rw [md_par_lt hj (by omega)]
          exact (hpk j _ (List.getElem?_eq_getElem hj)).2 (by omega)
        obtain ⟨p, hp1, hp2⟩ := hp
        rw [hp2] at ho ⊢
        rw [sw_ite]
        by_cases hg : ni p = go
        · rw [if_pos hg, if_pos hg, List.append_nil, sw_some]
        · rw [if_neg hg] at ho ⊢
          rw [if_neg hg]
          simp only [List.length_append, l35] at ho
          rw [sw_bv, w111 hX hx (by simp only [List.length_append, lc]; omega), sw_some, sb_v, sw_bv, w112 hX (st35 hx) (by simp only [List.length_append, lc, l35]; omega), sw_some, sb_v, ni_add, ih (c + 1) p _ go (by omega) (by omega) (by simp only [List.length_append, lc, l35]; omega), sw_some]
          simp only [List.append_assoc]
  apply sw_eq
  refine sw_ge (f123 hX tr) ?_
  rw [ni_add, sw_bi, x149 (WT_ws h) ⟨i + 1, by omega, rfl⟩, sw_some, sb_i, loop 40 0 i o _ (by omega) hi hl, sw_some]
theorem w110 (h : WT C X t T' N T m pl σ D) (hpk : md_pk m.1) (hl : (md_write T m).length ≤ 20000) : sm_fe C 110 [.ref (X + 20), .ref t] D = some (.inl none, ws X D (md_write T m)) := by
  have hX := h.1.1
  have hx := h.1.2.2.1
  have ht := h.1.2.1
  have tr := (sm_tree_of h.1.1 h.1.2.1).1
  have hG := h.2.2.2.2.2
  have h40 : m.1.length ≤ 40 := hG.2.2.1
  have lc : md_cr.length = 2 := rfl
  have l34 : (md_w "content-transfer-encoding: base64\r\n\r\n").length = 37 := rfl
  have h11 : ∀ o, (ws X D o).1 t 11 = ni m.1.length := fun o => by rw [ws_o (by omega) (by omega)]; exact hG.1
  have loop : ∀ (f i : Nat) (o : List Int32), i + f = m.1.length → o.length + (md_wr T m.1 i (m.1.drop i)).length ≤ 20000 → sm_fx C 110 10 [.ref (X + 20), .ref t, .int (ni i)] [] (ws X D o) = some (.inl none, ws X D (o ++ md_wr T m.1 i (m.1.drop i))) := by
    intro f
    induction f with
    | zero =>
      intro i o hi ho
      rw [List.drop_of_length_le (by omega)] at ho ⊢
      apply sw_eq
      refine sw_ge (n110_10 hX tr) ?_
      rw [h11, sw_ite, if_pos (by rw [ni_le (by omega) (by omega)]; omega), sw_some]
      unfold md_wr
      rw [List.append_nil]
    | succ f ih =>
      intro i o hi ho
      have hil : i < m.1.length := by omega
      have hu := List.getElem?_eq_getElem hil
      rw [List.drop_eq_getElem_cons hil] at ho ⊢
      unfold md_wr at ho ⊢
      generalize m.1[i] = u at *
      have en := hG.2.2.2.2.1 i u hu
      have g0 : sm_in_b (ni i) 40 = true := by rw [ni_in (by omega)]; exact decide_eq_true (by omega)
      have g1 : (ni i).toNatClampNeg = i := ni_nat (by omega)
      have h5 : (ws X D o).1 (t + 5) i = u.1 := by rw [ws_o (by omega) (by omega)]; exact en.1
      have h10 : ∀ o, (ws X D o).1 (t + 10) i = md_b u.2.2.2.2.1 := fun o => by rw [ws_o (by omega) (by omega)]; exact en.2.2.1.2.2.2.2.2
      have oc : σ (1020 + i) = u.2.2.2.2.2 := en.2.2.2.2
      have e42 : ∀ (o w : List Int32), (w = md_wfs T u.2.1 ++ (md_wt i u ++ ((if u.2.2.2.2.1 then md_cr else md_w "content-transfer-encoding: base64\r\n\r\n" ++ (md_co u.2.2.2.2.2 u.2.2.2.2.2.length 0 0 ++ md_cl m.1 (md_par m.1 (ni (i + 1))) 40 (ni i))) ++ md_wr T m.1 (i + 1) (m.1.drop (i + 1))))) → o.length + w.length ≤ 20000 → sm_fx C 110 42 [.ref (X + 20), .ref t, .int (ni i)] [] (ws X D o) = some (.inl none, ws X D (o ++ w)) := by
        intro o w hw ho
        subst hw
        simp only [List.length_append] at ho
        apply sw_eq
        refine sw_ge (n110_42 hX tr) ?_
        rw [sw_bv, w115 h hil hu (by omega), sw_some, sb_v, sw_bv, w118 h hil hu (by simp only [List.length_append]; omega), sw_some, sb_v, sw_gu, g1, h10]
        refine ⟨g0, ?_⟩
        simp only [sw_ite, md_b_0]
        cases hmu : u.2.2.2.2.1
        · rw [hmu] at ho
          simp only [Bool.false_eq_true, if_false, List.length_append, l34] at ho
          rw [if_pos rfl, sw_bv, w112 hX (st34 hx) (by simp only [List.length_append, l34]; omega), sw_some, sb_v, sw_bi, c147, sw_some, sb_i, sw_bv, w120 h (by omega) (by rw [oc]; simp only [List.length_append, l34]; omega), sw_some, sb_v, oc, sw_bv, w123 h hpk hil (by simp only [List.length_append, l34]; omega), sw_some, sb_v, ni_add, ih (i + 1) _ (by omega) (by simp only [List.length_append, l34]; omega), sw_some]
          simp only [Bool.false_eq_true, if_false, List.append_assoc]
        · rw [hmu] at ho
          simp only [if_true, lc] at ho
          rw [if_neg (fun z => nomatch z), sw_bv, w114 hX (by simp only [List.length_append]; omega), sw_some, sb_v, ni_add, ih (i + 1) _ (by omega) (by simp only [List.length_append, lc]; omega), sw_some]
          simp only [if_true, List.append_assoc]
      apply sw_eq
      refine sw_ge (n110_10 hX tr) ?_
      have l1 : (ni i ≤ ni 0) = (i ≤ 0) := ni_le (by omega) (by omega)
      rw [h11, sw_ite, if_neg (by rw [ni_le (by omega) (by omega)]; omega), sw_ite, if_neg (by rw [ni_le (by omega) (by omega)]; omega)]
      simp only [sw_ite, l1]
      unfold md_we at ho ⊢
      by_cases hi0 : i = 0
      · rw [if_pos hi0] at ho ⊢
        rw [List.nil_append, List.append_assoc, List.append_assoc] at ho ⊢
        rw [if_pos (by omega), e42 o _ rfl ho, sw_some]
      · rw [if_neg hi0] at ho ⊢
        simp only [List.append_assoc] at ho ⊢
        have ho' := ho
        rw [List.length_append, List.length_append, lc] at ho'
        rw [if_neg (by omega), sw_gu, g1, h5, sw_bv, w111 hX hx (by omega), sw_some, sb_v, sw_bv, w114 hX (by rw [List.length_append]; omega), sw_some, sb_v, e42 _ _ rfl (by rw [List.length_append, List.length_append, lc]; omega), sw_some]
        simp only [List.append_assoc]
        exact ⟨g0, trivial⟩
  have e0 : sm_dI D (X + 21) 1 (ni 0) = ws X D [] := by
    refine Prod.ext ?_ rfl
    funext a i
    simp only [ws, sm_up]
    by_cases ha : a = X + 21
    · by_cases hi : i = 1 <;> simp [ha, hi]
    · by_cases hb : a = X + 22 <;> simp [ha, hb]
  apply sw_eq
  refine sw_ge (f110 hX tr) ?_
  have := loop m.1.length 0 [] (by omega)
  rw [List.drop_zero] at this
  rw [e0]
  show sw (sm_fx C 110 10 _ _ _) _
  rw [this (by rw [List.length_nil, Nat.zero_add]; exact hl), sw_some, List.nil_append]
  rfl
end CWG
