section CWE
variable {C : sm_K} {X t N : Nat} {T T' : Nat → Int32} {D : sm_D} {m : md_M} {pl : List Int32} {σ : Nat → List Int32} {o : List Int32}
theorem x142 (h : WT C X t T' N T m pl σ D) {j : Nat} {u : md_E} (hj : j < m.1.length) (hu : m.1[j]? = some u) : sm_fe C 142 [.ref t, .int (ni j)] D = some (.inl (some (.int (md_bsl j u.2.2.1.2.2))), D) := by
  obtain ⟨hH, p1, p2, p3, p4, hG⟩ := h
  obtain ⟨T0, e, p, eD⟩ := cs_tr (X := X) hH.2.1 p1 p3
  have en := hG.2.2.2.2.1 j u hu
  have := c142 (T0 := T0) (e := e) (p := p) hH hG.1 hG.2.2.1 hj p4 p2 en.2.2.1.2.2.1 en.2.2.1.2.2.2.1 en.2.2.1.2.2.2.2.1
  rw [← eD] at this
  exact this
theorem w118 (h : WT C X t T' N T m pl σ D) {i : Nat} {u : md_E} (hi : i < m.1.length) (hu : m.1[i]? = some u) (hl : o.length + (md_wt i u).length ≤ 20000) : sm_fe C 118 [.ref (X + 20), .ref t, .int (ni i)] (ws X D o) = some (.inl none, ws X D (o ++ md_wt i u)) := by
  have hX := h.1.1
  have hx := h.1.2.2.1
  have tr := (sm_tree_of h.1.1 h.1.2.1).1
  have h40 : m.1.length ≤ 40 := h.2.2.2.2.2.2.2.1
  have en := h.2.2.2.2.2.2.2.2.2.1 i u hu
  have h6 := en.2.2.1.2.2.2.1
  have ht := h.1.2.1
  have g0 : sm_in_b (ni i) 40 = true := by rw [ni_in (by omega)]; exact decide_eq_true (by omega)
  have g1 : (ni i).toNatClampNeg = i := ni_nat (by omega)
  have h8 : ∀ o, (ws X D o).1 (t + 8) i = ni u.2.2.1.2.2.length := fun o => by rw [ws_o (by omega) (by omega)]; exact en.2.2.1.2.2.2.2.1
  have h10 : ∀ o, (ws X D o).1 (t + 10) i = md_b u.2.2.2.2.1 := fun o => by rw [ws_o (by omega) (by omega)]; exact en.2.2.1.2.2.2.2.2
  have lc : md_cr.length = 2 := rfl
  have l40 : (md_w ";\r\n ").length = 4 := rfl
  have l41 : (md_w "=\"").length = 2 := rfl
  have l42 : (md_w "\"").length = 1 := rfl
  have l38 : (md_w "content-type: ").length = 14 := rfl
  have l39 : (md_w "/").length = 1 := rfl
  -- the slot of the boundary
  have hbx : ∀ n, n < u.2.2.1.2.2.length → (ni (480 + 2 * (6 * i + n) + 1) = (if u.2.2.2.2.1 then md_bsl i u.2.2.1.2.2 else sm_k (-1))) = (md_bx u = some n) := by
    intro n hn
    have hneg : ∀ a, a < 2147483648 → ni a ≠ sm_k (-1) := fun a ha z => by
      have := congrArg Int32.toInt z
      rw [ni_toInt ha, show (sm_k (-1)).toInt = -1 from by decide] at this
      omega
    unfold md_bx md_bsl
    cases hmu : u.2.2.2.2.1
    · simp only [Bool.false_eq_true, if_false]
      exact propext ⟨fun z => absurd z (hneg _ (by omega)), fun z => nomatch z⟩
    · simp only [if_true]
      cases hf : u.2.2.1.2.2.findIdx? (fun q => q.1 == md_w "boundary") with
      | none => exact propext ⟨fun z => absurd z (hneg _ (by omega)), fun z => nomatch z⟩
      | some r =>
        have hr : r < u.2.2.1.2.2.length := by
          rw [List.findIdx?_eq_some_iff_findIdx_eq] at hf
          omega
        dsimp only
        rw [ni_inj (by omega) (by omega)]
        refine propext ⟨fun z => ?_, fun z => ?_⟩
        · rw [show r = n by omega]
        · cases z; rfl
  have loop : ∀ (f n : Nat) (o : List Int32), n + f = u.2.2.1.2.2.length → o.length + (md_wp i (md_bx u) n (u.2.2.1.2.2.drop n) ++ md_cr).length ≤ 20000 → sm_fx C 118 54 [.ref (X + 20), .ref t, .int (ni i), .int (if u.2.2.2.2.1 then md_bsl i u.2.2.1.2.2 else sm_k (-1)), .int (ni n)] [] (ws X D o) = some (.inl none, ws X D (o ++ (md_wp i (md_bx u) n (u.2.2.1.2.2.drop n) ++ md_cr))) := by
    intro f
    induction f with
    | zero =>
      intro n o hn ho
      rw [List.drop_of_length_le (by omega)] at ho ⊢
      unfold md_wp at ho ⊢
      rw [List.nil_append] at ho ⊢
      apply sw_eq
      refine sw_ge (n118_54 hX tr) ?_
      rw [sw_gu, g1, h8, sw_ite, if_pos (by rw [ni_le (by omega) (by omega)]; omega), sw_bv, w114 hX ho, sw_some, sb_v, sw_some]
      exact ⟨g0, rfl⟩
    | succ f ih =>
      intro n o hn ho
      have hnl : n < u.2.2.1.2.2.length := by omega
      have ps := en.2.2.1.2.2.1 n _ (List.getElem?_eq_getElem hnl)
      rw [List.drop_eq_getElem_cons hnl] at ho ⊢
      unfold md_wp at ho ⊢
      generalize hq : u.2.2.1.2.2[n] = q at *
      simp only [List.length_append, l40, l41, l42, lc] at ho
      have ps0 : σ (480 + 2 * (6 * i + n) + 0) = q.1 := ps.1
      have e120 : ∀ (o w : List Int32), o.length + 1 + (md_wp i (md_bx u) (n + 1) (u.2.2.1.2.2.drop (n + 1)) ++ md_cr).length ≤ 20000 → o ++ (md_w "\"" ++ (md_wp i (md_bx u) (n + 1) (u.2.2.1.2.2.drop (n + 1)) ++ md_cr)) = w → sm_fx C 118 120 [.ref (X + 20), .ref t, .int (ni i), .int (if u.2.2.2.2.1 then md_bsl i u.2.2.1.2.2 else sm_k (-1)), .int (ni n)] [] (ws X D o) = some (.inl none, ws X D w) := by
        intro o w h1 h2
        apply sw_eq
        refine sw_ge (n118_120 hX tr) ?_
        rw [sw_bv, w112 hX (st42 hx) (by rw [l42]; omega), sw_some, sb_v, ni_add, ih (n + 1) _ (by omega) (by rw [List.length_append, l42]; exact h1), sw_some, List.append_assoc, h2]
      apply sw_eq
      refine sw_ge (n118_54 hX tr) ?_
      rw [sw_gu, g1, h8, sw_ite, if_neg (by rw [ni_le (by omega) (by omega)]; omega)]
      refine ⟨g0, ?_⟩
      rw [sw_bv, w112 hX (st40 hx) (by rw [l40]; omega), sw_some, sb_v, sw_bi, c136, sw_some, sb_i, sw_bv, w116 h (by omega) (by rw [List.length_append, ps0]; omega), sw_some, sb_v, ps0, sw_bv, w112 hX (st41 hx) (by rw [List.length_append, List.length_append, l41]; omega), sw_some, sb_v, sw_bi, c136, sw_some, sb_i]
      simp only [sw_ite, hbx n hnl]
      by_cases hb : md_bx u = some n
      · rw [if_pos hb] at ho ⊢
        rw [if_pos hb, sw_bv, w113 hX hx (by simp only [List.length_append, l40, l41]; omega), sw_some, sb_v, e120 _ _ (by simp only [List.length_append, l40, l41, lc]; omega) rfl, sw_some]
        simp only [List.append_assoc]
      · rw [if_neg hb] at ho ⊢
        rw [if_neg hb, sw_bi, c136, sw_some, sb_i, sw_bv, w119 h (by omega) (by rw [ps.2.1]; simp only [List.length_append, l40, l41]; omega), sw_some, sb_v, ps.2.1, e120 _ _ (by simp only [List.length_append, l40, l41, lc]; omega) rfl, sw_some]
        simp only [List.append_assoc]
  have e50 : ∀ (o : List Int32) (v : Int32), v = (if u.2.2.2.2.1 then md_bsl i u.2.2.1.2.2 else sm_k (-1)) → o.length + (md_wp i (md_bx u) 0 u.2.2.1.2.2 ++ md_cr).length ≤ 20000 → sm_fx C 118 50 [.ref (X + 20), .ref t, .int (ni i), sm_junk, sm_junk] [.int v] (ws X D o) = some (.inl none, ws X D (o ++ (md_wp i (md_bx u) 0 u.2.2.1.2.2 ++ md_cr))) := by
    intro o v hv ho
    apply sw_eq
    refine sw_ge (n118_50 hX tr) ?_
    have := loop u.2.2.1.2.2.length 0 o (by omega)
    rw [List.drop_zero] at this
    rw [hv, this ho, sw_some]
  unfold md_wt at hl ⊢
  have c1 : σ (400 + 2 * i + 0) = u.2.2.1.1 := en.2.2.1.1
  have c2 := en.2.2.1.2.1
  generalize hty : u.2.2.1.1 = ty at *
  generalize hsu : u.2.2.1.2.1 = su at *
  simp only [List.length_append, l38, l39, lc] at hl
  apply sw_eq
  refine sw_ge (f118 hX tr) ?_
  rw [sw_bv, w112 hX (st38 hx) (by rw [l38]; omega), sw_some, sb_v, sw_bi, c133, sw_some, sb_i, sw_bv, w116 h (by omega) (by rw [c1]; simp only [List.length_append, l38]; omega), sw_some, sb_v, c1, sw_bv, w112 hX (st39 hx) (by simp only [List.length_append, l38, l39]; omega), sw_some, sb_v, sw_bi, c133, sw_some, sb_i, sw_bv, w116 h (by omega) (by rw [c2]; simp only [List.length_append, l38, l39]; omega), sw_some, sb_v, c2, sw_gu, g1, h10]
  refine ⟨g0, ?_⟩
  simp only [sw_ite, md_b_0]
  cases hmu : u.2.2.2.2.1
  · rw [if_pos rfl, e50 _ _ (by rw [hmu]; rfl) (by simp only [List.length_append, l38, l39, lc]; omega), sw_some]
    simp only [List.append_assoc]
  · rw [if_neg (fun z => nomatch z), sw_bi, x142 (WT_ws h) hi hu, sw_some, sb_i, e50 _ _ (by rw [hmu]; rfl) (by simp only [List.length_append, l38, l39, lc]; omega), sw_some]
    simp only [List.append_assoc]
end CWE
