section CWS
variable {C : sm_K} {X t N : Nat} {T T' : Nat → Int32} {D : sm_D} {m : md_M} {pl : List Int32} {σ : Nat → List Int32} {o : List Int32}
theorem len1 {c : Int32} : (o ++ [c]).length = o.length + 1 := by rw [List.length_append]; rfl
theorem st35 (h : tx C) : st C (C.1.1 35) (md_w "--") := st_tx h 35 rfl rfl (by decide) (by decide)
theorem st36 (h : tx C) : st C (C.1.1 36) (md_w "part") := st_tx h 36 rfl rfl (by decide) (by decide)
theorem st37 (h : tx C) : st C (C.1.1 37) (md_w ": ") := st_tx h 37 rfl rfl (by decide) (by decide)
theorem st38 (h : tx C) : st C (C.1.1 38) (md_w "content-type: ") := st_tx h 38 rfl rfl (by decide) (by decide)
theorem st39 (h : tx C) : st C (C.1.1 39) (md_w "/") := st_tx h 39 rfl rfl (by decide) (by decide)
theorem st40 (h : tx C) : st C (C.1.1 40) (md_w ";\r\n ") := st_tx h 40 rfl rfl (by decide) (by decide)
theorem st41 (h : tx C) : st C (C.1.1 41) (md_w "=\"") := st_tx h 41 rfl rfl (by decide) (by decide)
theorem st42 (h : tx C) : st C (C.1.1 42) (md_w "\"") := st_tx h 42 rfl rfl (by decide) (by decide)
theorem st34 (h : tx C) : st C (C.1.1 34) (md_w "content-transfer-encoding: base64\r\n\r\n") := st_tx h 34 rfl rfl (by decide) (by decide)
theorem st43 (h : tx C) : st C (C.1.1 43) (md_w "ABCDEFGHIJKLMNOPQRSTUVWXYZabcdefghijklmnopqrstuvwxyz0123456789+/") := st_tx h 43 rfl rfl (by decide) (by decide)
theorem w113 (hX : sm_Lay C X) (hx : tx C) {v : Int32} (hl : o.length + (md_pn v).length ≤ 20000) : sm_fe C 113 [.ref (X + 20), .int v] (ws X D o) = some (.inl none, ws X D (o ++ md_pn v)) := by
  have fin : ∀ o : List Int32, o.length < 20000 → sm_fx C 113 26 [.ref (X + 20), .int v] [] (ws X D o) = some (.inl none, ws X D (o ++ [ni 48 + (v - v / ni 10 * ni 10)])) := by
    intro o ho
    apply sw_eq
    refine sw_ge (n113_26 hX) ?_
    rw [sw_bv, w44 hX ho, sw_some, sb_v, sw_some]
  have h4 : (md_w "part").length = 4 := rfl
  apply sw_eq
  refine sw_ge (f113 hX) ?_
  unfold md_pn md_nu at hl ⊢
  by_cases hv : v < ni 10
  · rw [if_pos hv] at hl ⊢
    simp only [List.length_append, List.length_cons, List.length_nil, h4] at hl
    rw [sw_bv, w112 hX (st36 hx) (by rw [h4]; omega), sw_some, sb_v, sw_ite, if_pos hv, fin _ (by rw [List.length_append, h4]; omega), sw_some, List.append_assoc]
    rfl
  · rw [if_neg hv] at hl ⊢
    simp only [List.length_append, List.length_cons, List.length_nil, h4] at hl
    rw [sw_bv, w112 hX (st36 hx) (by rw [h4]; omega), sw_some, sb_v, sw_ite, if_neg hv, sw_bv, w44 hX (by rw [List.length_append, h4]; omega), sw_some, sb_v, fin _ (by rw [len1, List.length_append, h4]; omega), sw_some, List.append_assoc, List.append_assoc]
theorem w111 (hX : sm_Lay C X) (hx : tx C) {v : Int32} (hl : o.length + (md_dl v).length ≤ 20000) : sm_fe C 111 [.ref (X + 20), .int v] (ws X D o) = some (.inl none, ws X D (o ++ md_dl v)) := by
  unfold md_dl at hl ⊢
  rw [List.length_append] at hl
  apply sw_eq
  refine sw_ge (f111 hX) ?_
  rw [sw_bv, w112 hX (st35 hx) (by omega), sw_some, sb_v, sw_bv, w113 hX hx (by rw [List.length_append]; omega), sw_some, sb_v, sw_some, List.append_assoc]
theorem w116 (h : WT C X t T' N T m pl σ D) {k : Nat} (hk : k < 1061) (hl : o.length + (σ k).length ≤ 20000) : sm_fe C 116 [.ref (X + 20), .ref t, .int (ni k)] (ws X D o) = some (.inl none, ws X D (o ++ σ k)) := by
  have hX := h.1.1
  have tr := (sm_tree_of h.1.1 h.1.2.1).1
  have h16 := (h.2.2.2.2.1 k hk).2.1
  have hp := h.2.2.1
  have loop : ∀ (n j : Nat) (o : List Int32), j + n = (σ k).length → o.length + n ≤ 20000 → sm_fx C 116 2 [.ref (X + 20), .ref t, .int (ni k), .int (ni j)] [] (ws X D o) = some (.inl none, ws X D (o ++ (σ k).drop j)) := by
    intro n
    induction n with
    | zero =>
      intro j o hj ho
      have ⟨hH, p1, p2, p3, p4, hG⟩ := WT_ws (o := o) h
      apply sw_eq
      refine sw_ge (n116_2 hX tr) ?_
      simp (disch := omega) only [sw_bi, a138 hH p1 p3 p4 hk, sw_some, sb_i, sw_ite, ni_le]
      rw [if_pos (by omega), List.drop_of_length_le (by omega), List.append_nil]
    | succ n ih =>
      intro j o hj ho
      have ⟨hH, p1, p2, p3, p4, hG⟩ := WT_ws (o := o) h
      have hkl : j < (σ k).length := by omega
      apply sw_eq
      refine sw_ge (n116_2 hX tr) ?_
      simp (disch := omega) only [sw_bi, a138 hH p1 p3 p4 hk, a139 hH p1 p2 p3 p4 hk hkl, sw_some, sb_i, sw_ite, ni_le, sw_bv, w44 hX (show o.length < 20000 by omega), sb_v, ni_add]
      rw [if_neg (by omega), ih (j + 1) _ (by omega) (by rw [len1]; omega), sw_some, drop_c hkl, List.append_assoc]
      rfl
  apply sw_eq
  refine sw_ge (f116 hX tr) ?_
  rw [loop (σ k).length 0 o (by omega) hl, sw_some, List.drop_zero]
theorem w119 (h : WT C X t T' N T m pl σ D) {k : Nat} (hk : k < 1061) (hl : o.length + (md_es (σ k)).length ≤ 20000) : sm_fe C 119 [.ref (X + 20), .ref t, .int (ni k)] (ws X D o) = some (.inl none, ws X D (o ++ md_es (σ k))) := by
  have hX := h.1.1
  have tr := (sm_tree_of h.1.1 h.1.2.1).1
  have h16 := (h.2.2.2.2.1 k hk).2.1
  have hp := h.2.2.1
  have loop : ∀ (n j : Nat) (o : List Int32), j + n = (σ k).length → o.length + (md_es ((σ k).drop j)).length ≤ 20000 → sm_fx C 119 2 [.ref (X + 20), .ref t, .int (ni k), .int (ni j), sm_junk] [] (ws X D o) = some (.inl none, ws X D (o ++ md_es ((σ k).drop j))) := by
    intro n
    induction n with
    | zero =>
      intro j o hj ho
      have ⟨hH, p1, p2, p3, p4, hG⟩ := WT_ws (o := o) h
      apply sw_eq
      refine sw_ge (n119_2 hX tr) ?_
      simp (disch := omega) only [sw_bi, a138 hH p1 p3 p4 hk, sw_some, sb_i, sw_ite, ni_le]
      rw [if_pos (by omega), List.drop_of_length_le (by omega)]
      unfold md_es
      rw [List.append_nil]
    | succ n ih =>
      intro j o hj ho
      have ⟨hH, p1, p2, p3, p4, hG⟩ := WT_ws (o := o) h
      have hkl : j < (σ k).length := by omega
      rw [drop_c hkl] at ho ⊢
      unfold md_es at ho ⊢
      have e42 : ∀ (o : List Int32) (w : List Int32), o.length < 20000 → o.length + 1 + (md_es ((σ k).drop (j + 1))).length ≤ 20000 → o ++ ([md_nth (σ k) j] ++ md_es ((σ k).drop (j + 1))) = w → sm_fx C 119 42 [.ref (X + 20), .ref t, .int (ni k), .int (ni j), .int (md_nth (σ k) j)] [] (ws X D o) = some (.inl none, ws X D w) := by
        intro o w h1 h2 h3
        apply sw_eq
        refine sw_ge (n119_42 hX tr) ?_
        rw [sw_bv, w44 hX h1, sw_some, sb_v, ni_add, ih (j + 1) _ (by omega) (by rw [len1]; exact h2), sw_some, List.append_assoc, h3]
      apply sw_eq
      refine sw_ge (n119_2 hX tr) ?_
      simp (disch := omega) only [sw_bi, a138 hH p1 p3 p4 hk, a139 hH p1 p2 p3 p4 hk hkl, sw_some, sb_i, sw_ite, ni_le]
      rw [if_neg (by omega)]
      by_cases hc : md_nth (σ k) j = ni 34 ∨ md_nth (σ k) j = ni 92
      · have e33 : sm_fx C 119 33 [.ref (X + 20), .ref t, .int (ni k), .int (ni j), .int (md_nth (σ k) j)] [] (ws X D o) = some (.inl none, ws X D (o ++ ([ni 92, md_nth (σ k) j] ++ md_es ((σ k).drop (j + 1))))) := by
          rw [if_pos hc, List.length_append] at ho
          have h2 : [ni 92, md_nth (σ k) j].length = 2 := rfl
          apply sw_eq
          refine sw_ge (n119_33 hX tr) ?_
          rw [sw_bv, w44 hX (by omega), sw_some, sb_v, e42 _ _ (by rw [len1]; omega) (by rw [len1]; omega) rfl, sw_some, List.append_assoc]
          rfl
        rw [if_pos hc, e33, sw_some]
        rcases hc with hc | hc
        · rw [if_pos hc]
        · rw [if_neg (by rw [hc]; decide), if_pos hc]
      · rw [if_neg hc, List.length_append] at ho
        have h1 : [md_nth (σ k) j].length = 1 := rfl
        rw [if_neg hc, if_neg (fun z => hc (Or.inl z)), if_neg (fun z => hc (Or.inr z)), e42 o _ (by omega) (by omega) rfl, sw_some]
  apply sw_eq
  refine sw_ge (f119 hX tr) ?_
  have := loop (σ k).length 0 o (by omega)
  rw [List.drop_zero] at this
  rw [this hl, sw_some]
end CWS
