/-- a multipart's boundary is a good one -/
def HBm (m : md_M) : Prop := ∀ u ∈ m.1, u.2.2.2.2.1 = true → ∃ v, md_bv u.2.2.1.2.2 = some v ∧ md_rb v = true
def md_cte : List Int32 := md_w "content-transfer-encoding: base64\r\n\r\n"
section RHS
variable {C : sm_K} {X N : Nat} {T : Nat → Int32} {D E : sm_D} {Q : (Option Value ⊕ Nat) → sm_D → Prop} {m : md_M} {o l : List Int32}
theorem md_bo_idx : ∀ {k : Nat} {ps : List (List Int32 × List Int32)} {v : List Int32}, md_bv ps = some v → md_rb v = true → ∃ i, i < ps.length ∧ ps.findIdx? (fun q => q.1 == md_w "boundary") = some i ∧ md_bo k ps = ni (k + i) := by
  intro k ps
  induction ps generalizing k with
  | nil => intro v h; cases h
  | cons w ps ih =>
    intro v h hr
    unfold md_bo
    rw [List.findIdx?_cons]
    by_cases hw : w.1 = md_w "boundary"
    · have e1 : md_bv (w :: ps) = some w.2 := by
        unfold md_bv
        rw [List.find?_cons, beq_iff_eq.mpr hw]
        rfl
      rw [e1] at h
      cases h
      rw [if_pos hw, if_pos hr, if_pos (beq_iff_eq.mpr hw)]
      exact ⟨0, by rw [List.length_cons]; omega, rfl, rfl⟩
    · have e1 : md_bv (w :: ps) = md_bv ps := by
        unfold md_bv
        rw [List.find?_cons, beq_false_of_ne hw]
      rw [e1] at h
      rw [if_neg hw, if_neg (by rw [beq_false_of_ne hw]; exact Bool.false_ne_true)]
      obtain ⟨i, h0, h1, h2⟩ := ih (k := k + 1) h hr
      exact ⟨i + 1, by rw [List.length_cons]; omega, by rw [h1]; rfl, by rw [h2, show k + 1 + i = k + (i + 1) from by omega]⟩
/-- a value between quotes -/
theorem r253_213 (hX : sm_Lay C X) {j n c : Nat} {v2 : Int32} {xs : List Int32} (hn : n < 240) (h68 : D.1 (X + 68) n = ni c) (h69 : D.1 (X + 69) n = ni xs.length) (hc : c + xs.length ≤ 24000) (hx : ∀ k, k < xs.length → D.1 (X + 63) (c + k) = md_nth xs k) : ∀ (r k : Nat) (o : List Int32), k + r = xs.length → o.length + (md_es (xs.drop k)).length ≤ 60000 → sw (sm_fx C 253 272 [.ref (X + 49), .int (ni j), .int v2, .int (ni n), sm_junk, sm_junk] [] (os X D (o ++ md_es (xs.drop k)))) Q → sw (sm_fx C 253 213 [.ref (X + 49), .int (ni j), .int v2, .int (ni n), .int (ni k), sm_junk] [] (os X D o)) Q := by
  have e69 : ∀ o : List Int32, (os X D o).1 (X + 69) n = ni xs.length := fun o => by rw [os_o (by omega) (by omega)]; exact h69
  have e68 : ∀ o : List Int32, (os X D o).1 (X + 68) n = ni c := fun o => by rw [os_o (by omega) (by omega)]; exact h68
  intro r
  induction r with
  | zero =>
    intro k o hk ho hq
    refine sw_ge (n253_213 hX) ?_
    simp (disch := omega) only [sw_gu, ni_in, ni_nat, e69, sw_ite, ni_le]
    rw [if_pos (by omega)]
    rw [List.drop_of_length_le (by omega), md_es, List.append_nil] at hq
    exact ⟨decide_eq_true hn, hq⟩
  | succ r ih =>
    intro k o hk ho hq
    have hkl : k < xs.length := by omega
    have e63 : (os X D o).1 (X + 63) (c + k) = md_nth xs k := by rw [os_o (by omega) (by omega)]; exact hx k hkl
    rw [drop_c hkl, md_es, List.length_append] at ho
    rw [drop_c hkl, md_es] at hq
    refine sw_ge (n253_213 hX) ?_
    simp (disch := omega) only [sw_gu, ni_in, ni_nat, e69, e68, sw_ite, ni_le, ni_add, e63]
    rw [if_neg (by omega)]
    refine ⟨decide_eq_true hn, decide_eq_true hn, decide_eq_true (by omega), ?_⟩
    have n260 : ∀ o2 : List Int32, o2.length + 1 + (md_es (xs.drop (k + 1))).length ≤ 60000 → sw (sm_fx C 253 272 [.ref (X + 49), .int (ni j), .int v2, .int (ni n), sm_junk, sm_junk] [] (os X D (o2 ++ ([md_nth xs k] ++ md_es (xs.drop (k + 1)))))) Q → sw (sm_fx C 253 260 [.ref (X + 49), .int (ni j), .int v2, .int (ni n), .int (ni k), .int (md_nth xs k)] [] (os X D o2)) Q := by
      intro o2 ho2 hq2
      refine sw_ge (n253_260 hX) ?_
      rw [sw_bv, r250 hX (by omega), sw_some, sb_v, ni_add]
      refine ih (k + 1) _ (by omega) (by rw [List.length_append]; exact ho2) ?_
      rw [List.append_assoc]
      exact hq2
    have n254' : (md_nth xs k = ni 34 ∨ md_nth xs k = ni 92) → sw (sm_fx C 253 254 [.ref (X + 49), .int (ni j), .int v2, .int (ni n), .int (ni k), .int (md_nth xs k)] [] (os X D o)) Q := by
      intro hc
      rw [if_pos hc] at ho hq
      rw [show [ni 92, md_nth xs k].length = 2 from rfl] at ho
      refine sw_ge (n253_254 hX) ?_
      rw [sw_bv, r250 hX (by omega), sw_some, sb_v]
      refine n260 _ (by rw [List.length_append]; show o.length + 1 + 1 + _ ≤ 60000; omega) ?_
      rw [List.append_assoc]
      exact hq
    by_cases c1 : md_nth xs k = ni 34
    · rw [if_pos c1]
      exact n254' (Or.inl c1)
    · rw [if_neg c1]
      by_cases c2 : md_nth xs k = ni 92
      · rw [if_pos c2]
        exact n254' (Or.inr c2)
      · rw [if_neg c2]
        rw [if_neg (fun z => z.elim c1 c2)] at ho hq
        rw [show [md_nth xs k].length = 1 from rfl] at ho
        exact n260 o (by omega) hq
theorem md_pn_len {v : Int32} : (md_pn v).length ≤ 6 := by
  have := md_nu_len (v := v)
  unfold md_pn
  rw [List.length_append, show (md_w "part").length = 4 from by decide]
  omega
/-- behind the parameters -/
theorem r253_308 (h : WV C X T N m l D) {j : Nat} {u : md_E} (hj : m.1[j]? = some u) {v2 : Int32} {n : Nat} (hn : n = u.2.2.1.2.2.length) (hl : o.length + 50 ≤ 60000) (hq : Q (.inl none) (os X D (o ++ (md_cr ++ (if u.2.2.2.2.1 then md_cr else md_cte))))) : sw (sm_fx C 253 136 [.ref (X + 49), .int (ni j), .int v2, .int (ni (6 * j + n)), sm_junk, sm_junk] [] (os X D o)) Q := by
  have hX := h.1.1
  have hx := h.1.2.1
  have hjl : j < m.1.length := by
    rcases Nat.lt_or_ge j m.1.length with z | z
    · exact z
    · rw [List.getElem?_eq_none z] at hj; cases hj
  have h40 := h.2.2.1.2.2.1
  obtain ⟨-, -, ⟨e3, -⟩, -, -, -, e6⟩ := h.2.2.1.2.2.2.2.2.2.1 j u hj
  have h6 := e6.2.1
  have e61 : (os X D o).1 (X + 61) j = ni u.2.2.1.2.2.length := by rw [os_o (by omega) (by omega)]; exact e6.1
  have e56 : ∀ o : List Int32, (os X D o).1 (X + 56) j = md_b u.2.2.2.2.1 := fun o => by rw [os_o (by omega) (by omega)]; exact e3
  have hcr : md_cr.length = 2 := rfl
  have h33 : (md_w "content-transfer-encoding: base64").length = 33 := by decide
  have ecte : md_cte = md_w "content-transfer-encoding: base64" ++ (md_cr ++ md_cr) := by decide
  refine sw_ge (n253_136 hX) ?_
  simp (disch := omega) only [sw_gu, ni_in, ni_nat, e61, ni_mul, ni_add, sw_ite, ni_le, sw_bv]
  rw [if_pos (by omega), r252 hX (by omega), sw_some, sb_v]
  refine ⟨decide_eq_true (by omega), ?_⟩
  simp (disch := omega) only [sw_gu, ni_in, ni_nat, e56, sw_ite, sw_bv, md_b_0]
  refine ⟨decide_eq_true (by omega), ?_⟩
  have n308 : ∀ o2 : List Int32, o2.length + 2 ≤ 60000 → Q (.inl none) (os X D (o2 ++ md_cr)) → sw (sm_fx C 253 308 [.ref (X + 49), sm_junk, sm_junk, sm_junk, sm_junk, sm_junk] [] (os X D o2)) Q := by
    intro o2 ho2 hq2
    refine sw_ge (n253_308 hX) ?_
    rw [sw_bv, r252 hX ho2, sw_some, sb_v, sw_some]
    exact hq2
  cases hmu : u.2.2.2.2.1
  · rw [hmu, if_neg Bool.false_ne_true, ecte] at hq
    rw [if_pos rfl, r249 hX (st68 hx) (by rw [List.length_append, hcr, h33]; omega), sw_some, sb_v, sw_bv, r252 hX (by rw [List.length_append, List.length_append, hcr, h33]; omega), sw_some, sb_v]
    refine n308 _ (by rw [List.length_append, List.length_append, List.length_append, hcr, h33]; omega) ?_
    simp only [List.append_assoc] at hq ⊢
    exact hq
  · rw [hmu, if_pos rfl] at hq
    rw [if_neg (show ¬ (true = false) from Bool.noConfusion)]
    refine n308 _ (by rw [List.length_append, hcr]; omega) ?_
    rw [List.append_assoc]
    exact hq
/-- the parameters -/
theorem r253_136 (h : WV C X T N m l D) {j : Nat} {u : md_E} (hj : m.1[j]? = some u) {v2 : Int32} {bx : Option Nat} (hv2 : ∀ n, n < u.2.2.1.2.2.length → (ni (6 * j + n) = v2) = (bx = some n)) : ∀ (r n : Nat) (o : List Int32), n + r = u.2.2.1.2.2.length → o.length + (md_wp j bx n (u.2.2.1.2.2.drop n)).length + 50 ≤ 60000 → Q (.inl none) (os X D (o ++ (md_wp j bx n (u.2.2.1.2.2.drop n) ++ (md_cr ++ (if u.2.2.2.2.1 then md_cr else md_cte))))) → sw (sm_fx C 253 136 [.ref (X + 49), .int (ni j), .int v2, .int (ni (6 * j + n)), sm_junk, sm_junk] [] (os X D o)) Q := by
  have hX := h.1.1
  have hx := h.1.2.1
  have hjl : j < m.1.length := by
    rcases Nat.lt_or_ge j m.1.length with z | z
    · exact z
    · rw [List.getElem?_eq_none z] at hj; cases hj
  have h40 := h.2.2.1.2.2.1
  have hl16 := h.2.2.2.1
  have hT := h.2.2.1.2.2.2.2.1
  obtain ⟨-, -, ⟨e3, -⟩, -, -, -, e6⟩ := h.2.2.1.2.2.2.2.2.2.1 j u hj
  have h6 := e6.2.1
  have e61 : ∀ o : List Int32, (os X D o).1 (X + 61) j = ni u.2.2.1.2.2.length := fun o => by rw [os_o (by omega) (by omega)]; exact e6.1
  have e4 : md_w ";\r\n " = [ni 59] ++ (md_cr ++ [ni 32]) := by decide
  have l2 : (md_w "=\"").length = 2 := by decide
  have l1 : md_w "\"" = [ni 34] := by decide
  have hcr : md_cr.length = 2 := rfl
  intro r
  induction r with
  | zero =>
    intro n o hn ho hq
    rw [List.drop_of_length_le (by omega), md_wp, List.nil_append] at hq
    exact r253_308 h hj (by omega) (by omega) hq
  | succ r ih =>
    intro n o hn ho hq
    have hnl : n < u.2.2.1.2.2.length := by omega
    rw [List.drop_eq_getElem_cons hnl] at ho hq
    have hget : u.2.2.1.2.2[n]? = some u.2.2.1.2.2[n] := List.getElem?_eq_getElem hnl
    generalize u.2.2.1.2.2[n] = q at ho hq hget
    obtain ⟨s1, s2, -⟩ := e6.2.2 n q hget
    rw [md_wp, e4, l1] at hq ho
    simp only [List.length_append, List.length_cons, List.length_nil, hcr, l2] at ho
    have k1 : ∀ (c : Int32) (o : List Int32), (o ++ [c]).length = o.length + 1 := fun c o => by rw [List.length_append]; rfl
    refine sw_ge (n253_136 hX) ?_
    simp (disch := omega) only [sw_gu, ni_in, ni_nat, e61, ni_mul, ni_add, sw_ite, ni_le, sw_bv]
    rw [if_neg (by omega), r250 hX (by omega), sw_some, sb_v, sw_bv, r252 hX (by rw [k1]; omega), sw_some, sb_v, sw_bv, r250 hX (by rw [List.length_append, k1, hcr]; omega), sw_some, sb_v]
    refine ⟨decide_eq_true (by omega), ?_⟩
    have e66 : ∀ o : List Int32, (os X D o).1 (X + 66) (6 * j + n) = D.1 (X + 66) (6 * j + n) := fun o => os_o (by omega) (by omega)
    have e67 : ∀ o : List Int32, (os X D o).1 (X + 67) (6 * j + n) = D.1 (X + 67) (6 * j + n) := fun o => os_o (by omega) (by omega)
    simp (disch := omega) only [sw_gu, ni_in, ni_nat, e66, e67, sw_bv]
    refine ⟨decide_eq_true (by omega), decide_eq_true (by omega), ?_⟩
    rw [r255 hX hl16 hT.2 s1 (by simp only [List.length_append, List.length_cons, List.length_nil, hcr]; omega), sw_some, sb_v, sw_bv, r249 hX (st66 hx) (by simp only [List.length_append, List.length_cons, List.length_nil, hcr, l2]; omega), sw_some, sb_v]
    have n272 : ∀ o2 : List Int32, o2.length + 1 + (md_wp j bx (n + 1) (u.2.2.1.2.2.drop (n + 1))).length + 50 ≤ 60000 → Q (.inl none) (os X D (o2 ++ ([ni 34] ++ (md_wp j bx (n + 1) (u.2.2.1.2.2.drop (n + 1)) ++ (md_cr ++ (if u.2.2.2.2.1 then md_cr else md_cte)))))) → sw (sm_fx C 253 272 [.ref (X + 49), .int (ni j), .int v2, .int (ni (6 * j + n)), sm_junk, sm_junk] [] (os X D o2)) Q := by
      intro o2 ho2 hq2
      refine sw_ge (n253_272 hX) ?_
      rw [sw_bv, r250 hX (by omega), sw_some, sb_v, ni_add]
      refine ih (n + 1) _ (by omega) (by rw [k1]; omega) ?_
      rw [List.append_assoc]
      exact hq2
    rw [sw_ite]
    by_cases hb : bx = some n
    · rw [if_pos ((hv2 n hnl).mpr hb)]
      rw [if_pos hb] at hq ho
      have hpn := md_pn_len (v := ni j)
      have hnu := md_nu_len (v := ni j)
      have l4 : (md_w "part").length = 4 := by decide
      rw [sw_bv, r249 hX (st67 hx) (by simp only [List.length_append, List.length_cons, List.length_nil, hcr, l2, l4]; unfold md_pn at ho; rw [List.length_append, l4] at ho; omega), sw_some, sb_v, sw_bv, r251 hX (by simp only [List.length_append, List.length_cons, List.length_nil, hcr, l2, l4]; unfold md_pn at ho; rw [List.length_append, l4] at ho; omega), sw_some, sb_v]
      refine n272 _ (by simp only [List.length_append, List.length_cons, List.length_nil, hcr, l2, l4]; unfold md_pn at ho; rw [List.length_append, l4] at ho; omega) ?_
      unfold md_pn at hq
      simp only [List.append_assoc] at hq ⊢
      exact hq
    · rw [if_neg (fun z => hb ((hv2 n hnl).mp z))]
      rw [if_neg hb] at hq ho
      obtain ⟨c, c1, c2, c3, c4⟩ := SLT.at hT.2 s2
      refine r253_213 hX (by omega) c1 c2 (by omega) c4 q.2.length 0 _ (by omega) (by rw [List.drop_zero]; simp only [List.length_append, List.length_cons, List.length_nil, hcr, l2]; omega) ?_
      rw [List.drop_zero]
      refine n272 _ (by simp only [List.length_append, List.length_cons, List.length_nil, hcr, l2]; omega) ?_
      simp only [List.append_assoc] at hq ⊢
      exact hq
/-- a head -/
def md_hd (T : Nat → Int32) (j : Nat) (u : md_E) : List Int32 := md_wfs T u.2.1 ++ (md_wt j u ++ (if u.2.2.2.2.1 then md_cr else md_cte))
theorem r253 (h : WV C X T N m l D) (hB : HBm m) {j : Nat} {u : md_E} (hj : m.1[j]? = some u) (hl : o.length + (md_hd T j u).length + 60 ≤ 60000) (hq : ∀ E', fr (sWr X) D E' → RT X l E' → Q (.inl none) (os X E' (o ++ md_hd T j u))) : sw (sm_fe C 253 [.ref (X + 49), .int (ni j)] (os X D o)) Q := by
  have hX := h.1.1
  have hx := h.1.2.1
  have hjl : j < m.1.length := by
    rcases Nat.lt_or_ge j m.1.length with z | z
    · exact z
    · rw [List.getElem?_eq_none z] at hj; cases hj
  have h40 := h.2.2.1.2.2.1
  have h200 := h.2.2.1.2.2.2.1
  have htb : md_tb m.1 j + u.2.1.length ≤ m.tot := md_tb_get hj
  have l14 : (md_w "content-type: ").length = 14 := by decide
  have l1 : md_w "/" = [ni 47] := by decide
  unfold md_hd md_wt at hl hq
  rw [l1] at hl hq
  simp only [List.length_append, List.length_cons, List.length_nil, l14] at hl
  obtain ⟨-, ⟨e1, -⟩, -⟩ := h.2.2.1.2.2.2.2.2.2.1 j u hj
  have e54 : (os X D o).1 (X + 54) j = ni (md_tb m.1 j) := by rw [os_o (by omega) (by omega)]; exact e1
  refine sw_ge (f253 hX) ?_
  simp (disch := omega) only [sw_gu, ni_in, ni_nat, e54]
  refine ⟨decide_eq_true (by omega), ?_⟩
  refine r253_7 hj u.2.1.length 0 o D (by omega) h (by rw [List.drop_zero]; omega) (fun E hf hr => ?_)
  rw [List.drop_zero]
  have hE := h.w hf hr
  obtain ⟨-, ⟨f1, f2, -⟩, ⟨f3, -⟩, -, f4, f5, f6⟩ := hE.2.2.1.2.2.2.2.2.2.1 j u hj
  have hl16 := h.2.2.2.1
  have hT := hE.2.2.1.2.2.2.2.1
  have g54 : (os X E (o ++ md_wfs T u.2.1)).1 (X + 54) j = ni (md_tb m.1 j) := by rw [os_o (by omega) (by omega)]; exact f1
  have g55 : (os X E (o ++ md_wfs T u.2.1)).1 (X + 55) j = ni u.2.1.length := by rw [os_o (by omega) (by omega)]; exact f2
  have g56 : ∀ o : List Int32, (os X E o).1 (X + 56) j = md_b u.2.2.2.2.1 := fun o => by rw [os_o (by omega) (by omega)]; exact f3
  refine sw_ge (n253_7 hX) ?_
  simp (disch := omega) only [sw_gu, ni_in, ni_nat, g54, g55, ni_add, sw_ite, ni_le, sw_bv]
  rw [if_pos (by omega), r249 hX (st65 hx) (by rw [List.length_append, l14]; omega), sw_some, sb_v]
  refine ⟨decide_eq_true (by omega), decide_eq_true (by omega), ?_⟩
  have g64 : ∀ (o : List Int32) (i : Nat), (os X E o).1 (X + 64) i = E.1 (X + 64) i := fun o i => os_o (by omega) (by omega)
  have g65 : ∀ (o : List Int32) (i : Nat), (os X E o).1 (X + 65) i = E.1 (X + 65) i := fun o i => os_o (by omega) (by omega)
  simp (disch := omega) only [sw_gu, ni_mul, ni_add, ni_in, ni_nat, g64, g65, sw_bv]
  refine ⟨decide_eq_true (by omega), decide_eq_true (by omega), ?_⟩
  rw [r255 hX hl16 hT.2 f4 (by simp only [List.length_append, l14]; omega), sw_some, sb_v, sw_bv, r250 hX (by simp only [List.length_append, l14]; omega), sw_some, sb_v]
  simp (disch := omega) only [sw_gu, ni_in, ni_nat, g64, g65, sw_bv]
  refine ⟨decide_eq_true (by omega), decide_eq_true (by omega), ?_⟩
  rw [r255 hX hl16 hT.2 f5 (by simp only [List.length_append, List.length_cons, List.length_nil, l14]; omega), sw_some, sb_v]
  simp (disch := omega) only [sw_gu, ni_in, ni_nat, g56, sw_ite, sw_bi, md_b_0]
  refine ⟨decide_eq_true (by omega), ?_⟩
  have h6 := f6.2.1
  have n130 : ∀ v2 : Int32, (∀ n, n < u.2.2.1.2.2.length → (ni (6 * j + n) = v2) = (md_bx u = some n)) → sw (sm_fx C 253 130 [.ref (X + 49), .int (ni j), sm_junk, sm_junk, sm_junk, sm_junk] [.int v2] (os X E ((((o ++ md_wfs T u.2.1) ++ md_w "content-type: ") ++ u.2.2.1.1) ++ [ni 47] ++ u.2.2.1.2.1))) Q := by
    intro v2 hv2
    refine sw_ge (n253_130 hX) ?_
    rw [ni_mul]
    have := r253_136 (Q := Q) hE hj hv2 u.2.2.1.2.2.length 0 (((((o ++ md_wfs T u.2.1) ++ md_w "content-type: ") ++ u.2.2.1.1) ++ [ni 47]) ++ u.2.2.1.2.1) (by omega) (by rw [List.drop_zero]; simp only [List.length_append, List.length_cons, List.length_nil, l14]; omega) (by
      rw [List.drop_zero]
      have := hq E hf hr
      simp only [List.append_assoc] at this ⊢
      exact this)
    exact this
  cases hmu : u.2.2.2.2.1
  · rw [if_pos rfl]
    refine n130 _ (fun n hn => ?_)
    have : md_bx u = none := by unfold md_bx; rw [hmu, if_neg Bool.false_ne_true]
    rw [this, ni_ne_k (by omega)]
    exact propext ⟨fun z => z.elim, fun z => nomatch z⟩
  · rw [if_neg (show ¬ (true = false) from Bool.noConfusion)]
    have hRP : RP X j u.2.2.1.2.2 l (os X E ((((o ++ md_wfs T u.2.1) ++ md_w "content-type: ") ++ u.2.2.1.1) ++ [ni 47] ++ u.2.2.1.2.1)) := f6.of (fun c i hc => os_o (by omega) (by omega))
    rw [r193 hX hx (by omega) (RT_os hT) (by omega) hRP, sw_some]
    simp only [sb_i]
    obtain ⟨v, hv, hr2⟩ := hB u (List.mem_of_getElem? hj) hmu
    obtain ⟨i, hi0, hi1, hi2⟩ := md_bo_idx (k := 6 * j) hv hr2
    rw [hi2]
    refine n130 _ (fun n hn => ?_)
    have : md_bx u = some i := by unfold md_bx; rw [hmu, if_pos rfl, hi1]
    rw [this, ni_inj (by omega) (by omega)]
    exact propext ⟨fun z => by rw [show i = n from by omega], fun z => by cases z; rfl⟩
end RHS
