/-! ===== the reference: a message is written ===== -/
/-- what closes behind an entity, before the next -/
def md_kk (es : List md_E) (i : Nat) : List Int32 := match es[i - 1]? with
  | some u => if u.2.2.2.2.1 = true ∨ i ≤ 1 then [] else (if u.1 = md_par es (ni i) then [] else md_dl u.1 ++ (md_w "--" ++ md_cl es (md_par es (ni i)) 39 u.1))
  | none => []
/-- a multipart's first part comes next -/
def NXm (es : List md_E) : Prop := ∀ j u, es[j]? = some u → u.2.2.2.2.1 = true → ∃ u', es[j + 1]? = some u' ∧ u'.1 = ni j
section RHT
variable {C : sm_K} {X N : Nat} {T : Nat → Int32} {D E : sm_D} {Q : (Option Value ⊕ Nat) → sm_D → Prop} {m : md_M} {o l : List Int32}
theorem md_dl_len {v : Int32} : (md_dl v).length ≤ 8 := by
  have := md_pn_len (v := v)
  unfold md_dl
  rw [List.length_append, show (md_w "--").length = 2 from by decide]
  omega
theorem WV.e (h : WV C X T N m l D) {j : Nat} (hj : j < m.1.length) : j < 40 ∧ D.1 (X + 53) j = (m.1[j]).1 ∧ D.1 (X + 56) j = md_b (m.1[j]).2.2.2.2.1 := by
  obtain ⟨a1, -, ⟨a2, -⟩, -⟩ := h.2.2.1.2.2.2.2.2.2.1 j _ (List.getElem?_eq_getElem hj)
  have := h.2.2.1.2.2.1
  exact ⟨by omega, a1, a2⟩
theorem r247_20 (h : WV C X T N m l D) (hpk : md_pk m.1) {go : Int32} : ∀ (p n : Nat) (o : List Int32), p < m.1.length → p ≤ n → o.length + (if ni p = go then ([] : List Int32) else md_dl (ni p) ++ (md_w "--" ++ md_cl m.1 go n (ni p))).length + 20 ≤ 60000 → Q (.inl none) (os X D (o ++ (if ni p = go then [] else md_dl (ni p) ++ (md_w "--" ++ md_cl m.1 go n (ni p))))) → sw (sm_fx C 247 20 [.ref (X + 49), sm_junk, .int go, .int (ni p)] [] (os X D o)) Q := by
  have hX := h.1.1
  have hx := h.1.2.1
  have h40 := h.2.2.1.2.2.1
  have l2 : (md_w "--").length = 2 := by decide
  have hcr : md_cr.length = 2 := rfl
  intro p
  induction p using Nat.strongRecOn with
  | _ p ih =>
    intro n o hp hn hl hq
    have hdl := md_dl_len (v := ni p)
    refine sw_ge (n247_20 hX) ?_
    rw [sw_ite]
    by_cases hg : ni p = go
    · rw [if_pos hg, sw_some]
      rw [if_pos hg, List.append_nil] at hq
      exact hq
    · rw [if_neg hg, sw_ite, if_neg (by rw [ni_ne_k (by omega)]; exact id)]
      rw [if_neg hg] at hq hl
      simp only [List.length_append, l2] at hl
      rw [sw_bv, r248 hX hx (by omega), sw_some, sb_v, sw_bv, r249 hX (st70 hx) (by rw [List.length_append, l2]; omega), sw_some, sb_v]
      obtain ⟨b1, b2, -⟩ := h.e hp
      have e53 : ∀ o : List Int32, (os X D o).1 (X + 53) p = (m.1[p]).1 := fun o => by rw [os_o (by omega) (by omega)]; exact b2
      obtain ⟨k0, k1⟩ := hpk p _ (List.getElem?_eq_getElem hp)
      simp (disch := omega) only [sw_ite, ni_le, sw_bv]
      rcases Nat.eq_zero_or_pos p with z | z
      · subst z
        rw [if_pos (Nat.le_refl _)]
        refine sw_ge (n247_50 hX) ?_
        simp (disch := omega) only [sw_gu, ni_in, ni_nat, e53]
        rw [k0 rfl]
        refine ⟨decide_eq_true (by omega), ?_⟩
        have ecl : md_cl m.1 go n (ni 0) = [] := by
          cases n with
          | zero => rfl
          | succ n => unfold md_cl; rw [if_pos (by decide)]
        rw [ecl, List.append_nil] at hq
        refine sw_ge (n247_20 hX) ?_
        rw [sw_ite, sw_ite, if_pos (show sm_k (-1) = sm_k (-1) from rfl), sw_some]
        rw [List.append_assoc]
        rw [ite_self]
        exact hq
      · obtain ⟨q, hq1, hq2⟩ := k1 z
        rw [if_neg (by omega), r252 hX (by rw [List.length_append, List.length_append, l2]; omega), sw_some, sb_v]
        refine sw_ge (n247_50 hX) ?_
        simp (disch := omega) only [sw_gu, ni_in, ni_nat, e53]
        rw [hq2]
        refine ⟨decide_eq_true (by omega), ?_⟩
        obtain ⟨n', rfl⟩ : ∃ n', n = n' + 1 := ⟨n - 1, by omega⟩
        unfold md_cl at hq hl
        have epar : md_par m.1 (ni p) = ni q := by rw [md_par_lt hp (by omega), hq2]
        rw [if_neg (by rw [ni_le (by omega) (by omega)]; omega), epar] at hq hl
        rw [List.length_append, hcr] at hl
        refine ih q hq1 n' _ (by omega) (by omega) (by simp only [List.length_append, l2, hcr]; omega) ?_
        simp only [List.append_assoc] at hq ⊢
        exact hq
theorem r247 (h : WV C X T N m l D) (hpk : md_pk m.1) (hnx : NXm m.1) {i : Nat} (hi : i + 1 ≤ m.1.length) (hl : o.length + (md_kk m.1 (i + 1)).length + 20 ≤ 60000) (hq : Q (.inl none) (os X D (o ++ md_kk m.1 (i + 1)))) : sw (sm_fe C 247 [.ref (X + 49), .int (ni i), .int (md_par m.1 (ni (i + 1)))] (os X D o)) Q := by
  have hX := h.1.1
  have h40 := h.2.2.1.2.2.1
  have hil : i < m.1.length := by omega
  obtain ⟨b1, b2, b3⟩ := h.e hil
  obtain ⟨k0, k1⟩ := hpk i _ (List.getElem?_eq_getElem hil)
  have e53 : (os X D o).1 (X + 53) i = (m.1[i]).1 := by rw [os_o (by omega) (by omega)]; exact b2
  have e56 : (os X D o).1 (X + 56) i = md_b (m.1[i]).2.2.2.2.1 := by rw [os_o (by omega) (by omega)]; exact b3
  unfold md_kk at hl hq
  rw [Nat.add_sub_cancel, List.getElem?_eq_getElem hil] at hl hq
  dsimp only at hl hq
  refine sw_ge (f247 hX) ?_
  simp (disch := omega) only [sw_gu, ni_in, ni_nat, e53, e56, sw_ite, md_b_0]
  refine ⟨decide_eq_true b1, ?_⟩
  cases hmu : (m.1[i]).2.2.2.2.1
  · rw [if_pos rfl]
    refine ⟨decide_eq_true b1, ?_⟩
    refine sw_ge (n247_19 hX) ?_
    rcases Nat.eq_zero_or_pos i with z | z
    · rw [if_pos (Or.inr (by omega)), List.append_nil] at hq
      rw [k0 z]
      refine sw_ge (n247_20 hX) ?_
      rw [sw_ite, sw_ite, if_pos (show sm_k (-1) = sm_k (-1) from rfl), sw_some, ite_self]
      exact hq
    · obtain ⟨q, hq1, hq2⟩ := k1 z
      rw [hmu, if_neg (fun g => g.elim (fun w => nomatch w) (fun w => by omega)), hq2] at hq hl
      rw [hq2]
      exact r247_20 h hpk q 39 o (by omega) (by omega) hl hq
  · rw [if_neg (show ¬ (true = false) from Bool.noConfusion)]
    rw [if_pos (Or.inl hmu), List.append_nil] at hq
    refine sw_ge (n247_19 hX) ?_
    obtain ⟨u', h1, h2⟩ := hnx i _ (List.getElem?_eq_getElem hil) hmu
    have hl2 : i + 1 < m.1.length := by
      rcases Nat.lt_or_ge (i + 1) m.1.length with z | z
      · exact z
      · rw [List.getElem?_eq_none z] at h1; cases h1
    have ep : md_par m.1 (ni (i + 1)) = ni i := by
      rw [md_par_lt hl2 (by omega)]
      rw [List.getElem?_eq_getElem hl2] at h1
      cases h1
      exact h2
    rw [ep]
    refine sw_ge (n247_20 hX) ?_
    rw [sw_ite, if_pos rfl, sw_some]
    exact hq
theorem md_cl_s {es : List md_E} {go v : Int32} {n : Nat} : md_cl es go (n + 1) v = if v ≤ ni 0 then [] else md_cr ++ (if md_par es v = go then [] else md_dl (md_par es v) ++ (md_w "--" ++ md_cl es go n (md_par es v))) := rfl
theorem md_we_kk (es : List md_E) {i : Nat} {u : md_E} (hu : es[i]? = some u) (hes : es.length ≤ 40) : md_we T es i u = (if i = 0 then [] else md_dl u.1 ++ md_cr) ++ (md_hd T i u ++ ((if u.2.2.2.2.1 = true then [] else md_co u.2.2.2.2.2 u.2.2.2.2.2.length 0 0 ++ (if i = 0 then [] else md_cr)) ++ md_kk es (i + 1))) := by
  have hil : i < es.length := by
    rcases Nat.lt_or_ge i es.length with z | z
    · exact z
    · rw [List.getElem?_eq_none z] at hu; cases hu
  unfold md_we md_hd md_kk md_cte
  rw [Nat.add_sub_cancel, hu]
  dsimp only
  cases hmu : u.2.2.2.2.1
  · rw [if_neg Bool.false_ne_true, if_neg Bool.false_ne_true, if_neg Bool.false_ne_true]
    rw [show (40 : Nat) = 39 + 1 from rfl, md_cl_s]
    rcases Nat.eq_zero_or_pos i with z | z
    · subst z
      rw [if_pos (show ni 0 ≤ ni 0 by decide), if_pos rfl, if_pos rfl, if_pos (Or.inr (by omega))]
      simp only [List.append_assoc, List.append_nil]
    · have ep : md_par es (ni i) = u.1 := by
        rw [md_par_lt hil (by omega)]
        rw [List.getElem?_eq_getElem hil] at hu
        cases hu
        rfl
      have hz : ¬ i = 0 := by omega
      have hle : ¬ ni i ≤ ni 0 := by rw [ni_le (by omega) (by omega)]; omega
      have hor : ¬ (false = true ∨ i + 1 ≤ 1) := fun g => g.elim (fun w => nomatch w) (fun w => by omega)
      rw [if_neg hz, if_neg hz, if_neg hle, if_neg hor, ep]
      simp only [List.append_assoc]
  · rw [if_pos rfl, if_pos rfl, if_pos rfl, if_pos (Or.inl rfl)]
    simp only [List.append_assoc, List.append_nil]
theorem md_of_le {es : List md_E} {j : Nat} {u : md_E} (hj : es[j]? = some u) : md_of es j + u.2.2.2.2.2.length ≤ (md_oc es).length := by
  have hl : j < es.length := by
    rcases Nat.lt_or_ge j es.length with z | z
    · exact z
    · rw [List.getElem?_eq_none z] at hj; cases hj
  have e1 : md_oc es = md_oc (es.take j) ++ (u.2.2.2.2.2 ++ md_oc (es.drop (j + 1))) := by
    unfold md_oc
    conv => lhs; rw [← List.take_append_drop j es]
    rw [List.drop_eq_getElem_cons hl, List.map_append, List.flatten_append, List.map_cons, List.flatten_cons]
    rw [List.getElem?_eq_getElem hl] at hj
    cases hj
    rfl
  rw [e1, List.length_append, List.length_append]
  show md_of es j + _ ≤ md_of es j + _
  omega
theorem WV.ol (h : WV C X T N m l D) {j : Nat} {u : md_E} (hj : m.1[j]? = some u) : OL X j (md_of m.1 j) u.2.2.2.2.2 D := by
  have hjl : j < m.1.length := by
    rcases Nat.lt_or_ge j m.1.length with z | z
    · exact z
    · rw [List.getElem?_eq_none z] at hj; cases hj
  have hV : RV C X T N m D := ⟨h.1.1, h.1.2.1, Or.inr ⟨by omega, h.1, h.2.1, l, h.2.2.1, h.2.2.2.1⟩⟩
  obtain ⟨-, -, -, ⟨e1, e2⟩, -⟩ := h.2.2.1.2.2.2.2.2.2.1 j u hj
  have h3 := md_of_le hj
  have h4 := h.2.2.2.2
  exact ⟨e1, e2, by omega, fun k hk => (hV.oc hj hk h4).2⟩
theorem r246_20 (hB : HBm m) (hpk : md_pk m.1) (hnx : NXm m.1) : ∀ (r i : Nat) (o : List Int32) (D : sm_D), i + r = m.1.length → (i = 0 → 1 ≤ m.1.length) → WV C X T N m l D → o.length + (md_kk m.1 i ++ md_wr T m.1 i (m.1.drop i)).length + 100 ≤ 60000 → (∀ E', fr (sWr X) D E' → RT X l E' → Q (.inl (some (.int (ni (o ++ (md_kk m.1 i ++ md_wr T m.1 i (m.1.drop i))).length)))) (os X E' (o ++ (md_kk m.1 i ++ md_wr T m.1 i (m.1.drop i))))) → sw (sm_fx C 246 20 [.ref (X + 49), .int (ni i)] [] (os X D o)) Q := by
  have hcr : md_cr.length = 2 := rfl
  intro r
  induction r with
  | zero =>
    intro i o D hi h1 h hl hq
    have hX := h.1.1
    have h40 := h.2.2.1.2.2.1
    have hlen : 1 ≤ m.1.length := by
      rcases Nat.eq_zero_or_pos i with z | z
      · exact h1 z
      · omega
    have e9 : (os X D o).1 (X + 49) 9 = ni m.1.length := by rw [os_o (by omega) (by omega)]; exact h.2.2.1.1
    have hd : m.1.drop i = [] := List.drop_of_length_le (by omega)
    rw [hd, md_wr, List.append_nil] at hl
    rw [hd, md_wr, List.append_nil] at hq
    refine sw_ge (n246_20 hX) ?_
    simp (disch := omega) only [sw_ite, e9, ni_le, ni_sub, sw_bv]
    rw [if_pos (by omega)]
    have epar : md_par m.1 (ni (m.1.length - 1 + 1)) = sm_k (-1) := md_par_ge (by omega) (by omega)
    have hii : i = m.1.length - 1 + 1 := by omega
    rw [hii] at hl hq
    have := r247 (Q := sb_v (fun D1 => some (.inl (some (.int (D1.1 (X + 49) 43))), D1)) Q) (o := o) h hpk hnx (i := m.1.length - 1) (by omega) (by omega) (by
      show sw (some (.inl (some (.int ((os X D (o ++ md_kk m.1 (m.1.length - 1 + 1))).1 (X + 49) 43))), os X D (o ++ md_kk m.1 (m.1.length - 1 + 1)))) Q
      rw [sw_some, os_l]
      exact hq D fr.refl h.2.2.1.2.2.2.2.1)
    rw [epar] at this
    exact this
  | succ r ih =>
    intro i o D hi h1 h hl hq
    have hX := h.1.1
    have hx := h.1.2.1
    have h40 := h.2.2.1.2.2.1
    have hil : i < m.1.length := by omega
    have hget : m.1[i]? = some m.1[i] := List.getElem?_eq_getElem hil
    have hdc : m.1.drop i = m.1[i] :: m.1.drop (i + 1) := List.drop_eq_getElem_cons hil
    have epar : md_par m.1 (ni i) = (m.1[i]).1 := md_par_lt hil (by omega)
    rw [hdc, md_wr, md_we_kk m.1 hget h40] at hl hq
    have he := h.e hil
    generalize m.1[i] = u at hl hq hget epar he
    have e9 : (os X D o).1 (X + 49) 9 = ni m.1.length := by rw [os_o (by omega) (by omega)]; exact h.2.2.1.1
    have hdl := md_dl_len (v := u.1)
    -- the entity itself
    have n59 : ∀ (o2 : List Int32), o2.length + (md_hd T i u ++ ((if u.2.2.2.2.1 = true then [] else md_co u.2.2.2.2.2 u.2.2.2.2.2.length 0 0 ++ (if i = 0 then [] else md_cr)) ++ (md_kk m.1 (i + 1) ++ md_wr T m.1 (i + 1) (m.1.drop (i + 1))))).length + 100 ≤ 60000 → (∀ E', fr (sWr X) D E' → RT X l E' → Q (.inl (some (.int (ni (o2 ++ (md_hd T i u ++ ((if u.2.2.2.2.1 = true then [] else md_co u.2.2.2.2.2 u.2.2.2.2.2.length 0 0 ++ (if i = 0 then [] else md_cr)) ++ (md_kk m.1 (i + 1) ++ md_wr T m.1 (i + 1) (m.1.drop (i + 1)))))).length)))) (os X E' (o2 ++ (md_hd T i u ++ ((if u.2.2.2.2.1 = true then [] else md_co u.2.2.2.2.2 u.2.2.2.2.2.length 0 0 ++ (if i = 0 then [] else md_cr)) ++ (md_kk m.1 (i + 1) ++ md_wr T m.1 (i + 1) (m.1.drop (i + 1)))))))) → sw (sm_fx C 246 59 [.ref (X + 49), .int (ni i)] [] (os X D o2)) Q := by
      intro o2 hl2 hq2
      rw [List.length_append] at hl2
      refine sw_ge (n246_59 hX) ?_
      rw [sw_bv]
      refine r253 h hB hget (by omega) (fun E hf hr => ?_)
      simp only [sb_v]
      have hE := h.w hf hr
      obtain ⟨-, -, ⟨f3, -⟩, -⟩ := hE.2.2.1.2.2.2.2.2.2.1 i u hget
      have e56 : (os X E (o2 ++ md_hd T i u)).1 (X + 56) i = md_b u.2.2.2.2.1 := by rw [os_o (by omega) (by omega)]; exact f3
      simp (disch := omega) only [sw_gu, ni_in, ni_nat, e56, sw_ite, md_b_0, sw_bv, ni_le, ni_add]
      refine ⟨decide_eq_true (by omega), ?_⟩
      cases hmu : u.2.2.2.2.1
      · rw [hmu, if_neg Bool.false_ne_true] at hl2 hq2
        rw [if_pos rfl]
        rw [List.length_append] at hl2
        have hco : o2.length + (md_hd T i u).length + (md_co u.2.2.2.2.2 u.2.2.2.2.2.length 0 0).length + 100 ≤ 60000 := by rw [List.length_append] at hl2; omega
        rw [r256 hX (by omega) (hE.ol hget) (by rw [List.length_append]; omega), sw_some, sb_v]
        simp (disch := omega) only [sw_ite, ni_le, sw_bv]
        rcases Nat.eq_zero_or_pos i with z | z
        · rw [if_pos z, List.append_nil] at hl2
          rw [if_pos z] at hq2
          rw [if_pos (by omega)]
          refine ih (i + 1) _ E (by omega) (fun q => by omega) hE (by simp only [List.length_append] at hl2 ⊢; omega) (fun E' hf' hr' => ?_)
          have := hq2 E' (hf.trans hf') hr'
          simp only [List.append_assoc, List.append_nil, List.nil_append] at this ⊢
          exact this
        · rw [if_neg (by omega)] at hl2 hq2
          rw [if_neg (by omega), r252 hX (by simp only [List.length_append] at hl2 ⊢; omega), sw_some, sb_v]
          refine ih (i + 1) _ E (by omega) (fun q => by omega) hE (by simp only [List.length_append] at hl2 ⊢; omega) (fun E' hf' hr' => ?_)
          have := hq2 E' (hf.trans hf') hr'
          simp only [List.append_assoc] at this ⊢
          exact this
      · rw [hmu, if_pos rfl, List.nil_append] at hl2
        rw [hmu, if_pos rfl, List.nil_append] at hq2
        rw [if_neg (show ¬ (true = false) from Bool.noConfusion)]
        refine ih (i + 1) _ E (by omega) (fun q => by omega) hE (by simp only [List.length_append] at hl2 ⊢; omega) (fun E' hf' hr' => ?_)
        have := hq2 E' (hf.trans hf') hr'
        simp only [List.append_assoc] at this ⊢
        exact this
    refine sw_ge (n246_20 hX) ?_
    simp (disch := omega) only [sw_ite, e9, ni_le, sw_bv]
    rw [if_neg (by omega)]
    rcases Nat.eq_zero_or_pos i with z | z
    · rw [if_pos (by omega)]
      have ek : md_kk m.1 i = [] := by
        unfold md_kk
        cases m.1[i - 1]? with
        | none => rfl
        | some u => dsimp only; rw [if_pos (Or.inr (by omega))]
      rw [ek, if_pos z, List.nil_append, List.nil_append] at hl
      rw [ek, if_pos z, List.nil_append, List.nil_append] at hq
      refine n59 o (by simp only [List.append_assoc] at hl ⊢; exact hl) (fun E' hf hr => ?_)
      have := hq E' hf hr
      simp only [List.append_assoc] at this ⊢
      exact this
    · rw [if_neg (by omega)]
      rw [if_neg (by omega)] at hl hq
      simp only [List.length_append, hcr] at hl
      have e53 : ∀ o : List Int32, (os X D o).1 (X + 53) i = u.1 := fun o => by rw [os_o (by omega) (by omega)]; exact he.2.1
      simp (disch := omega) only [sw_gu, ni_in, ni_nat, e53, ni_sub, sw_bv]
      refine ⟨decide_eq_true (by omega), ?_⟩
      have hii : i = i - 1 + 1 := by omega
      have := r247 (Q := sb_v (fun D2 => sm_gu (sm_in_b (ni i) 40) (sm_bv (sm_fe C 248 [.ref (X + 49), .int (D2.1 (X + 53) (ni i).toNatClampNeg)] D2) (fun D3 => sm_bv (sm_fe C 252 [.ref (X + 49)] D3) (fun D4 => sm_fx C 246 59 [.ref (X + 49), .int (ni i)] [] D4)))) Q) (o := o) h hpk hnx (i := i - 1) (by omega) (by rw [← hii]; omega) (by
        rw [← hii]
        simp only [sb_v]
        rw [ni_nat (by omega), e53]
        simp (disch := omega) only [sw_gu, ni_in, sw_bv]
        refine ⟨decide_eq_true (by omega), ?_⟩
        rw [r248 hX hx (by rw [List.length_append]; omega), sw_some, sb_v, sw_bv, r252 hX (by simp only [List.length_append]; omega), sw_some, sb_v]
        refine n59 _ (by simp only [List.length_append, hcr]; omega) (fun E' hf hr => ?_)
        have := hq E' hf hr
        simp only [List.append_assoc] at this ⊢
        exact this)
      rw [← hii, epar] at this
      simp (disch := omega) only [ni_nat, ni_in] at this
      exact this
/-- the written bytes, whole -/
def RO (X : Nat) (W : List Int32) (D : sm_D) : Prop := D.1 (X + 49) 43 = ni W.length ∧ W.length ≤ 60000 ∧ (∀ i, i < W.length → D.1 (X + 80) i = (md_nth W i).toInt8.toInt32)
theorem r246 (h : RV C X T N m D) (hK : RKP X T N m D) (hB : 1 ≤ m.1.length → HBm m ∧ md_pk m.1 ∧ NXm m.1 ∧ (md_oc m.1).length ≤ 8000 ∧ (md_write T m).length ≤ 20000)
    (hok : 1 ≤ m.1.length → ∀ E, fr (fun c j => sWr X c j ∨ s0 X c j) D E → RV C X T N m E → RO X (md_write T m) E → E.1 (X + 49) 0 = ni 0 → Q (.inl (some (.int (ni (md_write T m).length)))) E)
    (her : m = md_0 → ∀ E, fr (s0 X) D E → E.1 (X + 49) 0 = ni 1 → Q (.inl (some (.int (ni 0)))) E) :
    sw (sm_fe C 246 [.ref (X + 49)] D) Q := by
  have hX := h.1
  refine sw_ge (f246 hX) ?_
  rcases hK with ⟨hm, h7, -⟩ | ⟨h1, h7, -⟩
  · refine r155q hX (b := false) h7 (fun E hf h0 => ?_)
    rw [if_pos (show md_b false = ni 0 from rfl), sw_some]
    exact her hm E hf h0
  · obtain ⟨b1, b2, b3, b4, b5⟩ := hB h1
    refine r155q hX (b := true) h7 (fun E hf h0 => ?_)
    rw [if_neg (show ¬ (md_b true = ni 0) by decide)]
    have hV := h.f hf
    obtain ⟨-, hx, ⟨hm0, -⟩ | ⟨-, hH, h8, l, hM, hl16⟩⟩ := hV
    · rw [hm0] at h1; exact absurd h1 (by decide)
    · have hs : sm_dI E (X + 49) 43 (ni 0) = os X (sm_dI E (X + 49) 43 (ni 0)) [] := os_self dI_eq (fun i hi => by cases hi)
      have hfr : fr (s0 X) E E := fr.refl
      have hW : WV C X T N m l (sm_dI E (X + 49) 43 (ni 0)) := (show WV C X T N m l E from ⟨hH, h8, hM, hl16, b4⟩).w (fr.refl.dI (Or.inr (Or.inl ⟨rfl, rfl⟩))) ⟨by rw [dI_ne (by omega)]; exact hM.2.2.2.2.1.1, fun i hi => by rw [dI_ne (by omega)]; exact hM.2.2.2.2.1.2 i hi⟩
      have ek : md_kk m.1 0 = [] := by
        unfold md_kk
        cases m.1[0 - 1]? with
        | none => rfl
        | some u => dsimp only; rw [if_pos (Or.inr (by omega))]
      have key := r246_20 (Q := Q) b1 b2 b3 m.1.length 0 [] (sm_dI E (X + 49) 43 (ni 0)) (by omega) (fun _ => h1) hW (by
        rw [ek, List.nil_append, List.drop_zero, List.length_nil]
        show 0 + (md_write T m).length + 100 ≤ 60000
        omega) (fun E' hf' hr' => by
        rw [ek, List.nil_append, List.nil_append, List.drop_zero]
        show Q (.inl (some (.int (ni (md_write T m).length)))) (os X E' (md_write T m))
        have hW' := (hW.w hf' hr').w (fr_os (o := md_write T m)) (RT_os hr')
        refine hok h1 _ ⟨by rw [show (os X E' (md_write T m)).2 = E'.2 from rfl, hf'.1]; exact hf.1, fun c j hc => ?_⟩ ⟨hX, hx, Or.inr ⟨h1, hW'.1, hW'.2.1, l, hW'.2.2.1, hl16⟩⟩ ⟨os_l, by omega, fun i hi => os_r hi⟩ ?_
        · rw [fr_os.2 c j (fun z => hc (Or.inl z)), hf'.2 c j (fun z => hc (Or.inl z)), dI_ne (fun z => hc (Or.inl (Or.inr (Or.inl z)))), hf.2 c j (fun z => hc (Or.inr z))]
        · rw [os_o (by omega) (by omega), hf'.2 _ _ (by unfold sWr sPT rsc; omega), dI_ne (by omega)]; exact h0)
      rw [← hs] at key
      exact key
def ac_out (W : List Int32) (v : Int32) : Except Nat Int32 := match ac_in v W.length with
  | some k => .ok (md_nth W k)
  | none => .error 2
theorem r258 (hX : sm_Lay C X) {W : List Int32} (hW : RO X W D) (hB : mB W) {v : Int32} (hq : ∀ E, fr (s0 X) D E → E.1 (X + 49) 0 = a_c (ac_out W v) → Q (.inl (some (.int (a_v (ac_out W v))))) E) : sw (sm_fe C 258 [.ref (X + 49), .int v] D) Q := by
  obtain ⟨w1, w2, w3⟩ := hW
  refine sw_ge (f258 hX) ?_
  rw [sw_bi, w1, r157a (by omega), sw_some]
  show sw (sm_bi _ _) Q
  refine r155q hX rfl (fun E hf h0 => ?_)
  rw [sw_ite]
  simp only [md_b_0]
  unfold ac_out at hq
  cases h1 : ac_in v W.length with
  | none =>
    rw [h1] at h0 hq
    rw [if_pos (show Option.isSome (none : Option Nat) = false from rfl), sw_some]
    exact hq E hf h0
  | some k =>
    rw [h1] at h0 hq
    obtain ⟨hk, rfl⟩ := ac_in_some h1
    rw [if_neg (show ¬ (Option.isSome (some k) = false) by exact Bool.noConfusion)]
    have e80 : E.1 (X + 80) k &&& ni 255 = md_nth W k := by
      rw [hf.2 _ _ (by unfold s0; omega), w3 k hk]
      obtain ⟨n, hn, e⟩ := hB (md_nth W k) (by rw [md_nth_get hk]; exact List.getElem_mem _)
      rw [e]
      exact md_a255 n hn
    simp (disch := omega) only [sw_gu, ni_in, ni_nat, sw_some, e80]
    exact ⟨decide_eq_true (by omega), hq E hf h0⟩
theorem r259 (hX : sm_Lay C X) {W : List Int32} (hW : RO X W D) (hB : mB W)
    (hok : W.length ≤ 8000 → ∀ E, fr (sFd X) D E → RB X W E → E.1 (X + 49) 0 = ni 0 → Q (.inl (some (.int (ni W.length)))) E)
    (her : ¬ W.length ≤ 8000 → ∀ E, fr (s0 X) D E → E.1 (X + 49) 0 = ni 1 → Q (.inl (some (.int (ni 0)))) E) :
    sw (sm_fe C 259 [.ref (X + 49)] D) Q := by
  obtain ⟨w1, w2, w3⟩ := hW
  refine sw_ge (f259 hX) ?_
  simp (disch := omega) only [sw_ite, w1, ni_lt]
  by_cases h8 : W.length ≤ 8000
  · rw [if_neg (by omega)]
    refine sw_ge (n259_16 hX) ?_
    refine r155q hX (b := true) rfl (fun E hf h0 => ?_)
    rw [if_neg (show ¬ (md_b true = ni 0) by decide)]
    have e43 : E.1 (X + 49) 43 = ni W.length := by rw [hf.2 _ _ (by unfold s0; omega)]; exact w1
    show sw (sm_fx C 259 34 [.ref (X + 49), .int (ni 0)] [] (sm_dI E (X + 49) 2 (E.1 (X + 49) 43))) Q
    rw [e43]
    have loop : ∀ (r k : Nat) (G : sm_D), k + r = W.length → fr (sFd X) D G → G.1 (X + 49) 0 = ni 0 → G.1 (X + 49) 2 = ni W.length → (∀ i, i < k → G.1 (X + 50) i = (md_nth W i).toInt8.toInt32) → sw (sm_fx C 259 34 [.ref (X + 49), .int (ni k)] [] G) Q := by
      intro r
      induction r with
      | zero =>
        intro k G hk hG g0 g2 g50
        refine sw_ge (n259_34 hX) ?_
        have g43 : G.1 (X + 49) 43 = ni W.length := by rw [hG.2 _ _ (by unfold sFd; omega)]; exact w1
        simp (disch := omega) only [sw_ite, g43, ni_le, sw_some, g2]
        rw [if_pos (by omega)]
        exact hok h8 G hG ⟨g2, h8, fun i hi => g50 i (by omega), hB⟩ g0
      | succ r ih =>
        intro k G hk hG g0 g2 g50
        refine sw_ge (n259_34 hX) ?_
        have g43 : G.1 (X + 49) 43 = ni W.length := by rw [hG.2 _ _ (by unfold sFd; omega)]; exact w1
        have g80 : G.1 (X + 80) k = (md_nth W k).toInt8.toInt32 := by rw [hG.2 _ _ (by unfold sFd; omega)]; exact w3 k (by omega)
        simp (disch := omega) only [sw_ite, g43, ni_le, sw_gu, ni_in, ni_nat, g80, nar_by, ni_add]
        rw [if_neg (by omega)]
        refine ⟨decide_eq_true (by omega), decide_eq_true (by omega), ih (k + 1) _ (by omega) (hG.dI (by unfold sFd; omega)) (by rw [dI_ne (by omega)]; exact g0) (by rw [dI_ne (by omega)]; exact g2) (fun i hi => ?_)⟩
        by_cases hik : i = k
        · subst hik; rw [dI_eq]
        · rw [dI_ne (by omega)]; exact g50 i (by omega)
    exact loop W.length 0 _ (by omega) ((hf.mono (fun c j hc => by unfold s0 at hc; unfold sFd; omega)).dI (by unfold sFd; omega)) (by rw [dI_ne (by omega)]; exact h0) dI_eq (fun i hi => by omega)
  · rw [if_pos (by omega)]
    refine sw_ge (n259_16 hX) ?_
    refine r155q hX (b := false) rfl (fun E hf h0 => ?_)
    rw [if_pos (show md_b false = ni 0 from rfl), sw_some]
    exact her h8 E hf h0
end RHT
