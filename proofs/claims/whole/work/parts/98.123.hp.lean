/-! ===== the reference: a head is written ===== -/
/-- the reference can write a message -/
def WV (C : sm_K) (X : Nat) (T : Nat → Int32) (N : Nat) (m : md_M) (l : List Int32) (E : sm_D) : Prop := rH C X T N E ∧ E.1 (X + 49) 8 = sm_k (-1) ∧ RM X T N E m l ∧ l.length ≤ 16400 ∧ (md_oc m.1).length ≤ 8000
section RHR
variable {C : sm_K} {X N : Nat} {T : Nat → Int32} {D E : sm_D} {Q : (Option Value ⊕ Nat) → sm_D → Prop} {m : md_M} {o l : List Int32}
theorem WV.w (h : WV C X T N m l D) (hf : fr (sWr X) D E) (hT : RT X l E) : WV C X T N m l E := by
  obtain ⟨hH, h8, hM, hl, ho⟩ := h
  have g : ∀ c j, (rmc X c j ∨ c = X + 51 ∨ (c = X + 49 ∧ j = 8)) → ¬ rsc X c j → E.1 c j = D.1 c j := fun c j hc hn => hf.2 c j (fun z => by
    unfold sWr sPT at z
    unfold rmc at hc
    rcases z with (z | z) | z
    · exact hn z
    · omega
    · omega)
  exact ⟨⟨hH.1, hH.2.1, hH.2.2.1, fun k hk => by rw [g _ _ (by omega) (by unfold rsc; omega)]; exact hH.2.2.2.1 k hk, hH.2.2.2.2⟩, by rw [g _ _ (by omega) (by unfold rsc; omega)]; exact h8, hM.of2 (fun c j hc hn => g c j (Or.inl hc) hn) hT hf.1, hl, ho⟩
theorem RT_os (h : RT X l D) : RT X l (os X D o) := ⟨by rw [os_o (by omega) (by omega)]; exact h.1, fun i hi => by rw [os_o (by omega) (by omega)]; exact h.2 i hi⟩
theorem fr_os : fr (sWr X) D (os X D o) := ⟨rfl, fun c j hc => os_o (fun z => hc (Or.inr (Or.inl z))) (fun z => hc (Or.inr (Or.inr z)))⟩
theorem md_nM_len {h : md_F} : (md_nM T h).length = h.2.2.1 - h.2.1 := md_sl_len
/-- a field is written -/
theorem r254 (h : WV C X T N m l D) {g : Nat} {hd : md_F} (hg : g < 200) (hR : RF1 X g hd D) (hz : FZ T N hd) (hnm : hd.2.1 < hd.2.2.1) (hl : o.length + (md_nM T hd ++ (md_w ": " ++ (md_fold (md_vl T hd) ((md_nM T hd).length + 2) ++ md_cr))).length ≤ 60000)
    (hq : ∀ E', fr (sWr X) D E' → RT X l E' → Q (.inl none) (os X E' (o ++ (md_nM T hd ++ (md_w ": " ++ (md_fold (md_vl T hd) ((md_nM T hd).length + 2) ++ md_cr)))))) :
    sw (sm_fe C 254 [.ref (X + 49), .int (ni g)] (os X D o)) Q := by
  obtain ⟨hH, h8, hM, hl16, hoc⟩ := id h
  have hX := hH.1
  have hx := hH.2.1
  have hN := hH.2.2.1
  obtain ⟨r1, r2, r3, r4, r5⟩ := hR
  obtain ⟨z1, z2, z3, z4, z5⟩ := id hz
  have hcl : (md_w ": ").length = 2 := by decide
  have hcr : md_cr.length = 2 := rfl
  simp only [List.length_append, md_nM_len, hcl, hcr] at hl
  rw [md_nM_len] at hq
  have hvl : (md_vl T hd).length ≤ 8000 := by
    have := md_chs_len (T := T) (z := hd.2.2.2) (q := md_go T hd.2.2.2 (hd.2.2.1 + 1))
    show (md_chs T hd.2.2.2 (md_go T hd.2.2.2 (hd.2.2.1 + 1))).length ≤ 8000
    omega
  have htr : (md_tr (md_vl T hd)).length ≤ (md_vl T hd).length := by
    have : (md_tr (md_vl T hd)).length = md_tl (md_vl T hd) - md_ld (md_vl T hd) := md_sl_len
    have h2 : md_tl (md_vl T hd) ≤ (md_vl T hd).length := md_rt_le _
    omega
  have loop : ∀ (n k : Nat) (o2 : List Int32), k + n = hd.2.2.1 - hd.2.1 → o2.length + n + 2 + (md_fold (md_vl T hd) (hd.2.2.1 - hd.2.1 + 2)).length + 2 ≤ 60000 → (∀ E', fr (sWr X) D E' → RT X l E' → Q (.inl none) (os X E' (o2 ++ (md_sl T (hd.2.1 + k) hd.2.2.1 ++ (md_w ": " ++ (md_fold (md_vl T hd) (hd.2.2.1 - hd.2.1 + 2) ++ md_cr)))))) → sw (sm_fx C 254 2 [.ref (X + 49), .int (ni g), .int (ni k), sm_junk, sm_junk, sm_junk, sm_junk] [] (os X D o2)) Q := by
    intro n
    induction n with
    | zero =>
      intro k o2 hk ho2 hq2
      have e72 : ∀ o : List Int32, (os X D o).1 (X + 72) g = ni (hd.2.2.1 - hd.2.1) := fun o => by rw [os_o (by omega) (by omega)]; exact r3
      refine sw_ge (n254_2 hX) ?_
      simp (disch := omega) only [sw_gu, ni_in, ni_nat, e72, sw_ite, ni_le, sw_bv]
      rw [if_pos (by omega), r249 hX (st64 hx) (by rw [hcl]; omega), sw_some, sb_v]
      refine ⟨decide_eq_true hg, ?_⟩
      simp (disch := omega) only [sw_gu, ni_in, ni_nat, e72, ni_add, sw_bv]
      refine ⟨decide_eq_true hg, ?_⟩
      rw [md_sl_nil (by omega), List.nil_append] at hq2
      have hFT : FT X T N g hd.2.2.1 hd.2.2.2 (os X D (o2 ++ md_w ": ")) := ⟨hg, by rw [os_o (by omega) (by omega)]; exact r4, by rw [os_o (by omega) (by omega)]; exact r5, z1, z2, z3, z4⟩
      refine r212 (rH_os hH) (by rw [os_o (by omega) (by omega)]; exact h8) (RT_os hM.2.2.2.2.1) hFT (fun E1 hf1 hT1 hP1 => ?_)
      simp only [sb_v]
      have hs : E1 = os X E1 (o2 ++ md_w ": ") := os_self (by rw [hf1.2 _ _ (by unfold sPT rsc; omega), os_l]) (fun i hi => by rw [hf1.2 _ _ (by unfold sPT rsc; omega), os_r hi])
      have hfD : fr (sWr X) D E1 := fr_os.trans (hf1.mono (fun c j hc => Or.inl hc))
      have hq3 := hq2 E1 hfD hT1
      rw [md_fold_tr] at ho2 hq3
      have hP1' : PLN X (md_tr (md_vl T hd)) E1 := hP1
      have key := r254_60 (Q := Q) hX hP1' (by omega) (md_vl T hd).length 0 (hd.2.2.1 - hd.2.1 + 2) (o2 ++ md_w ": ") (by omega) (Nat.zero_le _) (by omega) (by rw [List.length_append, hcl]; omega) (by rw [List.append_assoc]; exact hq3)
      rw [← hs] at key
      exact key
    | succ n ih =>
      intro k o2 hk ho2 hq2
      have e72 : ∀ o : List Int32, (os X D o).1 (X + 72) g = ni (hd.2.2.1 - hd.2.1) := fun o => by rw [os_o (by omega) (by omega)]; exact r3
      have e71 : ∀ o : List Int32, (os X D o).1 (X + 71) g = ni hd.2.1 := fun o => by rw [os_o (by omega) (by omega)]; exact r2
      refine sw_ge (n254_2 hX) ?_
      simp (disch := omega) only [sw_gu, ni_in, ni_nat, e72, e71, sw_ite, ni_le, sw_bi, ni_add]
      rw [if_neg (by omega), (rH_os hH).at (by omega), sw_some]
      simp only [sb_i]
      rw [sw_bv, r250 hX (by omega), sw_some, sb_v]
      refine ⟨decide_eq_true hg, decide_eq_true hg, ih (k + 1) _ (by omega) (by rw [List.length_append]; show o2.length + 1 + n + 2 + _ + 2 ≤ 60000; omega) (fun E' he hr => ?_)⟩
      have := hq2 E' he hr
      rw [md_sl_cons (by omega)] at this
      rw [List.append_assoc]
      exact this
  refine sw_ge (f254 hX) ?_
  refine loop (hd.2.2.1 - hd.2.1) 0 o (by omega) (by omega) hq
theorem md_fold_nil {w : Nat} : md_fold [] w = [] := rfl
/-- the fields of an entity are written -/
theorem r253_7 {j : Nat} {u : md_E} (hj : m.1[j]? = some u) : ∀ (n k : Nat) (o : List Int32) (D : sm_D), k + n = u.2.1.length → WV C X T N m l D → o.length + (md_wfs T (u.2.1.drop k)).length ≤ 60000 →
    (∀ E', fr (sWr X) D E' → RT X l E' → sw (sm_fx C 253 7 [.ref (X + 49), .int (ni j), .int (ni (md_tb m.1 j + u.2.1.length)), sm_junk, sm_junk, sm_junk] [] (os X E' (o ++ md_wfs T (u.2.1.drop k)))) Q) →
    sw (sm_fx C 253 7 [.ref (X + 49), .int (ni j), .int (ni (md_tb m.1 j + k)), sm_junk, sm_junk, sm_junk] [] (os X D o)) Q := by
  intro n
  induction n with
  | zero =>
    intro k o D hk h ho hq
    have hkl : k = u.2.1.length := by omega
    subst hkl
    rw [List.drop_length] at hq
    have := hq D fr.refl h.2.2.1.2.2.2.2.1
    rw [show md_wfs T [] = [] from rfl, List.append_nil] at this
    exact this
  | succ n ih =>
    intro k o D hk h ho hq
    have hX := h.1.1
    have hjl : j < m.1.length := by
      rcases Nat.lt_or_ge j m.1.length with z | z
      · exact z
      · rw [List.getElem?_eq_none z] at hj; cases hj
    have h40 := h.2.2.1.2.2.1
    have h200 := h.2.2.1.2.2.2.1
    have htb : md_tb m.1 j + u.2.1.length ≤ m.tot := md_tb_get hj
    obtain ⟨-, ⟨e1, e2, e3, e4⟩, -⟩ := h.2.2.1.2.2.2.2.2.2.1 j u hj
    have hkl : k < u.2.1.length := by omega
    have hgk : u.2.1[k]? = some u.2.1[k] := List.getElem?_eq_getElem hkl
    obtain ⟨q1, q2, q3, q4⟩ := e4 k _ hgk
    have e54 : (os X D o).1 (X + 54) j = ni (md_tb m.1 j) := by rw [os_o (by omega) (by omega)]; exact e1
    have e55 : (os X D o).1 (X + 55) j = ni u.2.1.length := by rw [os_o (by omega) (by omega)]; exact e2
    have e70 : (os X D o).1 (X + 70) (md_tb m.1 j + k) = ni (u.2.1[k]).1 := by rw [os_o (by omega) (by omega)]; exact q1.1
    rw [List.drop_eq_getElem_cons hkl, md_wfs, List.length_append] at ho
    rw [List.drop_eq_getElem_cons hkl, md_wfs] at hq
    refine sw_ge (n253_7 hX) ?_
    simp (disch := omega) only [sw_gu, ni_in, ni_nat, e54, e55, ni_add, sw_ite, ni_le, e70, ni_inj, sw_bv]
    rw [if_neg (by omega)]
    refine ⟨decide_eq_true (by omega), decide_eq_true (by omega), decide_eq_true (by omega), ?_⟩
    by_cases k1 : (u.2.1[k]).1 = 1
    · rw [if_pos k1]
      have ew : md_wf T u.2.1[k] = [] := by unfold md_wf; rw [if_pos (Or.inl k1)]
      rw [ew, List.nil_append] at hq
      exact ih (k + 1) o D (by omega) h (by omega) hq
    · rw [if_neg k1]
      refine ⟨decide_eq_true (by omega), ?_⟩
      by_cases k2 : (u.2.1[k]).1 = 2
      · rw [if_pos k2]
        have ew : md_wf T u.2.1[k] = [] := by unfold md_wf; rw [if_pos (Or.inr k2)]
        rw [ew, List.nil_append] at hq
        exact ih (k + 1) o D (by omega) h (by omega) hq
      · rw [if_neg k2]
        have ew : md_wf T u.2.1[k] = md_nM T u.2.1[k] ++ (md_w ": " ++ (md_fold (md_vl T u.2.1[k]) ((md_nM T u.2.1[k]).length + 2) ++ md_cr)) := by unfold md_wf; rw [if_neg (by omega)]
        rw [ew] at ho hq
        refine r254 h (by omega) q1 q3 q4 (by omega) (fun E' hf hr => ?_)
        simp only [sb_v]
        refine ih (k + 1) _ E' (by omega) (h.w hf hr) (by rw [List.length_append]; omega) (fun E2 hf2 hr2 => ?_)
        rw [List.append_assoc]
        exact hq E2 (hf.trans hf2) hr2
end RHR
