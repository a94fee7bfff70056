/-! ===== the reference: what it writes ===== -/
/-- the written bytes -/
def os (X : Nat) (D : sm_D) (o : List Int32) : sm_D := (fun a i => if a = X + 49 then (if i = 43 then ni o.length else D.1 a i) else if a = X + 80 then (if i < o.length then (md_nth o i).toInt8.toInt32 else D.1 a i) else D.1 a i, D.2)
section RHO
variable {C : sm_K} {X N : Nat} {T : Nat → Int32} {D E : sm_D} {Q : (Option Value ⊕ Nat) → sm_D → Prop} {m : md_M} {o : List Int32}
theorem os_o {a i : Nat} (h1 : ¬ (a = X + 49 ∧ i = 43)) (h2 : a ≠ X + 80) : (os X D o).1 a i = D.1 a i := by
  unfold os
  dsimp only
  by_cases h : a = X + 49
  · rw [if_pos h, if_neg (fun z => h1 ⟨h, z⟩)]
  · rw [if_neg h, if_neg h2]
theorem os_l : (os X D o).1 (X + 49) 43 = ni o.length := by unfold os; dsimp only; rw [if_pos rfl, if_pos rfl]
theorem os_r {i : Nat} (h : i < o.length) : (os X D o).1 (X + 80) i = (md_nth o i).toInt8.toInt32 := by unfold os; dsimp only; rw [if_neg (by omega), if_pos rfl, if_pos h]
theorem os_g {i : Nat} (h : ¬ i < o.length) : (os X D o).1 (X + 80) i = D.1 (X + 80) i := by unfold os; dsimp only; rw [if_neg (by omega), if_pos rfl, if_neg h]
theorem r250 (hX : sm_Lay C X) {c : Int32} (hm : o.length < 60000) : sm_fe C 250 [.ref (X + 49), .int c] (os X D o) = some (.inl none, os X D (o ++ [c])) := by
  apply sw_eq
  refine sw_ge (f250 hX) ?_
  simp (disch := omega) only [sw_gu, os_l, ni_in, ni_nat, sw_some, nar_by]
  refine ⟨decide_eq_true hm, ?_⟩
  refine congrArg (Prod.mk _) (Prod.ext ?_ rfl)
  rw [up_ne (by omega), os_l, ni_add]
  funext a i
  have hl : (o ++ [c]).length = o.length + 1 := by rw [List.length_append]; rfl
  by_cases h43 : a = X + 49 ∧ i = 43
  · obtain ⟨rfl, rfl⟩ := h43
    rw [os_l, hl]
    exact up_eq
  · show sm_up (sm_up _ _ _ _) _ _ _ a i = _
    rw [up_ne h43]
    by_cases h80 : a = X + 80
    · subst h80
      by_cases hi : i = o.length
      · subst hi
        rw [up_eq, os_r (by rw [hl]; omega), md_nth_app3 (Nat.le_refl _), Nat.sub_self]
        rfl
      · rw [up_ne (fun z => hi z.2)]
        by_cases hi2 : i < o.length
        · rw [os_r hi2, os_r (by rw [hl]; omega), md_nth_app1 hi2]
        · rw [os_g hi2, os_g (by rw [hl]; omega)]
    · rw [up_ne (fun z => h80 z.1), os_o h43 h80, os_o h43 h80]
theorem r249 (hX : sm_Lay C X) {s : Nat} {l : List Int32} (hs : st C s l) (hl : o.length + l.length ≤ 60000) : sm_fe C 249 [.ref (X + 49), .ref s] (os X D o) = some (.inl none, os X D (o ++ l)) := by
  obtain ⟨w, hw, -⟩ := id hs
  have h1000 : l.length < 1000 := by obtain ⟨_, _, _, _, z, _⟩ := hs; exact z
  have loop : ∀ (n k : Nat) (o : List Int32), k + n = l.length → o.length + n ≤ 60000 → sm_fx C 249 2 [.ref (X + 49), .ref s, .int (ni k)] [] (os X D o) = some (.inl none, os X D (o ++ l.drop k)) := by
    intro n
    induction n with
    | zero =>
      intro k o hk ho
      apply sw_eq
      refine sw_ge (n249_2 hX hw) ?_
      simp (disch := omega) only [sw_bi, s260 hw, sw_some, sb_i, sw_ite, ni_le]
      rw [if_pos (by omega), List.drop_of_length_le (by omega), List.append_nil]
    | succ n ih =>
      intro k o hk ho
      have hkl : k < l.length := by omega
      apply sw_eq
      refine sw_ge (n249_2 hX hw) ?_
      simp (disch := omega) only [sw_bi, s260 hw, sw_some, sb_i, sw_ite, ni_le, s262 hs hkl, sw_bv, r250 hX (show o.length < 60000 by omega), sb_v, ni_add]
      rw [if_neg (by omega), ih (k + 1) _ (by omega) (by rw [List.length_append]; show o.length + 1 + n ≤ 60000; omega), sw_some, drop_c hkl, List.append_assoc]
      rfl
  apply sw_eq
  refine sw_ge (f249 hX hw) ?_
  rw [loop l.length 0 o (by omega) hl, sw_some, List.drop_zero]
theorem r252 (hX : sm_Lay C X) (hl : o.length + 2 ≤ 60000) : sm_fe C 252 [.ref (X + 49)] (os X D o) = some (.inl none, os X D (o ++ md_cr)) := by
  apply sw_eq
  refine sw_ge (f252 hX) ?_
  rw [sw_bv, r250 hX (by omega), sw_some, sb_v, sw_bv, r250 hX (by rw [List.length_append]; show o.length + 1 < 60000; omega), sw_some, sb_v, sw_some, List.append_assoc]
  rfl
theorem st64 (h : tx C) : st C (C.1.1 64) (md_w ": ") := st_tx h 64 rfl rfl (by decide) (by decide)
theorem st65 (h : tx C) : st C (C.1.1 65) (md_w "content-type: ") := st_tx h 65 rfl rfl (by decide) (by decide)
theorem st66 (h : tx C) : st C (C.1.1 66) (md_w "=\"") := st_tx h 66 rfl rfl (by decide) (by decide)
theorem st67 (h : tx C) : st C (C.1.1 67) (md_w "part") := st_tx h 67 rfl rfl (by decide) (by decide)
theorem st68 (h : tx C) : st C (C.1.1 68) (md_w "content-transfer-encoding: base64") := st_tx h 68 rfl rfl (by decide) (by decide)
theorem st69 (h : tx C) : st C (C.1.1 69) (md_w "--part") := st_tx h 69 rfl rfl (by decide) (by decide)
theorem st70 (h : tx C) : st C (C.1.1 70) (md_w "--") := st_tx h 70 rfl rfl (by decide) (by decide)
theorem md_lt10 {v : Int32} : (v ≤ ni 9) = (v < ni 10) := by
  rw [Int32.le_iff_toInt_le, Int32.lt_iff_toInt_lt]
  have e9 : (ni 9).toInt = 9 := rfl
  have e10 : (ni 10).toInt = 10 := rfl
  rw [e9, e10]
  apply propext
  omega
theorem md_nu_len {v : Int32} : (md_nu v).length ≤ 2 := by
  unfold md_nu
  split <;> simp
theorem r251 (hX : sm_Lay C X) {v : Int32} (hl : o.length + 2 ≤ 60000) : sm_fe C 251 [.ref (X + 49), .int v] (os X D o) = some (.inl none, os X D (o ++ md_nu v)) := by
  have fin : ∀ o : List Int32, o.length < 60000 → sm_fx C 251 17 [.ref (X + 49), .int v] [] (os X D o) = some (.inl none, os X D (o ++ [ni 48 + (v - v / ni 10 * ni 10)])) := by
    intro o ho
    apply sw_eq
    refine sw_ge (n251_17 hX) ?_
    rw [sw_bv, r250 hX ho, sw_some, sb_v, sw_some]
  apply sw_eq
  refine sw_ge (f251 hX) ?_
  unfold md_nu
  rw [sw_ite]
  by_cases hv : v < ni 10
  · rw [if_pos (md_lt10.mpr hv), if_pos hv, fin _ (by omega), sw_some]
    rfl
  · rw [if_neg (fun z => hv (md_lt10.mp z)), if_neg hv, sw_bv, r250 hX (by omega), sw_some, sb_v, fin _ (by rw [List.length_append]; show o.length + 1 < 60000; omega), sw_some, List.append_assoc]
theorem r248 (hX : sm_Lay C X) (hx : tx C) {v : Int32} (hl : o.length + 8 ≤ 60000) : sm_fe C 248 [.ref (X + 49), .int v] (os X D o) = some (.inl none, os X D (o ++ md_dl v)) := by
  have h6 : (md_w "--part").length = 6 := by decide
  have e : md_w "--part" = md_w "--" ++ md_w "part" := by decide
  apply sw_eq
  refine sw_ge (f248 hX) ?_
  rw [sw_bv, r249 hX (st69 hx) (by rw [h6]; omega), sw_some, sb_v, sw_bv, r251 hX (by rw [List.length_append, h6]; omega), sw_some, sb_v, sw_some]
  unfold md_dl md_pn
  rw [e, List.append_assoc, List.append_assoc]
theorem r255 (hX : sm_Lay C X) {a z : Int32} {l xs : List Int32} (hl16 : l.length ≤ 16400) (hc : ∀ i, i < l.length → D.1 (X + 63) i = md_nth l i) (hs : SLT l a z xs) (hl : o.length + xs.length ≤ 60000) : sm_fe C 255 [.ref (X + 49), .int a, .int z] (os X D o) = some (.inl none, os X D (o ++ xs)) := by
  obtain ⟨c, rfl, rfl, c3, c4⟩ := SLT.at hc hs
  have loop : ∀ (n k : Nat) (o : List Int32), k + n = xs.length → o.length + n ≤ 60000 → sm_fx C 255 2 [.ref (X + 49), .int (ni c), .int (ni xs.length), .int (ni k)] [] (os X D o) = some (.inl none, os X D (o ++ xs.drop k)) := by
    intro n
    induction n with
    | zero =>
      intro k o hk ho
      apply sw_eq
      refine sw_ge (n255_2 hX) ?_
      simp (disch := omega) only [sw_ite, ni_le, sw_some]
      rw [if_pos (by omega), List.drop_of_length_le (by omega), List.append_nil]
    | succ n ih =>
      intro k o hk ho
      have hkl : k < xs.length := by omega
      have e63 : (os X D o).1 (X + 63) (c + k) = md_nth xs k := by rw [os_o (by omega) (by omega)]; exact c4 k hkl
      apply sw_eq
      refine sw_ge (n255_2 hX) ?_
      simp (disch := omega) only [sw_ite, ni_le, sw_gu, ni_add, ni_in, ni_nat, e63, sw_bv, r250 hX (show o.length < 60000 by omega), sw_some, sb_v]
      rw [if_neg (by omega), ih (k + 1) _ (by omega) (by rw [List.length_append]; show o.length + 1 + n ≤ 60000; omega), sw_some, drop_c hkl, List.append_assoc]
      exact ⟨decide_eq_true (by omega), rfl⟩
  apply sw_eq
  refine sw_ge (f255 hX) ?_
  rw [loop xs.length 0 o (by omega) hl, sw_some, List.drop_zero]
end RHO
