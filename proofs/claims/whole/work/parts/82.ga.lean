/-! ===== the reference: signs, the walk ===== -/
section RGA
variable {C : sm_K} {X N e q : Nat} {T : Nat → Int32} {D E : sm_D} {Q : (Option Value ⊕ Nat) → sm_D → Prop}
theorem r157 {c : Int32} {a b : Nat} : sm_fe C 157 [.int c, .int (ni a), .int (ni b)] D = some (.inl (some (.int (md_b (md_in c a b)))), D) := by
  apply sw_eq
  refine sw_ge f157 ?_
  simp only [sw_ite, sw_some, nar_b0, nar_b1]
  by_cases h1 : c < ni a
  · rw [if_pos h1, md_in_lt h1]; rfl
  · rw [if_neg h1]
    by_cases h2 : ni b < c
    · rw [if_pos h2, md_in_gt h2]; rfl
    · rw [if_neg h2, md_in_t h1 h2]; rfl
theorem r170 {c : Int32} : sm_fe C 170 [.int c] D = some (.inl (some (.int (md_b (md_bl c)))), D) := by
  apply sw_eq
  refine sw_ge f170 ?_
  simp only [sw_ite, sw_some, nar_b0, nar_b1, md_bl]
  by_cases h1 : c = ni 32
  · rw [if_pos h1, decide_eq_true h1]; rfl
  · rw [if_neg h1, decide_eq_false h1]
    by_cases h2 : c = ni 9
    · rw [if_pos h2, decide_eq_true h2]; rfl
    · rw [if_neg h2, decide_eq_false h2]; rfl
theorem r168 {c : Int32} : sm_fe C 168 [.int c] D = some (.inl (some (.int (md_sm c))), D) := by
  apply sw_eq
  refine sw_ge f168 ?_
  simp only [sw_bi, r157, sw_ite, sw_some, sb_i, md_b_0, md_sm]
  cases md_in c 65 90 <;> rfl
theorem nar_bb {b : Bool} : sm_nar .boolean (md_b b) = md_b b := by cases b <;> rfl
theorem r186 {c : Int32} : sm_fe C 186 [.int c] D = some (.inl (some (.int (md_b (md_dg c)))), D) := by
  apply sw_eq
  refine sw_ge f186 ?_
  simp only [sw_bi, r157, sw_some, sb_i, nar_bb, md_dg]
theorem r185 {c : Int32} : sm_fe C 185 [.int c] D = some (.inl (some (.int (md_b (md_lt c)))), D) := by
  apply sw_eq
  refine sw_ge f185 ?_
  simp only [sw_bi, r157, sw_some, sb_i, nar_b0, nar_b1, sw_ite, md_b_0, md_lt]
  cases md_in c 97 122 <;> cases md_in c 65 90 <;> rfl
theorem md_tok_w : md_w "()<>@,;:\\\"/[]?=" = [ni 40, ni 41, ni 60, ni 62, ni 64, ni 44, ni 59, ni 58, ni 92, ni 34, ni 47, ni 91, ni 93, ni 63, ni 61] := by decide
theorem md_atm_w : md_w "!#$%&'*+-/=?^_`{|}~" = [ni 33, ni 35, ni 36, ni 37, ni 38, ni 39, ni 42, ni 43, ni 45, ni 47, ni 61, ni 63, ni 94, ni 95, ni 96, ni 123, ni 124, ni 125, ni 126] := by decide
theorem md_bs_w : md_w " '()+,-./_:=?" = [ni 32, ni 39, ni 40, ni 41, ni 43, ni 44, ni 45, ni 46, ni 47, ni 95, ni 58, ni 61, ni 63] := by decide
theorem md_if_or {α : Type} {p q : Bool} {x y : α} : (if p = false then (if q = false then x else y) else y) = if (p || q) = false then x else y := by cases p <;> cases q <;> rfl
theorem md_b_if {p : Bool} : (if p = false then md_b false else md_b true) = md_b p := by cases p <;> rfl
theorem r183 {c : Int32} : sm_fe C 183 [.int c] D = some (.inl (some (.int (md_b (md_tok c)))), D) := by
  apply sw_eq
  refine sw_ge f183 ?_
  simp only [sw_bi, r157, sw_some, sb_i, nar_b0, nar_b1, sw_ite, md_b_0]
  unfold md_tok
  rw [md_tok_w]
  cases h : md_in c 33 126
  · rw [if_pos rfl]; rfl
  · rw [if_neg (fun z => nomatch z), Bool.true_and]
    by_cases a1 : c = ni 40
    · rw [if_pos a1, a1]; rfl
    rw [if_neg a1]
    by_cases a2 : c = ni 41
    · rw [if_pos a2, a2]; rfl
    rw [if_neg a2]
    by_cases a3 : c = ni 60
    · rw [if_pos a3, a3]; rfl
    rw [if_neg a3]
    by_cases a4 : c = ni 62
    · rw [if_pos a4, a4]; rfl
    rw [if_neg a4]
    by_cases a5 : c = ni 64
    · rw [if_pos a5, a5]; rfl
    rw [if_neg a5]
    by_cases a6 : c = ni 44
    · rw [if_pos a6, a6]; rfl
    rw [if_neg a6]
    by_cases a7 : c = ni 59
    · rw [if_pos a7, a7]; rfl
    rw [if_neg a7]
    by_cases a8 : c = ni 58
    · rw [if_pos a8, a8]; rfl
    rw [if_neg a8]
    by_cases a9 : c = ni 92
    · rw [if_pos a9, a9]; rfl
    rw [if_neg a9]
    by_cases b1 : c = ni 34
    · rw [if_pos b1, b1]; rfl
    rw [if_neg b1]
    by_cases b2 : c = ni 47
    · rw [if_pos b2, b2]; rfl
    rw [if_neg b2]
    by_cases b3 : c = ni 91
    · rw [if_pos b3, b3]; rfl
    rw [if_neg b3]
    by_cases b4 : c = ni 93
    · rw [if_pos b4, b4]; rfl
    rw [if_neg b4]
    by_cases b5 : c = ni 63
    · rw [if_pos b5, b5]; rfl
    rw [if_neg b5]
    by_cases b6 : c = ni 61
    · rw [if_pos b6, b6]; rfl
    rw [if_neg b6]
    simp only [List.contains_cons, List.contains_nil, beq_false_of_ne a1, beq_false_of_ne a2, beq_false_of_ne a3, beq_false_of_ne a4, beq_false_of_ne a5, beq_false_of_ne a6, beq_false_of_ne a7, beq_false_of_ne a8, beq_false_of_ne a9, beq_false_of_ne b1, beq_false_of_ne b2, beq_false_of_ne b3, beq_false_of_ne b4, beq_false_of_ne b5, beq_false_of_ne b6, Bool.or_false, Bool.not_false]
    rfl
theorem md_in_3 {c : Int32} {a : Nat} (ha : a < 1000) : md_in c a (a + 2) = (c == ni a || (c == ni (a + 1) || c == ni (a + 2))) := by
  rw [Bool.eq_iff_iff, md_in_iff (by omega) (by omega), Bool.or_eq_true, Bool.or_eq_true, beq_iff_eq, beq_iff_eq, beq_iff_eq]
  constructor
  · rintro ⟨n, h1, h2, rfl⟩
    rw [ni_inj (by omega) (by omega), ni_inj (by omega) (by omega), ni_inj (by omega) (by omega)]; omega
  · rintro (rfl | rfl | rfl)
    · exact ⟨a, by omega, by omega, rfl⟩
    · exact ⟨a + 1, by omega, by omega, rfl⟩
    · exact ⟨a + 2, by omega, by omega, rfl⟩
theorem md_in_4 {c : Int32} {a : Nat} (ha : a < 1000) : md_in c a (a + 3) = (c == ni a || (c == ni (a + 1) || (c == ni (a + 2) || c == ni (a + 3)))) := by
  rw [Bool.eq_iff_iff, md_in_iff (by omega) (by omega), Bool.or_eq_true, Bool.or_eq_true, Bool.or_eq_true, beq_iff_eq, beq_iff_eq, beq_iff_eq, beq_iff_eq]
  constructor
  · rintro ⟨n, h1, h2, rfl⟩
    rw [ni_inj (by omega) (by omega), ni_inj (by omega) (by omega), ni_inj (by omega) (by omega), ni_inj (by omega) (by omega)]; omega
  · rintro (rfl | rfl | rfl | rfl)
    · exact ⟨a, by omega, by omega, rfl⟩
    · exact ⟨a + 1, by omega, by omega, rfl⟩
    · exact ⟨a + 2, by omega, by omega, rfl⟩
    · exact ⟨a + 3, by omega, by omega, rfl⟩
theorem md_in_5 {c : Int32} {a : Nat} (ha : a < 1000) : md_in c a (a + 4) = (c == ni a || (c == ni (a + 1) || (c == ni (a + 2) || (c == ni (a + 3) || c == ni (a + 4))))) := by
  rw [Bool.eq_iff_iff, md_in_iff (by omega) (by omega), Bool.or_eq_true, Bool.or_eq_true, Bool.or_eq_true, Bool.or_eq_true, beq_iff_eq, beq_iff_eq, beq_iff_eq, beq_iff_eq, beq_iff_eq]
  constructor
  · rintro ⟨n, h1, h2, rfl⟩
    rw [ni_inj (by omega) (by omega), ni_inj (by omega) (by omega), ni_inj (by omega) (by omega), ni_inj (by omega) (by omega), ni_inj (by omega) (by omega)]; omega
  · rintro (rfl | rfl | rfl | rfl | rfl)
    · exact ⟨a, by omega, by omega, rfl⟩
    · exact ⟨a + 1, by omega, by omega, rfl⟩
    · exact ⟨a + 2, by omega, by omega, rfl⟩
    · exact ⟨a + 3, by omega, by omega, rfl⟩
    · exact ⟨a + 4, by omega, by omega, rfl⟩
theorem r184 {c : Int32} : sm_fe C 184 [.int c] D = some (.inl (some (.int (md_b (md_atm c)))), D) := by
  have i1 : md_in c 35 39 = _ := md_in_5 (c := c) (a := 35) (by omega)
  have i2 : md_in c 94 96 = _ := md_in_3 (c := c) (a := 94) (by omega)
  have i3 : md_in c 123 126 = _ := md_in_4 (c := c) (a := 123) (by omega)
  apply sw_eq
  refine sw_ge f184 ?_
  simp only [sw_bi, r157, r185, r186, sw_some, sb_i, nar_b0, nar_b1, sw_ite, md_b_0, i1, i2, i3]
  unfold md_atm
  rw [md_atm_w]
  simp only [List.contains_cons, List.contains_nil, Bool.or_false]
  cases md_lt c
  · cases md_dg c
    · rw [if_pos rfl, if_pos rfl]
      simp only [Bool.false_or]
      by_cases a1 : c = ni 33
      · rw [if_pos a1, a1]; rfl
      rw [if_neg a1, beq_false_of_ne a1, Bool.false_or]
      cases c == ni 35
      · cases c == ni 36
        · cases c == ni 37
          · cases c == ni 38
            · cases c == ni 39
              · simp only [Bool.false_or]
                rw [if_pos trivial]
                by_cases a2 : c = ni 42
                · rw [if_pos a2, a2]; rfl
                by_cases a3 : c = ni 43
                · rw [if_pos a3, a3]; rfl
                by_cases a4 : c = ni 45
                · rw [if_pos a4, a4]; rfl
                by_cases a5 : c = ni 47
                · rw [if_pos a5, a5]; rfl
                by_cases a6 : c = ni 61
                · rw [if_pos a6, a6]; rfl
                by_cases a7 : c = ni 63
                · rw [if_pos a7, a7]; rfl
                rw [if_neg a2, if_neg a3, if_neg a4, if_neg a5, if_neg a6, if_neg a7, beq_false_of_ne a2, beq_false_of_ne a3, beq_false_of_ne a4, beq_false_of_ne a5, beq_false_of_ne a6, beq_false_of_ne a7]
                simp only [Bool.false_or]
                cases c == ni (94 : Nat) <;> cases c == ni (94 + 1) <;> cases c == ni (94 + 2) <;> cases c == ni 123 <;> cases c == ni (123 + 1) <;> cases c == ni (123 + 2) <;> cases c == ni (123 + 3) <;> rfl
              · rfl
            · rfl
          · rfl
        · rfl
      · rfl
    · rfl
  · rfl
theorem r194 {c : Int32} : sm_fe C 194 [.int c] D = some (.inl (some (.int (md_b (md_bs c)))), D) := by
  have i1 : md_in c 39 41 = _ := md_in_3 (c := c) (a := 39) (by omega)
  have i2 : md_in c 43 47 = _ := md_in_5 (c := c) (a := 43) (by omega)
  apply sw_eq
  refine sw_ge f194 ?_
  simp only [sw_bi, r157, r185, r186, sw_some, sb_i, nar_b0, nar_b1, sw_ite, md_b_0, i1, i2]
  unfold md_bs
  rw [md_bs_w]
  simp only [List.contains_cons, List.contains_nil, Bool.or_false]
  cases md_lt c
  · cases md_dg c
    · rw [if_pos rfl, if_pos rfl]
      simp only [Bool.false_or]
      by_cases a1 : c = ni 32
      · rw [if_pos a1, a1]; rfl
      rw [if_neg a1, beq_false_of_ne a1, Bool.false_or]
      by_cases a2 : c = ni 95
      · rw [if_pos a2, a2]; rfl
      by_cases a3 : c = ni 58
      · rw [if_pos a3, a3]; rfl
      by_cases a4 : c = ni 61
      · rw [if_pos a4, a4]; rfl
      by_cases a5 : c = ni 63
      · rw [if_pos a5, a5]; rfl
      rw [if_neg a2, if_neg a3, if_neg a4, if_neg a5, beq_false_of_ne a2, beq_false_of_ne a3, beq_false_of_ne a4, beq_false_of_ne a5]
      simp only [Bool.or_false]
      cases c == ni 39 <;> cases c == ni (39 + 1) <;> cases c == ni (39 + 2) <;> cases c == ni 43 <;> cases c == ni (43 + 1) <;> cases c == ni (43 + 2) <;> cases c == ni (43 + 3) <;> cases c == ni (43 + 4) <;> rfl
    · rfl
  · rfl
end RGA
