/-! ===== the reference: bytes in base64 ===== -/
section RHP
variable {C : sm_K} {X N : Nat} {T : Nat → Int32} {D E : sm_D} {Q : (Option Value ⊕ Nat) → sm_D → Prop} {m : md_M} {o : List Int32}
theorem r257_k : ∀ k, k < 64 → (if 26 ≤ k then (if 52 ≤ k then (if 62 ≤ k then (if k = 62 then ni 43 else ni 47) else (ni 48 + ni k) - ni 52) else (ni 97 + ni k) - ni 26) else ni 65 + ni k) = md_sg (ni k) := by decide
theorem r257 {k : Nat} (hk : k < 64) : sm_fe C 257 [.int (ni k)] D = some (.inl (some (.int (md_sg (ni k)))), D) := by
  apply sw_eq
  refine sw_ge f257 ?_
  rw [← r257_k k hk]
  simp (disch := omega) only [sw_ite, ni_le, ni_inj, sw_some]
  by_cases h1 : 26 ≤ k
  · rw [if_pos h1, if_pos h1]
    by_cases h2 : 52 ≤ k
    · rw [if_pos h2, if_pos h2]
      by_cases h3 : 62 ≤ k
      · rw [if_pos h3, if_pos h3]
        by_cases h4 : k = 62
        · rw [if_pos h4, if_pos h4]
        · rw [if_neg h4, if_neg h4]
      · rw [if_neg h3, if_neg h3]
    · rw [if_neg h2, if_neg h2]
  · rw [if_neg h1, if_neg h1]
theorem md_sg_m {a b : Nat} (h : a % 64 = b % 64) : md_sg (ni a) = md_sg (ni b) := by
  unfold md_sg
  rw [ni_m63, ni_m63, h]
theorem md_f4_of {a b c n : Nat} (ha : a < 256) (hb : b < 256) (hc : c < 256) : md_f4 n (ni (a * 65536 + b * 256 + c)) = [md_sg (ni (a / 4)), md_sg (ni (a % 4 * 16 + b / 16)), if n ≤ 1 then ni 61 else md_sg (ni (b % 16 * 4 + c / 64)), if n ≤ 2 then ni 61 else md_sg (ni (c % 64))] := by
  have e18 : (ni 18) &&& 31 = ni 18 := by decide
  have e12 : (ni 12) &&& 31 = ni 12 := by decide
  have e6 : (ni 6) &&& 31 = ni 6 := by decide
  unfold md_f4
  rw [e18, e12, e6, ni_shr _ 18 (by omega) (by decide) (by decide), ni_shr _ 12 (by omega) (by decide) (by decide), ni_shr _ 6 (by omega) (by decide) (by decide)]
  have g1 : md_sg (ni ((a * 65536 + b * 256 + c) / 2 ^ 18)) = md_sg (ni (a / 4)) := md_sg_m (by omega)
  have g2 : md_sg (ni ((a * 65536 + b * 256 + c) / 2 ^ 12)) = md_sg (ni (a % 4 * 16 + b / 16)) := md_sg_m (by omega)
  have g3 : md_sg (ni ((a * 65536 + b * 256 + c) / 2 ^ 6)) = md_sg (ni (b % 16 * 4 + c / 64)) := md_sg_m (by omega)
  have g4 : md_sg (ni (a * 65536 + b * 256 + c)) = md_sg (ni (c % 64)) := md_sg_m (by omega)
  rw [g1, g2, g3, g4]
/-- three bytes of a list, as far as there are -/
theorem md_bt_of {l : List Int32} {k a b c : Nat} (ha : md_nth l k = ni a) (hb : if l.length - k ≤ 1 then b = 0 else md_nth l (k + 1) = ni b) (hc : if l.length - k ≤ 2 then c = 0 else md_nth l (k + 2) = ni c) (h1 : a < 256) (h2 : b < 256) (h3 : c < 256) : md_bt l k = ni (a * 65536 + b * 256 + c) := by
  have e16 : (ni 16) &&& 31 = ni 16 := by decide
  have e8 : (ni 8) &&& 31 = ni 8 := by decide
  unfold md_bt
  rw [e16, e8, ha, ni_shl a 16 (by decide) (by decide)]
  by_cases c1 : l.length - k ≤ 1
  · rw [if_pos c1] at hb ⊢
    rw [if_pos (by omega)] at hc
    subst hb hc
    exact congrArg ni (by omega)
  · rw [if_neg c1] at hb ⊢
    rw [hb, ni_shl b 8 (by decide) (by decide), ni_orp (k := 16) (by omega)]
    by_cases c2 : l.length - k ≤ 2
    · rw [if_pos c2] at hc ⊢
      subst hc
      exact congrArg ni (by omega)
    · rw [if_neg c2] at hc ⊢
      rw [hc]
      have : a * 2 ^ 16 + b * 2 ^ 8 = (a * 256 + b) * 2 ^ 8 := by omega
      rw [this, ni_orp (k := 8) (by omega)]
theorem ni_m31_2 : (ni 2) &&& 31 = ni 2 := by decide
theorem ni_m31_4 : (ni 4) &&& 31 = ni 4 := by decide
theorem ni_m31_6 : (ni 6) &&& 31 = ni 6 := by decide
/-- four signs -/
theorem r256_116 (hX : sm_Lay C X) {a b c L k w j : Nat} (ha : a < 256) (hb : b < 256) (hc : c < 256) (hL : L ≤ 8000) (hk : k ≤ L) (hl : o.length + 4 ≤ 60000) (hq : sw (sm_fx C 256 12 [.ref (X + 49), .int (ni j), .int (ni L), .int (ni (w + 4)), .int (ni (k + 3)), sm_junk, sm_junk, sm_junk] [] (os X D (o ++ [md_sg (ni (a / 4)), md_sg (ni (a % 4 * 16 + b / 16)), if L - k ≤ 1 then ni 61 else md_sg (ni (b % 16 * 4 + c / 64)), if L - k ≤ 2 then ni 61 else md_sg (ni (c % 64))]))) Q) : sw (sm_fx C 256 116 [.ref (X + 49), .int (ni j), .int (ni L), .int (ni w), .int (ni k), .int (ni a), .int (ni b), sm_junk] [.int (ni c)] (os X D o)) Q := by
  have l1 : ∀ c : Int32, ∀ o : List Int32, (o ++ [c]).length = o.length + 1 := fun c o => by rw [List.length_append]; rfl
  have x1 : ni a >>> ((ni 2) &&& 31) = ni (a / 4) := by rw [ni_m31_2, ni_shr _ 2 (by omega) (by decide) (by decide)]
  have x2 : ((ni a &&& (ni 3)) <<< ((ni 4) &&& 31)) ||| (ni b >>> ((ni 4) &&& 31)) = ni (a % 4 * 16 + b / 16) := by
    rw [ni_m31_4, ni_m3, ni_shl _ 4 (by decide) (by decide), ni_shr _ 4 (by omega) (by decide) (by decide), ni_orp (by omega)]
  have x3 : ((ni b &&& (ni 15)) <<< ((ni 2) &&& 31)) ||| (ni c >>> ((ni 6) &&& 31)) = ni (b % 16 * 4 + c / 64) := by
    rw [ni_m31_2, ni_m31_6, ni_m15, ni_shl _ 2 (by decide) (by decide), ni_shr _ 6 (by omega) (by decide) (by decide), ni_orp (by omega)]
  have x4 : ni c &&& ni 63 = ni (c % 64) := ni_m63 c
  have n202 : ∀ (o2 : List Int32) (s4 : Int32), o2.length < 60000 → (o2 ++ [s4] = o ++ [md_sg (ni (a / 4)), md_sg (ni (a % 4 * 16 + b / 16)), if L - k ≤ 1 then ni 61 else md_sg (ni (b % 16 * 4 + c / 64)), if L - k ≤ 2 then ni 61 else md_sg (ni (c % 64))]) → sw (sm_fx C 256 202 [.ref (X + 49), .int (ni j), .int (ni L), .int (ni w), .int (ni k), sm_junk, sm_junk, sm_junk] [.int s4, .ref (X + 49)] (os X D o2)) Q := by
    intro o2 s4 h2 he
    refine sw_ge (n256_202 hX) ?_
    rw [sw_bv, r250 hX h2, sw_some, sb_v, he, ni_add, ni_add]
    exact hq
  have n177 : ∀ (o2 : List Int32) (s3 : Int32), o2.length + 1 < 60000 → (s3 = if L - k ≤ 1 then ni 61 else md_sg (ni (b % 16 * 4 + c / 64))) → (o2 = o ++ [md_sg (ni (a / 4)), md_sg (ni (a % 4 * 16 + b / 16))]) → sw (sm_fx C 256 177 [.ref (X + 49), .int (ni j), .int (ni L), .int (ni w), .int (ni k), sm_junk, sm_junk, .int (ni c)] [.int s3, .ref (X + 49)] (os X D o2)) Q := by
    intro o2 s3 h2 hs3 he
    refine sw_ge (n256_177 hX) ?_
    rw [sw_bv, r250 hX (by omega), sw_some, sb_v]
    simp (disch := omega) only [sw_ite, ni_add, ni_le, sw_bi, x4, r257 (show c % 64 < 64 by omega), sw_some, sb_i]
    by_cases c2 : L ≤ k + 2
    · rw [if_pos c2]
      refine n202 _ _ (by rw [l1]; omega) ?_
      rw [he, hs3, if_pos (show L - k ≤ 2 by omega), List.append_assoc, List.append_assoc]
      rfl
    · rw [if_neg c2]
      refine n202 _ _ (by rw [l1]; omega) ?_
      rw [he, hs3, if_neg (show ¬ L - k ≤ 2 by omega), List.append_assoc, List.append_assoc]
      rfl
  refine sw_ge (n256_116 hX) ?_
  rw [x1, x2, x3, sw_bi, r257 (by omega), sw_some]
  simp only [sb_i]
  rw [sw_bv, r250 hX (by omega), sw_some, sb_v, sw_bi, r257 (by omega), sw_some]
  simp only [sb_i]
  rw [sw_bv, r250 hX (by rw [l1]; omega), sw_some, sb_v]
  simp (disch := omega) only [sw_ite, ni_add, ni_le, sw_bi, r257 (show b % 16 * 4 + c / 64 < 64 by omega), sw_some, sb_i]
  by_cases c1 : L ≤ k + 1
  · rw [if_pos c1]
    refine n177 _ _ (by rw [l1, l1]; omega) (by rw [if_pos (by omega)]) ?_
    rw [List.append_assoc]
    rfl
  · rw [if_neg c1]
    refine n177 _ _ (by rw [l1, l1]; omega) (by rw [if_neg (by omega)]) ?_
    rw [List.append_assoc]
    rfl
/-- where the octets of an entity lie -/
def OL (X j off : Nat) (l : List Int32) (D : sm_D) : Prop := D.1 (X + 59) j = ni off ∧ D.1 (X + 60) j = ni l.length ∧ off + l.length ≤ 8000 ∧ ∀ k, k < l.length → D.1 (X + 75) (off + k) &&& ni 255 = md_nth l k
theorem OL.b {j off : Nat} {l : List Int32} (h : OL X j off l D) {k : Nat} (hk : k < l.length) : ∃ a, a < 256 ∧ md_nth l k = ni a := by
  obtain ⟨a, ha, e⟩ := md_and_255 (D.1 (X + 75) (off + k))
  exact ⟨a, ha, by rw [← h.2.2.2 k hk]; exact e⟩
theorem r256 (hX : sm_Lay C X) {j off : Nat} (hj : j < 40) {l : List Int32} (h : OL X j off l D) (hl : o.length + (md_co l l.length 0 0).length ≤ 60000) : sm_fe C 256 [.ref (X + 49), .int (ni j)] (os X D o) = some (.inl none, os X D (o ++ md_co l l.length 0 0)) := by
  obtain ⟨h1, h2, h3, h4⟩ := id h
  have loop : ∀ (f k w : Nat) (o : List Int32), l.length - k ≤ f → k ≤ l.length + 2 → w ≤ 76 ∧ w % 4 = 0 → o.length + (md_co l f w k).length ≤ 60000 → sw (sm_fx C 256 12 [.ref (X + 49), .int (ni j), .int (ni l.length), .int (ni w), .int (ni k), sm_junk, sm_junk, sm_junk] [] (os X D o)) (fun v E => (v, E) = (.inl none, os X D (o ++ md_co l f w k))) := by
    intro f
    induction f with
    | zero =>
      intro k w o hk hk2 hw ho
      refine sw_ge (n256_12 hX) ?_
      rw [sw_ite, if_pos (by rw [ni_le (by omega) (by omega)]; omega), sw_some]
      unfold md_co
      rw [List.append_nil]
    | succ f ih =>
      intro k w o hk hk2 hw ho
      by_cases hkl : k < l.length
      · unfold md_co at ho ⊢
        rw [if_pos hkl] at ho ⊢
        have hcr : md_cr.length = 2 := rfl
        obtain ⟨a, ha, ea⟩ := h.b hkl
        have e30 : ∀ (w : Nat) (o : List Int32), w + 4 ≤ 76 ∧ (w + 4) % 4 = 0 → o.length + 4 + (md_co l f (w + 4) (k + 3)).length ≤ 60000 → sw (sm_fx C 256 30 [.ref (X + 49), .int (ni j), .int (ni l.length), .int (ni w), .int (ni k), sm_junk, sm_junk, sm_junk] [] (os X D o)) (fun v E => (v, E) = (.inl none, os X D (o ++ (md_f4 (l.length - k) (md_bt l k) ++ md_co l f (w + 4) (k + 3))))) := by
          intro w o hw ho
          have e59 : (os X D o).1 (X + 59) j = ni off := by rw [os_o (by omega) (by omega)]; exact h1
          have e75 : ∀ i, i < l.length → (os X D o).1 (X + 75) (off + i) &&& ni 255 = md_nth l i := fun i hi => by rw [os_o (by omega) (by omega)]; exact h4 i hi
          have fin : ∀ b c, b < 256 → c < 256 → (if l.length - k ≤ 1 then b = 0 else md_nth l (k + 1) = ni b) → (if l.length - k ≤ 2 then c = 0 else md_nth l (k + 2) = ni c) → sw (sm_fx C 256 116 [.ref (X + 49), .int (ni j), .int (ni l.length), .int (ni w), .int (ni k), .int (ni a), .int (ni b), sm_junk] [.int (ni c)] (os X D o)) (fun v E => (v, E) = (.inl none, os X D (o ++ (md_f4 (l.length - k) (md_bt l k) ++ md_co l f (w + 4) (k + 3))))) := by
            intro b c hb hc eb ec
            rw [md_bt_of ea eb ec ha hb hc, md_f4_of ha hb hc]
            refine r256_116 hX ha hb hc (by omega) (by omega) (by omega) ?_
            rw [← List.append_assoc]
            exact ih (k + 3) (w + 4) _ (by omega) (by omega) hw (by rw [List.length_append]; exact ho)
          have n82 : ∀ b, b < 256 → (if l.length - k ≤ 1 then b = 0 else md_nth l (k + 1) = ni b) → sw (sm_fx C 256 82 [.ref (X + 49), .int (ni j), .int (ni l.length), .int (ni w), .int (ni k), .int (ni a), sm_junk, sm_junk] [.int (ni b)] (os X D o)) (fun v E => (v, E) = (.inl none, os X D (o ++ (md_f4 (l.length - k) (md_bt l k) ++ md_co l f (w + 4) (k + 3))))) := by
            intro b hb eb
            refine sw_ge (n256_82 hX) ?_
            simp (disch := omega) only [sw_ite, ni_add, ni_le, sw_gu, ni_in, ni_nat, e59]
            by_cases c2 : l.length ≤ k + 2
            · rw [if_pos c2]
              exact fin b 0 hb (by decide) eb (by rw [if_pos (by omega)])
            · rw [if_neg c2]
              obtain ⟨c, hc, ec⟩ := h.b (k := k + 2) (by omega)
              have := e75 (k + 2) (by omega)
              rw [← Nat.add_assoc] at this
              rw [this, ec]
              exact ⟨decide_eq_true hj, decide_eq_true (by omega), fin b c hb hc eb (by rw [if_neg (by omega)]; exact ec)⟩
          refine sw_ge (n256_30 hX) ?_
          simp (disch := omega) only [sw_ite, ni_add, ni_le, sw_gu, ni_in, ni_nat, e59]
          rw [e75 k hkl, ea]
          refine ⟨decide_eq_true hj, decide_eq_true (by omega), ?_⟩
          by_cases c1 : l.length ≤ k + 1
          · rw [if_pos c1]
            exact n82 0 (by decide) (by rw [if_pos (by omega)])
          · rw [if_neg c1]
            obtain ⟨b, hb, eb⟩ := h.b (k := k + 1) (by omega)
            have := e75 (k + 1) (by omega)
            rw [← Nat.add_assoc] at this
            rw [this, eb]
            exact ⟨decide_eq_true hj, decide_eq_true (by omega), n82 b hb (by rw [if_neg (by omega)]; exact eb)⟩
        refine sw_ge (n256_12 hX) ?_
        have l1 : (ni w = ni 76) = (w = 76) := ni_inj (by omega) (by omega)
        rw [sw_ite, if_neg (by rw [ni_le (by omega) (by omega)]; omega)]
        simp only [sw_ite, l1]
        by_cases h76 : w = 76
        · rw [if_pos h76] at ho ⊢
          rw [if_pos h76] at ho ⊢
          rw [if_pos h76]
          simp only [List.length_append, md_f4_len, hcr] at ho
          rw [sw_bv, r252 hX (by omega), sw_some, sb_v]
          have := e30 0 (o ++ md_cr) (by omega) (by rw [List.length_append]; omega)
          rw [List.append_assoc] at this
          exact this
        · rw [if_neg h76] at ho ⊢
          rw [if_neg h76] at ho ⊢
          rw [if_neg h76]
          simp only [List.length_append, md_f4_len, List.length_nil] at ho
          exact e30 w o (by omega) (by omega)
      · refine sw_ge (n256_12 hX) ?_
        rw [sw_ite, if_pos (by rw [ni_le (by omega) (by omega)]; omega), sw_some]
        unfold md_co
        rw [if_neg hkl, List.append_nil]
  apply sw_eq
  refine sw_ge (f256 hX) ?_
  have e60 : (os X D o).1 (X + 60) j = ni l.length := by rw [os_o (by omega) (by omega)]; exact h2
  simp (disch := omega) only [sw_gu, ni_in, ni_nat, e60]
  exact ⟨decide_eq_true hj, loop l.length 0 0 o (by omega) (by omega) (by omega) hl⟩
end RHP
