section CWC
variable {C : sm_K} {X t N : Nat} {T T' : Nat → Int32} {D : sm_D} {m : md_M} {pl : List Int32} {σ : Nat → List Int32} {o : List Int32}
theorem and63 (v : Int32) : ∃ k, k < 64 ∧ v &&& ni 63 = ni k := by
  have e : (v &&& ni 63).toBitVec = (BitVec.ofNat 32 (v.toBitVec.toNat % 64)) := by
    apply BitVec.eq_of_toNat_eq
    show (v.toBitVec &&& (63 : BitVec 32)).toNat = _
    rw [BitVec.toNat_and, show ((63 : BitVec 32)).toNat = 2 ^ 6 - 1 from rfl, Nat.and_two_pow_sub_one_eq_mod, BitVec.toNat_ofNat]
    exact (Nat.mod_eq_of_lt (by omega)).symm
  refine ⟨v.toBitVec.toNat % 64, Nat.mod_lt _ (by omega), ?_⟩
  apply Int32.toBitVec_inj.mp
  rw [e]
  rfl
theorem w122 (hX : sm_Lay C X) (hx : tx C) {v : Int32} (hl : o.length < 20000) : sm_fe C 122 [.ref (X + 20), .int v] (ws X D o) = some (.inl none, ws X D (o ++ [md_sg v])) := by
  unfold md_sg
  obtain ⟨k, hk, e⟩ := and63 v
  apply sw_eq
  refine sw_ge (f122 hX hx.1) ?_
  rw [e, sw_bi, s262 (st43 hx) (show k < 64 from hk), sw_some, sb_i, sw_bv, w44 hX hl, sw_some, sb_v, sw_some, ni_nat (by omega)]
theorem w121 (h : WT C X t T' N T m pl σ D) {k j : Nat} (hk : k < 1061) (hj : j < (σ k).length) (hl : o.length + 4 ≤ 20000) : sm_fe C 121 [.ref (X + 20), .ref t, .int (ni k), .int (ni j), .int (ni ((σ k).length - j))] (ws X D o) = some (.inl none, ws X D (o ++ md_f4 ((σ k).length - j) (md_bt (σ k) j))) := by
  have hX := h.1.1
  have hx := h.1.2.2.1
  have tr := (sm_tree_of h.1.1 h.1.2.1).1
  have h16 := (h.2.2.2.2.1 k hk).2.1
  have hp := h.2.2.1
  have ⟨hH, p1, p2, p3, p4, hG⟩ := WT_ws (o := o) h
  generalize hn : (σ k).length - j = n at *
  have e97 : ∀ (v : Int32) (o : List Int32), o.length < 20000 → sm_fx C 121 97 [.ref (X + 20), sm_junk, sm_junk, sm_junk, .int (ni n), .int v] [] (ws X D o) = some (.inl none, ws X D (o ++ [if n ≤ 2 then ni 61 else md_sg v])) := by
    intro v o ho
    apply sw_eq
    refine sw_ge (n121_97 (t := t) hX tr) ?_
    have l1 : (ni n ≤ ni 2) = (n ≤ 2) := ni_le (by omega) (by omega)
    simp only [sw_ite, l1]
    by_cases h2 : n ≤ 2
    · rw [if_pos h2, if_pos h2, sw_bv, w44 hX ho, sw_some, sb_v, sw_some]
    · rw [if_neg h2, if_neg h2, sw_bv, w122 hX hx ho, sw_some, sb_v, sw_some]
  have e52 : ∀ (v : Int32), sm_fx C 121 52 [.ref (X + 20), sm_junk, sm_junk, sm_junk, .int (ni n), .int v] [] (ws X D o) = some (.inl none, ws X D (o ++ md_f4 n v)) := by
    intro v
    apply sw_eq
    refine sw_ge (n121_52 (t := t) hX tr) ?_
    have l1 : (ni n ≤ ni 1) = (n ≤ 1) := ni_le (by omega) (by omega)
    rw [sw_bv, w122 hX hx (by omega), sw_some, sb_v, sw_bv, w122 hX hx (by rw [len1]; omega), sw_some, sb_v]
    simp only [sw_ite, l1]
    unfold md_f4
    by_cases h1 : n ≤ 1
    · rw [if_pos h1, if_pos h1, sw_bv, w44 hX (by rw [len1, len1]; omega), sw_some, sb_v, e97 _ _ (by rw [len1, len1, len1]; omega), sw_some, List.append_assoc, List.append_assoc, List.append_assoc]
      rfl
    · rw [if_neg h1, if_neg h1, sw_bv, w122 hX hx (by rw [len1, len1]; omega), sw_some, sb_v, e97 _ _ (by rw [len1, len1, len1]; omega), sw_some, List.append_assoc, List.append_assoc, List.append_assoc]
      rfl
  apply sw_eq
  refine sw_ge (f121 hX tr) ?_
  have l1 : (ni n ≤ ni 1) = (n ≤ 1) := ni_le (by omega) (by omega)
  have l2 : (ni n ≤ ni 2) = (n ≤ 2) := ni_le (by omega) (by omega)
  rw [sw_bi, a139 hH p1 p2 p3 p4 hk hj, sw_some, sb_i]
  unfold md_bt
  rw [hn]
  simp only [sw_ite, l1]
  by_cases h1 : n ≤ 1
  · rw [if_pos h1, if_pos h1]
    refine sw_ge (n121_33 hX tr) ?_
    rw [sw_ite, if_pos (by rw [l2]; omega), e52, sw_some]
  · rw [if_neg h1, if_neg h1, ni_add, sw_bi, a139 hH p1 p2 p3 p4 hk (by omega), sw_some, sb_i]
    refine sw_ge (n121_33 hX tr) ?_
    simp only [sw_ite, l2]
    by_cases h2 : n ≤ 2
    · rw [if_pos h2, if_pos h2, e52, sw_some]
    · rw [if_neg h2, if_neg h2, ni_add, sw_bi, a139 hH p1 p2 p3 p4 hk (by omega), sw_some, sb_i, e52, sw_some]
theorem md_f4_len {n : Nat} {v : Int32} : (md_f4 n v).length = 4 := rfl
theorem w120 (h : WT C X t T' N T m pl σ D) {k : Nat} (hk : k < 1061) (hl : o.length + (md_co (σ k) (σ k).length 0 0).length ≤ 20000) : sm_fe C 120 [.ref (X + 20), .ref t, .int (ni k)] (ws X D o) = some (.inl none, ws X D (o ++ md_co (σ k) (σ k).length 0 0)) := by
  have hX := h.1.1
  have tr := (sm_tree_of h.1.1 h.1.2.1).1
  have h16 := (h.2.2.2.2.1 k hk).2.1
  have hp := h.2.2.1
  have loop : ∀ (f j w : Nat) (o : List Int32), (σ k).length - j ≤ f → j ≤ (σ k).length + 2 → w ≤ 76 ∧ w % 4 = 0 → o.length + (md_co (σ k) f w j).length ≤ 20000 → sm_fx C 120 12 [.ref (X + 20), .ref t, .int (ni k), .int (ni (σ k).length), .int (ni w), .int (ni j)] [] (ws X D o) = some (.inl none, ws X D (o ++ md_co (σ k) f w j)) := by
    intro f
    induction f with
    | zero =>
      intro j w o hj hj2 hw ho
      apply sw_eq
      refine sw_ge (n120_12 hX tr) ?_
      rw [sw_ite, if_pos (by rw [ni_le (by omega) (by omega)]; omega), sw_some]
      unfold md_co
      rw [List.append_nil]
    | succ f ih =>
      intro j w o hj hj2 hw ho
      by_cases hjl : j < (σ k).length
      · unfold md_co at ho ⊢
        rw [if_pos hjl] at ho ⊢
        have h2 : md_cr.length = 2 := rfl
        have e32 : ∀ (w : Nat) (o : List Int32), w + 4 ≤ 76 ∧ (w + 4) % 4 = 0 → o.length + 4 + (md_co (σ k) f (w + 4) (j + 3)).length ≤ 20000 → sm_fx C 120 32 [.ref (X + 20), .ref t, .int (ni k), .int (ni (σ k).length), .int (ni w), .int (ni j)] [] (ws X D o) = some (.inl none, ws X D (o ++ (md_f4 ((σ k).length - j) (md_bt (σ k) j) ++ md_co (σ k) f (w + 4) (j + 3)))) := by
          intro w o hw ho
          apply sw_eq
          refine sw_ge (n120_32 hX tr) ?_
          rw [ni_sub (by omega), sw_bv, w121 h hk hjl (by omega), sw_some, sb_v, ni_add, ni_add, ih (j + 3) (w + 4) _ (by omega) (by omega) hw (by rw [List.length_append, md_f4_len]; omega), sw_some, List.append_assoc]
        apply sw_eq
        refine sw_ge (n120_12 hX tr) ?_
        have l1 : (ni w = ni 76) = (w = 76) := ni_inj (by omega) (by omega)
        rw [sw_ite, if_neg (by rw [ni_le (by omega) (by omega)]; omega)]
        simp only [sw_ite, l1]
        by_cases h76 : w = 76
        · rw [if_pos h76] at ho ⊢
          rw [if_pos h76] at ho ⊢
          rw [if_pos h76]
          simp only [List.length_append, md_f4_len, h2] at ho
          rw [sw_bv, w114 hX (by omega), sw_some, sb_v, e32 0 _ (by omega) (by rw [List.length_append]; omega), sw_some, List.append_assoc]
        · rw [if_neg h76] at ho ⊢
          rw [if_neg h76] at ho ⊢
          rw [if_neg h76]
          simp only [List.length_append, md_f4_len, List.length_nil] at ho
          rw [e32 w o (by omega) (by omega), sw_some]
          rfl
      · apply sw_eq
        refine sw_ge (n120_12 hX tr) ?_
        rw [sw_ite, if_pos (by rw [ni_le (by omega) (by omega)]; omega), sw_some]
        unfold md_co
        rw [if_neg hjl, List.append_nil]
  have ⟨hH, p1, p2, p3, p4, hG⟩ := WT_ws (o := o) h
  apply sw_eq
  refine sw_ge (f120 hX tr) ?_
  rw [sw_bi, a138 hH p1 p3 p4 hk, sw_some, sb_i, loop (σ k).length 0 0 o (by omega) (by omega) (by omega) hl, sw_some]
end CWC
