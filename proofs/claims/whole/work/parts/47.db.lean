theorem lg_0 {x y : Int64} : (lg_cmp x y = ni 0) = (x = y) := by
  unfold lg_cmp
  split
  · next h =>
    have : ¬ x = y := fun z => by subst z; exact absurd h (Int64.lt_irrefl)
    simp only [this, eq_iff_iff, iff_false]
    decide
  · split
    · next h => simp only [h, eq_iff_iff, iff_true]; rfl
    · next h => simp only [h, eq_iff_iff, iff_false]; decide
theorem lg_ge {x y : Int64} : (ni 0 ≤ lg_cmp x y) = (y ≤ x) := by
  unfold lg_cmp
  split
  · next h =>
    have : y ≤ x := Int64.le_of_lt h
    simp only [this, eq_iff_iff, iff_true]
    decide
  · next h =>
    split
    · next h2 =>
      have : y ≤ x := by rw [h2]; exact Int64.le_refl y
      simp only [this, eq_iff_iff, iff_true]
      decide
    · next h2 =>
      have : ¬ y ≤ x := fun z => by
        rcases Int64.lt_or_eq_of_le z with g | g
        · exact h g
        · exact h2 g.symm
      simp only [this, eq_iff_iff, iff_false]
      decide
theorem xor7 (x : Int64) : (Int64.ofNat 0 ≤ x ^^^ 7) = (Int64.ofNat 0 ≤ x) := by
  rw [eq_iff_iff, ← Int64.not_lt, ← Int64.not_lt, Decidable.not_iff_not, Int64.lt_iff_toBitVec_slt, Int64.lt_iff_toBitVec_slt, Int64.toBitVec_xor]
  have e : (Int64.ofNat 0).toBitVec = 0#64 := rfl
  rw [e, BitVec.slt_zero_iff_msb_cond, BitVec.slt_zero_iff_msb_cond, BitVec.msb_xor]
  have : (Int64.toBitVec 7).msb = false := by decide
  rw [this, Bool.xor_false]
section CDB
variable {C : sm_K} {X t N e : Nat} {T : Nat → Int32} {D : sm_D} {Q : (Option Value ⊕ Nat) → sm_D → Prop} {pl : List Int32}
theorem c285 {z : Int} (h1 : -4000000000000000000 < z) (h2 : z < 4000000000000000000) : sm_fe C 285 [.long (Int64.ofInt z), .long (7 : Int64)] D = some (.inl (some (.long (Int64.ofInt (z % 7)))), D) := by
  have tz : (Int64.ofInt z).toInt = z := Int64.toInt_ofInt_of_le (by omega) (by omega)
  have hdiv : Int64.ofInt z / 7 = Int64.ofInt (z.tdiv 7) := by
    rw [← Int64.toInt_inj, Int64.toInt_div_of_ne_right _ _ (by decide), tz]
    have b : -(4000000000000000000) ≤ z.tdiv 7 ∧ z.tdiv 7 ≤ 4000000000000000000 := by
      rcases Classical.em (z < 0) with g | g
      · have : z = -(-z) := by omega
        rw [this, Int.neg_tdiv, Int.tdiv_eq_ediv_of_nonneg (by omega)]
        omega
      · rw [Int.tdiv_eq_ediv_of_nonneg (by omega)]; omega
    rw [Int64.toInt_ofInt_of_le (by omega) (by omega)]
    rfl
  have hm : Int64.ofInt z - Int64.ofInt z / 7 * 7 = Int64.ofInt (z - z.tdiv 7 * 7) := by
    rw [hdiv, Int64.ofInt_sub, Int64.ofInt_mul]; rfl
  have h0 : (Int64.ofNat 0 ≤ Int64.ofInt z) = (0 ≤ z) := by
    rw [Int64.le_iff_toInt_le, tz]; rfl
  apply sw_eq
  refine sw_ge f285 ?_
  simp only [sw_ite, sw_some, lg_ge, lg_0, xor7, h0, hm]
  by_cases hz : 0 ≤ z
  · rw [if_pos hz, Int.tdiv_eq_ediv_of_nonneg hz]
    exact congrArg (fun v => ((Sum.inl (some (Value.long (Int64.ofInt v))), D) : sm_o)) (by omega)
  · rw [if_neg hz]
    have e1 : z.tdiv 7 = -((-z) / 7) := by
      have : z = -(-z) := by omega
      conv => lhs; rw [this]
      rw [Int.neg_tdiv, Int.tdiv_eq_ediv_of_nonneg (by omega)]
    rw [e1]
    have hr : Int64.ofInt (z - -(-z / 7) * 7) = Int64.ofNat 0 ↔ z - -(-z / 7) * 7 = 0 := by
      rw [← Int64.toInt_inj, Int64.toInt_ofInt_of_le (by omega) (by omega)]
      rfl
    by_cases hc : z - -(-z / 7) * 7 = 0
    · rw [if_pos (hr.mpr hc)]
      exact congrArg (fun v => ((Sum.inl (some (Value.long (Int64.ofInt v))), D) : sm_o)) (by omega)
    · rw [if_neg (fun q => hc (hr.mp q)), show (7 : Int64) = Int64.ofInt 7 from rfl, ← Int64.ofInt_add]
      exact congrArg (fun v => ((Sum.inl (some (Value.long (Int64.ofInt v))), D) : sm_o)) (by omega)
theorem c72 {y : Nat} (h1 : 1 ≤ y) (h2 : y < 10000) : sm_fe C 72 [.int (ni y)] D = some (.inl (some (.long (Int64.ofInt (365 * ((y : Int) - 1) + ((y - 1) / 4 : Nat) - ((y - 1) / 100 : Nat) + ((y - 1) / 400 : Nat) - 719162)))), D) := by
  apply sw_eq
  refine sw_ge f72 ?_
  have e0 : ((y - 1 : Nat) : Int) = (y : Int) - 1 := by omega
  simp (disch := omega) only [sw_some, ni_sub h1, ni_div, ni_64]
  rw [show (365 : Int64) = Int64.ofInt 365 from rfl, show (719162 : Int64) = Int64.ofInt 719162 from rfl, ← Int64.ofInt_mul, ← Int64.ofInt_add, ← Int64.ofInt_sub, ← Int64.ofInt_add, ← Int64.ofInt_sub]
  exact congrArg (fun v => ((Sum.inl (some (Value.long (Int64.ofInt v))), D) : sm_o)) (by omega)
theorem md_num1 {v p : Nat} : md_num T e 1 v p = (match md_num T e 1 0 p with | .ok (w, r) => .ok (v * 10 + w, r) | .error x => .error x) := by
  unfold md_num
  split
  · unfold md_num; simp
  · rfl
theorem md_wd_ok {ws : String} {p k r : Nat} (hp : md_ok T e p) (h : md_wd T e ws p = .ok (k, r)) : md_ok T e r ∧ p ≤ r := by
  unfold md_wd at h
  split at h
  · cases h
  · cases h
    have := md_lets_ok hp
    exact ⟨this.1, this.2.1⟩
theorem c68 (h : cW C X t T N e D) {p : Nat} (hp : md_ok T e p)
    (hok : ∀ w r, md_wkd T e p = .ok (w, r) → (∀ k, w = some k → k < 7) → Q (.inl (some (.int (match w with | some k => ni k | none => sm_k (-1))))) (cs X t T e D r pl)) (her : ∀ x z D', md_wkd T e p = .error x → cT X t D x z D' → Q (.inr z) D') :
    sw (sm_fe C 68 [.ref (X + 8)] (cs X t T e D p pl)) Q := by
  have hX := h.1.1
  have hs : st C (C.1.1 10) (md_w "montuewedthufrisatsun") := st_tx h.1.2.2.1 10 rfl rfl (by decide) (by decide)
  have hl7 : (md_w "montuewedthufrisatsun").length = 21 := by decide
  unfold md_wkd at hok her
  refine sw_ge (f68 hX) ?_
  simp only [sw_bi, c5, sw_some, sb_i, cs_4, sw_ite, md_b_0]
  by_cases hl : p < e ∧ md_lt (T p) = true
  · rw [if_pos hl] at hok her
    rw [md_cu_lt hl.1, if_neg (by rw [hl.2]; exact fun z => nomatch z)]
    refine c69 h hs (by decide) hp (fun k q1 h1 hk => ?_) (fun x z D' h1 hT => ⟨hT.tw, her x z D' (by rw [h1]; rfl) hT⟩)
    obtain ⟨o1, l1⟩ := md_wd_ok hp h1
    simp only [h1, bind, Except.bind] at hok her
    simp only [sb_i, sw_bv]
    refine c32 h o1 (fun q2 h2 => ?_) (fun x z D' h2 hT => ⟨hT.tw, her x z D' (by rw [h2]) hT⟩)
    obtain ⟨o2, l2⟩ := md_space_ok o1 h2
    simp only [h2] at hok her
    simp only [sb_v, sw_bv]
    refine c35 h (by omega) o2 (fun q3 h3 => ?_) (fun x z D' h3 hT => ⟨hT.tw, her x z D' (by rw [h3]) hT⟩)
    obtain ⟨o3, l3⟩ := md_eat_ok o2 h3
    simp only [h3] at hok her
    simp only [sb_v, sw_bv]
    refine c32 h o3 (fun q4 h4 => ?_) (fun x z D' h4 hT => ⟨hT.tw, her x z D' (by rw [h4]) hT⟩)
    simp only [h4] at hok her
    simp only [sb_v, sw_some]
    exact hok (some k) q4 rfl (fun k' hk' => by cases hk'; omega)
  · rw [if_neg hl] at hok
    have hf : md_lt (md_cu T e p) = false := by
      by_cases hqe : p < e
      · rw [md_cu_lt hqe]
        cases hb : md_lt (T p)
        · rfl
        · exact absurd ⟨hqe, hb⟩ hl
      · rw [md_cu_ge hqe]; decide
    rw [if_pos hf]
    exact hok none p rfl (fun k hk => nomatch hk)
theorem c70 (hM : sm_mv C) (h : cW C X t T N e D) {p : Nat} (hp : md_ok T e p)
    (hok : ∀ y m d r, md_dmy T e p = .ok ((y, m, d), r) → 1600 ≤ y → y < 10000 → m < 12 → d ≤ 31 → Q (.inl (some (.long (Int64.ofInt (md_days y m d))))) (cs X t T e D r pl)) (her : ∀ x z D', md_dmy T e p = .error x → cT X t D x z D' → Q (.inr z) D') :
    sw (sm_fe C 70 [.ref (X + 8)] (cs X t T e D p pl)) Q := by
  have hX := h.1.1
  have hB : ∀ i, i < e → ∃ n, n < 256 ∧ T i = ni n := fun i hi => h.byte hi
  have hs : st C (C.1.1 11) (md_w "janfebmaraprmayjunjulaugsepoctnovdec") := st_tx h.1.2.2.1 11 rfl rfl (by decide) (by decide)
  have hl12 : (md_w "janfebmaraprmayjunjulaugsepoctnovdec").length = 36 := by decide
  have hpe := hp.1
  unfold md_dmy at hok her
  refine sw_ge (f70 hX) ?_
  simp only [sw_bi, cs_2]
  refine c38 h (by omega) hp (fun d0 p2 h1 => ?_) (fun x z D' h1 hT => ⟨hT.tw, her x z D' (by rw [h1]; rfl) hT⟩)
  obtain ⟨o1, l1⟩ := md_num_ok hp h1
  have hd0 := md_num_lt h1 hB
  simp only [h1, bind, Except.bind] at hok her
  have h44 : ∀ (d p3 : Nat), md_ok T e p3 → d < 100 → (∀ y m d' r, md_dmy2 T e p d p3 = .ok ((y, m, d'), r) → 1600 ≤ y → y < 10000 → m < 12 → d' ≤ 31 → Q (.inl (some (.long (Int64.ofInt (md_days y m d'))))) (cs X t T e D r pl)) →
      (∀ x z D', md_dmy2 T e p d p3 = .error x → cT X t D x z D' → Q (.inr z) D') →
      sw (sm_fx C 70 44 [.ref (X + 8), .int (ni p), .int (ni d), sm_junk, sm_junk, sm_junk, sm_junk, sm_junk, sm_junk] [] (cs X t T e D p3 pl)) Q := by
    intro d p3 o3 hd hok her
    unfold md_dmy2 at hok her
    refine sw_ge (n70_44 hX) ?_
    simp only [sw_bv]
    refine c32 h o3 (fun p4 h4 => ?_) (fun x z D' h4 hT => ⟨hT.tw, her x z D' (by rw [h4]; rfl) hT⟩)
    obtain ⟨o4, l4⟩ := md_space_ok o3 h4
    simp only [h4, bind, Except.bind] at hok her
    simp only [sb_v, sw_bi]
    refine c69 h hs (by decide) o4 (fun m p5 h5 hm => ?_) (fun x z D' h5 hT => ⟨hT.tw, her x z D' (by rw [h5]) hT⟩)
    obtain ⟨o5, l5⟩ := md_wd_ok o4 h5
    simp only [h5] at hok her
    simp only [sb_i, sw_bv]
    refine c32 h o5 (fun p6 h6 => ?_) (fun x z D' h6 hT => ⟨hT.tw, her x z D' (by rw [h6]) hT⟩)
    obtain ⟨o6, l6⟩ := md_space_ok o5 h6
    have oe6 := o6.1
    simp only [h6] at hok her
    simp only [sb_v, sw_bi, cs_2]
    refine c38 h (by omega) o6 (fun y p7 h7 => ?_) (fun x z D' h7 hT => ⟨hT.tw, her x z D' (by rw [h7]) hT⟩)
    have hy := md_num_lt h7 hB
    simp only [h7] at hok her
    simp (disch := omega) only [sb_i, sw_ite, ni_le, sw_bv]
    by_cases hc : y < 1600
    · rw [if_neg (by omega)]
      rw [if_pos hc] at her
      exact c29 hX cF_cs (fun z D' hT => ⟨hT.tw, her p6 z D' rfl hT⟩)
    · rw [if_pos (by omega)]
      rw [if_neg hc] at hok her
      have h116 : (∀ z D', cT X t D p z D' → Q (.inr z) D') → sw (sm_fx C 70 116 [.ref (X + 8), .int (ni p), .int (ni d), .int (ni m), sm_junk, .int (ni y), sm_junk, sm_junk, sm_junk] [] (cs X t T e D p7 pl)) Q := by
        intro hh
        refine sw_ge (n70_116 hX) ?_
        simp only [sw_bv]
        exact c29 hX cF_cs (fun z D' ht => ⟨ht.tw, hh z D' ht⟩)
      refine sw_ge (n70_101 hX) ?_
      simp (disch := omega) only [sw_ite, ni_lt, sw_bi, c71 hM (show m < 12 by omega) (show y < 10000 by omega), sw_some, sb_i, ni_le]
      by_cases h1 : d < 1
      · rw [if_pos h1]
        rw [if_pos (Or.inl h1)] at her
        exact h116 (fun z D' ht => her p z D' rfl ht)
      · rw [if_neg h1]
        have hdl := md_dom_le m y
        by_cases h2 : md_dom m y < d
        · rw [if_neg (by rw [ni_le (by omega) (by omega)]; omega)]
          rw [if_pos (Or.inr h2)] at her
          exact h116 (fun z D' ht => her p z D' rfl ht)
        · rw [if_pos (by rw [ni_le (by omega) (by omega)]; omega)]
          rw [if_neg (fun z => z.elim h1 h2)] at hok
          refine sw_ge (n70_124 hX) ?_
          simp only [sw_bj, c72 (show 1 ≤ y by omega) (show y < 10000 by omega), sw_some, sb_j]
          have loop : ∀ (n k : Nat), k + n = m → ∀ v : Int, v = 365 * ((y : Int) - 1) + ((y - 1) / 4 : Nat) - ((y - 1) / 100 : Nat) + ((y - 1) / 400 : Nat) - 719162 + d - 1 + md_dbm y k → sw (sm_fx C 70 139 [sm_junk, sm_junk, sm_junk, .int (ni m), sm_junk, .int (ni y), .long (Int64.ofInt v), sm_junk, .int (ni k)] [] (cs X t T e D p7 pl)) Q := by
            intro n
            induction n with
            | zero =>
              intro k hk v hv
              refine sw_ge (n70_139 hX) ?_
              simp (disch := omega) only [sw_ite, ni_le, sw_some]
              rw [if_pos (by omega)]
              have hkm : k = m := by omega
              subst hkm
              have e1 : v = md_days y k d := by unfold md_days; omega
              rw [e1]
              exact hok y k d p7 rfl (by omega) (by omega) (by omega) (by omega)
            | succ n ih =>
              intro k hk v hv
              refine sw_ge (n70_139 hX) ?_
              have hdl2 := md_dom_le k y
              simp (disch := omega) only [sw_ite, ni_le, sw_bi, c71 hM (show k < 12 by omega) (show y < 10000 by omega), sw_some, sb_i, ni_add, ni_64]
              rw [if_neg (by omega), ← Int64.ofInt_add]
              exact ih (k + 1) (by omega) _ (by rw [hv]; show _ = _ + ((md_dbm y k + md_dom k y : Nat) : Int); omega)
          rw [ni_64 (by omega), show Int64.ofNat 1 = Int64.ofInt 1 from rfl, ← Int64.ofInt_add, ← Int64.ofInt_sub]
          exact loop m 0 (by omega) _ (by show _ = _ + ((0 : Nat) : Int); omega)
  simp only [sb_i, sw_bi, c6, sw_some, cs_4, sw_ite, md_b_0]
  by_cases hdg : p2 < e ∧ md_dg (T p2) = true
  · rw [if_pos hdg] at hok her
    rw [md_cu_lt hdg.1, if_neg (by rw [hdg.2]; exact fun z => nomatch z)]
    refine c38 h (by omega) o1 (fun w p3 h2 => ?_) (fun x z D' h2 hT => ⟨hT.tw, her x z D' (by rw [md_num1, h2]) hT⟩)
    have hw := md_num_lt h2 hB
    obtain ⟨o2, l2⟩ := md_num_ok o1 h2
    rw [md_num1, h2] at hok her
    simp only [sb_i, ni_mul, ni_add]
    exact h44 (d0 * 10 + w) p3 o2 (by omega) hok her
  · rw [if_neg hdg] at hok her
    have hf : md_dg (md_cu T e p2) = false := by
      by_cases hqe : p2 < e
      · rw [md_cu_lt hqe]
        cases hb : md_dg (T p2)
        · rfl
        · exact absurd ⟨hqe, hb⟩ hdg
      · rw [md_cu_ge hqe]; decide
    rw [if_pos hf]
    exact h44 d0 p2 o1 (by omega) hok her
end CDB
