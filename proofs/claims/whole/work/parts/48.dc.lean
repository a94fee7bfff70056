section CDC
variable {C : sm_K} {X t N e : Nat} {T : Nat → Int32} {D : sm_D} {Q : (Option Value ⊕ Nat) → sm_D → Prop} {pl : List Int32}
theorem c73 (h : cW C X t T N e D) {p : Nat} (hp : md_ok T e p)
    (hok : ∀ s r, md_time T e p = .ok (s, r) → s < 86400 → md_ok T e r → Q (.inl (some (.int (ni s)))) (cs X t T e D r pl)) (her : ∀ x z D', md_time T e p = .error x → cT X t D x z D' → Q (.inr z) D') :
    sw (sm_fe C 73 [.ref (X + 8)] (cs X t T e D p pl)) Q := by
  have hX := h.1.1
  unfold md_time at hok her
  refine sw_ge (f73 hX) ?_
  simp only [sw_bi]
  refine c74 h (by omega) hp (fun hh p1 h1 => ?_) (fun x z D' h1 hT => ⟨hT.tw, her x z D' (by rw [h1]; rfl) hT⟩)
  obtain ⟨o1, l1, b1⟩ := md_two_ok hp h1
  simp only [h1, bind, Except.bind] at hok her
  simp only [sb_i, sw_bv]
  refine c32 h o1 (fun p2 h2 => ?_) (fun x z D' h2 hT => ⟨hT.tw, her x z D' (by rw [h2]) hT⟩)
  obtain ⟨o2, l2⟩ := md_space_ok o1 h2
  simp only [h2] at hok her
  simp only [sb_v, sw_bv]
  refine c35 h (by omega) o2 (fun p3 h3 => ?_) (fun x z D' h3 hT => ⟨hT.tw, her x z D' (by rw [h3]) hT⟩)
  obtain ⟨o3, l3⟩ := md_eat_ok o2 h3
  simp only [h3] at hok her
  simp only [sb_v, sw_bv]
  refine c32 h o3 (fun p4 h4 => ?_) (fun x z D' h4 hT => ⟨hT.tw, her x z D' (by rw [h4]) hT⟩)
  obtain ⟨o4, l4⟩ := md_space_ok o3 h4
  simp only [h4] at hok her
  simp only [sb_v, sw_bi]
  refine c74 h (by omega) o4 (fun mm p5 h5 => ?_) (fun x z D' h5 hT => ⟨hT.tw, her x z D' (by rw [h5]) hT⟩)
  obtain ⟨o5, l5, b5⟩ := md_two_ok o4 h5
  simp only [h5] at hok her
  simp only [sb_i, sw_bv]
  refine c32 h o5 (fun p6 h6 => ?_) (fun x z D' h6 hT => ⟨hT.tw, her x z D' (by rw [h6]) hT⟩)
  obtain ⟨o6, l6⟩ := md_space_ok o5 h6
  simp only [h6] at hok her
  simp only [sb_v, sw_ite, cs_4, md_cu_is (show 58 < 2147483648 by omega), sw_bv, sw_some, ni_mul, ni_add]
  by_cases hc : p6 < e ∧ T p6 = ni 58
  · simp only [if_pos hc] at hok her
    rw [if_pos hc, c31 h o6, sw_some]
    simp only [sb_v, sw_bv]
    refine c32 h o6.nx (fun q1 h7 => ?_) (fun x z D' h7 hT => ⟨hT.tw, her x z D' (by rw [h7]) hT⟩)
    obtain ⟨o7, l7⟩ := md_space_ok o6.nx h7
    simp only [h7] at hok her
    simp only [sb_v, sw_bi]
    refine c74 h (by omega) o7 (fun ss q2 h8 => ?_) (fun x z D' h8 hT => ⟨hT.tw, her x z D' (by rw [h8]) hT⟩)
    obtain ⟨o8, l8, b8⟩ := md_two_ok o7 h8
    simp only [h8] at hok her
    simp only [sb_i, sw_some, ni_add]
    exact hok _ q2 rfl (by omega) o8
  · simp only [if_neg hc] at hok her
    rw [if_neg hc]
    exact hok _ p6 rfl (by omega) o6
theorem ni_ofInt (n : Nat) : ni n = Int32.ofInt (n : Int) := Int32.ofInt_eq_ofNat.symm
theorem c75 (h : cW C X t T N e D) {p : Nat} (hp : md_ok T e p)
    (hok : ∀ s r, md_zone T e p = .ok (s, r) → -1440 < s → s < 1440 → md_ok T e r → Q (.inl (some (.int (Int32.ofInt s)))) (cs X t T e D r pl)) (her : ∀ x z D', md_zone T e p = .error x → cT X t D x z D' → Q (.inr z) D') :
    sw (sm_fe C 75 [.ref (X + 8)] (cs X t T e D p pl)) Q := by
  have hX := h.1.1
  have hpe := hp.1
  unfold md_zone at hok her
  have h48 : ∀ b : Bool, (p < e ∧ (T p = ni 43 ∨ T p = ni 45)) → b = decide (T p = ni 45) → sw (sm_fx C 75 48 [.ref (X + 8), .int (md_b b), sm_junk, sm_junk] [] (cs X t T e D p pl)) Q := by
    intro b hc hb
    rw [if_pos hc] at hok her
    refine sw_ge (n75_48 hX) ?_
    simp only [sw_bv, c31 h hp, sw_some, sb_v, sw_bi]
    refine c74 h (by omega) hp.nx (fun zh p1 h1 => ?_) (fun x z D' h1 hT => ⟨hT.tw, her x z D' (by rw [h1]; rfl) hT⟩)
    obtain ⟨o1, l1, b1⟩ := md_two_ok hp.nx h1
    simp only [h1, bind, Except.bind] at hok her
    simp only [sb_i, sw_bi]
    refine c74 h (by omega) o1 (fun zm p2 h2 => ?_) (fun x z D' h2 hT => ⟨hT.tw, her x z D' (by rw [h2]) hT⟩)
    obtain ⟨o2, l2, b2⟩ := md_two_ok o1 h2
    simp only [h2] at hok her
    simp only [sb_i, sw_ite, md_b_0, sw_some, ni_mul, ni_add]
    have hh := hok _ p2 rfl (by split <;> omega) (by split <;> omega) o2
    by_cases h45 : T p = ni 45
    · rw [hb, decide_eq_true h45, if_neg (fun z => nomatch z), ni_ofInt, ← Int32.ofInt_neg]
      rw [if_pos h45] at hh
      exact hh
    · rw [hb, decide_eq_false h45, if_pos rfl, ni_ofInt]
      rw [if_neg h45] at hh
      exact hh
  have h17 : ∀ b : Bool, b = decide (p < e ∧ T p = ni 45) → sw (sm_fx C 75 17 [.ref (X + 8), sm_junk, sm_junk, sm_junk] [.int (md_b b)] (cs X t T e D p pl)) Q := by
    intro b hb
    refine sw_ge (n75_17 hX) ?_
    simp only [sw_ite, md_b_0, cs_4, md_cu_is (show 43 < 2147483648 by omega), sw_bv, cs_2]
    by_cases h45 : p < e ∧ T p = ni 45
    · rw [decide_eq_true h45] at hb
      rw [hb, if_neg (fun z => nomatch z)]
      exact h48 true ⟨h45.1, Or.inr h45.2⟩ (by rw [decide_eq_true h45.2])
    · rw [decide_eq_false h45] at hb
      rw [hb, if_pos rfl]
      by_cases h43 : p < e ∧ T p = ni 43
      · rw [if_pos h43]
        exact h48 false ⟨h43.1, Or.inl h43.2⟩ (by rw [decide_eq_false (fun z => h45 ⟨h43.1, z⟩)])
      · rw [if_neg h43]
        rw [if_neg (fun z => z.2.elim (fun y => h43 ⟨z.1, y⟩) (fun y => h45 ⟨z.1, y⟩))] at her
        exact c29 hX cF_cs (fun z D' hT => ⟨hT.tw, her p z D' rfl hT⟩)
  refine sw_ge (f75 hX) ?_
  simp only [sw_ite, cs_4, md_cu_is (show 45 < 2147483648 by omega)]
  by_cases h45 : p < e ∧ T p = ni 45
  · rw [if_pos h45]
    exact h17 true (by rw [decide_eq_true h45])
  · rw [if_neg h45]
    exact h17 false (by rw [decide_eq_false h45])
theorem md_wkd_ok {p r : Nat} {w : Option Nat} (hp : md_ok T e p) (h : md_wkd T e p = .ok (w, r)) : md_ok T e r := by
  unfold md_wkd at h
  split at h
  · cases h1 : md_wd T e "montuewedthufrisatsun" p with
    | error x => rw [h1] at h; cases h
    | ok a =>
      obtain ⟨k, q1⟩ := a
      simp only [h1, bind, Except.bind] at h
      have o1 := (md_wd_ok hp h1).1
      cases h2 : md_space T e 0 q1 with
      | error x => simp only [h2] at h; cases h
      | ok q2 =>
        simp only [h2] at h
        have o2 := (md_space_ok o1 h2).1
        cases h3 : md_eat T e (ni 44) q2 with
        | error x => simp only [h3] at h; cases h
        | ok q3 =>
          simp only [h3] at h
          have o3 := (md_eat_ok o2 h3).1
          cases h4 : md_space T e 0 q3 with
          | error x => simp only [h4] at h; cases h
          | ok q4 =>
            simp only [h4] at h
            cases h
            exact (md_space_ok o3 h4).1
  · cases h; exact hp
theorem md_dmy_ok {p r : Nat} {v : Nat × Nat × Nat} (hp : md_ok T e p) (h : md_dmy T e p = .ok (v, r)) : md_ok T e r := by
  unfold md_dmy at h
  cases h1 : md_num T e 1 0 p with
  | error x => rw [h1] at h; cases h
  | ok a =>
    obtain ⟨d0, p2⟩ := a
    have o1 := (md_num_ok hp h1).1
    simp only [h1, bind, Except.bind] at h
    have key : ∀ d p3, md_ok T e p3 → md_dmy2 T e p d p3 = .ok (v, r) → md_ok T e r := by
      intro d p3 o3 h
      unfold md_dmy2 at h
      cases h4 : md_space T e 0 p3 with
      | error x => rw [h4] at h; cases h
      | ok p4 =>
        have o4 := (md_space_ok o3 h4).1
        simp only [h4, bind, Except.bind] at h
        cases h5 : md_wd T e "janfebmaraprmayjunjulaugsepoctnovdec" p4 with
        | error x => simp only [h5] at h; cases h
        | ok a =>
          obtain ⟨m, p5⟩ := a
          have o5 := (md_wd_ok o4 h5).1
          simp only [h5] at h
          cases h6 : md_space T e 0 p5 with
          | error x => simp only [h6] at h; cases h
          | ok p6 =>
            have o6 := (md_space_ok o5 h6).1
            simp only [h6] at h
            cases h7 : md_num T e 4 0 p6 with
            | error x => simp only [h7] at h; cases h
            | ok b =>
              obtain ⟨y, p7⟩ := b
              simp only [h7] at h
              split at h
              · cases h
              · split at h
                · cases h
                · cases h; exact (md_num_ok o6 h7).1
    split at h
    · cases h2 : md_num T e 1 d0 p2 with
      | error x => simp only [h2] at h; cases h
      | ok a =>
        obtain ⟨d, p3⟩ := a
        simp only [h2] at h
        exact key d p3 (md_num_ok o1 h2).1 h
    · exact key d0 p2 o1 h
theorem md_days_b {y m d : Nat} (hy : y < 10000) (hm : m < 12) (hd : d ≤ 31) : -800000 < md_days y m d ∧ md_days y m d < 4000000 := by
  have hb : md_dbm y m ≤ 31 * m := by
    clear hm
    induction m with
    | zero => exact Nat.le_refl _
    | succ m ih =>
      have := md_dom_le m y
      show md_dbm y m + md_dom m y ≤ _
      omega
  unfold md_days
  omega
theorem c67 (hM : sm_mv C) (h : cW C X t T N e D) {p0 : Nat} (hp : md_ok T e p0)
    (hok : ∀ s z r, md_date T e p0 = .ok (s, z) → md_ok T e r → Q (.inl none) (cs X t T e (sm_dI (sm_dJ D t 13 (Int64.ofInt s)) t 14 (Int32.ofInt z)) r pl)) (her : ∀ x z D', md_date T e p0 = .error x → cT X t D x z D' → Q (.inr z) D') :
    sw (sm_fe C 67 [.ref (X + 8), .ref t] (cs X t T e D p0 pl)) Q := by
  have hX := h.1.1
  have ht := h.1.2.1
  have tr := (sm_tree_of hX ht).1
  unfold md_date at hok her
  refine sw_ge (f67 hX tr) ?_
  simp only [sw_bv]
  refine c32 h hp (fun p h1 => ?_) (fun x z D' h1 hT => ⟨hT.tw, her x z D' (by rw [h1]; rfl) hT⟩)
  obtain ⟨o1, l1⟩ := md_space_ok hp h1
  simp only [h1, bind, Except.bind] at hok her
  simp only [sb_v, sw_bi, cs_2]
  refine c68 h o1 (fun wd p1 h2 hwd => ?_) (fun x z D' h2 hT => ⟨hT.tw, her x z D' (by rw [h2]) hT⟩)
  have o2 := md_wkd_ok o1 h2
  simp only [h2] at hok her
  simp only [sb_i, sw_bj]
  refine c70 hM h o2 (fun y m d p2 h3 hy1 hy2 hm hd => ?_) (fun x z D' h3 hT => ⟨hT.tw, her x z D' (by rw [h3]) hT⟩)
  have o3 := md_dmy_ok o2 h3
  have hdb := md_days_b hy2 hm hd
  simp only [h3] at hok her
  simp only [sb_j, sw_bv]
  refine c32 h o3 (fun p3 h4 => ?_) (fun x z D' h4 hT => ⟨hT.tw, her x z D' (by rw [h4]) hT⟩)
  obtain ⟨o4, l4⟩ := md_space_ok o3 h4
  simp only [h4] at hok her
  simp only [sb_v, sw_bi]
  refine c73 h o4 (fun s p4 h5 hs o5 => ?_) (fun x z D' h5 hT => ⟨hT.tw, her x z D' (by rw [h5]) hT⟩)
  simp only [h5] at hok her
  simp only [sb_i, sw_bv]
  refine c32 h o5 (fun p5 h6 => ?_) (fun x z D' h6 hT => ⟨hT.tw, her x z D' (by rw [h6]) hT⟩)
  obtain ⟨o6, l6⟩ := md_space_ok o5 h6
  simp only [h6] at hok her
  simp only [sb_v, sw_bi]
  refine c75 h o6 (fun z p6 h7 hz1 hz2 o7 => ?_) (fun x z D' h7 hT => ⟨hT.tw, her x z D' (by rw [h7]) hT⟩)
  simp only [h7] at hok her
  simp only [sb_i, sw_bv]
  refine c32 h o7 (fun p7 h8 => ?_) (fun x z D' h8 hT => ⟨hT.tw, her x z D' (by rw [h8]) hT⟩)
  obtain ⟨o8, l8⟩ := md_space_ok o7 h8
  simp only [h8] at hok her
  simp only [sb_v, sw_bv]
  refine c37 h (fun h9 => ?_) (fun x z D' h9 hT => ⟨hT.tw, her x z D' (by rw [h9]) hT⟩)
  simp only [h9] at hok her
  have fin : ¬ (wd.any (fun (w : Nat) => (w : Int) != (md_days y m d + 3) % 7) = true) → sw (sm_fx C 67 97 [sm_junk, .ref t, sm_junk, sm_junk, .long (Int64.ofInt (md_days y m d)), sm_junk, .int (ni s), .int (Int32.ofInt z)] [] (cs X t T e D p7 pl)) Q := by
    intro hno
    rw [if_neg hno] at hok
    refine sw_ge (n67_97 hX tr) ?_
    rw [sw_some]
    have e1 : Int64.ofInt (md_days y m d) * 86400 + (ni s).toInt64 - (Int32.ofInt z * ni 60).toInt64 = Int64.ofInt (86400 * md_days y m d + s - 60 * z) := by
      have e2 : (Int32.ofInt z * ni 60).toInt64 = Int64.ofInt (60 * z) := by
        rw [ni_ofInt, ← Int32.ofInt_mul, ← Int64.ofInt_int32ToInt, Int32.toInt_ofInt_of_le (by omega) (by omega)]
        exact congrArg Int64.ofInt (by omega)
      rw [e2, ni_64 (by omega), show (86400 : Int64) = Int64.ofInt 86400 from rfl, ← Int64.ofInt_mul, ← Int64.ofInt_add, ← Int64.ofInt_sub]
      exact congrArg Int64.ofInt (by omega)
    rw [e1]
    have := hok _ z p7 rfl o8
    rw [← dI_cs (by omega) (by omega) (by omega)] at this
    exact this
  simp only [sb_v, sw_ite]
  cases wd with
  | none =>
    rw [if_pos rfl]
    exact fin (by simp)
  | some w =>
    have hw := hwd w rfl
    rw [if_neg (by show ¬ (ni w = sm_k (-1)); rw [ni_ne_k (by omega)]; exact id)]
    simp only [sw_bj]
    rw [show (3 : Int64) = Int64.ofInt 3 from rfl, ← Int64.ofInt_add, c285 (by omega) (by omega), sw_some]
    simp only [sb_j, sw_ite, lg_0]
    have hiff : (ni w).toInt64 = Int64.ofInt ((md_days y m d + 3) % 7) ↔ (w : Int) = (md_days y m d + 3) % 7 := by
      rw [ni_64 (by omega), ← Int64.toInt_inj, Int64.toInt_ofInt_of_le (by omega) (by omega), Int64.toInt_ofInt_of_le (by omega) (by omega)]
    by_cases hc : (w : Int) = (md_days y m d + 3) % 7
    · rw [if_pos (hiff.mpr hc)]
      exact fin (by simp [hc])
    · rw [if_neg (fun q => hc (hiff.mp q)), sw_bv]
      rw [if_pos (by simp [hc])] at her
      exact c29 hX cF_cs (fun z D' hT => ⟨hT.tw, her p z D' rfl hT⟩)
end CDC
