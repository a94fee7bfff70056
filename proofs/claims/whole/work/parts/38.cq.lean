theorem md_c16' : ∀ n, n < 256 → (((ni n).toUInt32 % 65536).toInt32) = ni n := by decide +kernel
section CPT
variable {C : sm_K} {X t N e : Nat} {T : Nat → Int32} {D : sm_D}
theorem c4w (h : cW C X t T N e D) {l : List Int32} {f : Int32 → Bool} {s : Nat} (hs : st C s l) (hf : ∀ c, c ∈ l ↔ f c = true) {p : Nat} {E : sm_D} : sm_fe C 4 [.ref s, .int (md_cu T e p)] E = some (.inl (some (.int (md_b (decide (p < e) && f (T p))))), E) := by
  obtain ⟨w, h1, -, h3, h4, -⟩ := id hs
  apply sw_eq
  refine sw_ge (f4 h1) ?_
  by_cases hp : p < e
  · obtain ⟨n, hn, h2⟩ := h.byte hp
    have hlt : (md_ix l (ni n) < ni 0) = ¬ (f (ni n) = true) := by rw [md_ix_lt (by omega), hf]
    rw [md_cu_lt hp, h2]
    simp (disch := omega) only [sw_ite, sw_some, ni_lt, nar_b0, nar_b1, sw_bi, md_c16' n hn, s265 hs, sb_i, hlt]
    rw [if_neg (by omega), decide_eq_true hp]
    cases f (ni n)
    · rw [if_pos (fun z => nomatch z)]; rfl
    · rw [if_neg (fun z => z rfl)]; rfl
  · rw [md_cu_ge hp]
    simp only [sw_ite, sw_some, nar_b0]
    rw [if_pos (by decide), decide_eq_false hp]
    rfl
theorem md_sw {p e : Nat} {b : Bool} : (md_b (decide (p < e) && b) = ni 0) = ¬ (p < e ∧ b = true) := by
  rw [md_b_0]
  cases b <;> simp
theorem c34_2 (h : cW C X t T N e D) {l : List Int32} {f : Int32 → Bool} {s : Nat} (hs : st C s l) (hf : ∀ c, c ∈ l ↔ f c = true) : ∀ (m n p : Nat) (pl : List Int32), e - p ≤ m → n ≤ 60 → pl.length + (e - p) ≤ 16400 → md_ok T e p → ∀ {Q : (Option Value ⊕ Nat) → sm_D → Prop},
    (∀ xs r, md_word T e f n p = .ok (xs, r) → Q (.inl none) (cs X t T e D r (pl ++ xs))) → (∀ g z D', md_word T e f n p = .error g → cT X t D g z D' → Q (.inr z) D') →
    sw (sm_fx C 34 2 [.ref (X + 1), .ref s, .ref (t + 1), .int (ni n)] [] (cs X t T e D p pl)) Q := by
  have hX := h.1.1
  have hr := (sm_tree_of hX h.1.2.1).2
  obtain ⟨w, h1, -, hs3, hs4, -⟩ := id hs
  intro m
  induction m with
  | zero =>
    intro n p pl hm hn hpl hp Q hok her
    have hpe : ¬ p < e := by omega
    have hpf : ¬ (p < e ∧ f (T p) = true) := fun z => hpe z.1
    rw [md_word, dif_neg hpf] at hok her
    have h38 : sw (sm_fx C 34 37 [.ref (X + 1), .ref s, sm_junk, .int (ni n)] [] (cs X t T e D p pl)) Q := by
      refine sw_ge (n34_37 hX h1 hr) ?_
      simp (disch := omega) only [sw_ite, ni_inj, sw_bi, c4w h hs hf, sw_some, sb_i, cs_4, md_sw]
      by_cases hn0 : n = 0
      · rw [if_pos hn0]
        rw [if_pos hn0] at her
        refine sw_ge (n34_52 hX h1 hr) ?_
        simp only [sw_bv, cs_2]
        exact c29 hX cF_cs (fun z D' ht => ⟨ht.tw, her p z D' rfl ht⟩)
      · rw [if_neg hn0, if_pos hpf]
        rw [if_neg hn0] at hok
        have := hok [] p rfl
        rw [List.append_nil] at this
        exact this
    refine sw_ge (n34_2 hX h1 hr) ?_
    simp (disch := omega) only [sw_ite, ni_le, sw_bi, c4w h hs hf, sw_some, sb_i, cs_4, md_sw]
    split
    · exact h38
    · exact h38
  | succ m ih =>
    intro n p pl hm hn hpl hp Q hok her
    have h54 : (∀ z D', cT X t D p z D' → Q (.inr z) D') → sw (sm_fx C 34 52 [.ref (X + 1), sm_junk, sm_junk, sm_junk] [] (cs X t T e D p pl)) Q := by
      intro hh
      refine sw_ge (n34_52 hX h1 hr) ?_
      simp only [sw_bv, cs_2]
      exact c29 hX cF_cs (fun z D' ht => ⟨ht.tw, hh z D' ht⟩)
    have h38 : n = 60 ∨ ¬ (p < e ∧ f (T p) = true) → sw (sm_fx C 34 37 [.ref (X + 1), .ref s, sm_junk, .int (ni n)] [] (cs X t T e D p pl)) Q := by
      intro hor
      refine sw_ge (n34_37 hX h1 hr) ?_
      simp (disch := omega) only [sw_ite, ni_inj, sw_bi, c4w h hs hf, sw_some, sb_i, cs_4, md_sw]
      by_cases hpf : p < e ∧ f (T p) = true
      · rw [md_word, dif_pos hpf] at hok her
        have hn60 : n = 60 := hor.resolve_right (fun z => z hpf)
        rw [if_pos hn60] at her
        rw [if_neg (by omega), if_neg (fun z => z hpf)]
        exact h54 (fun z D' ht => her p z D' rfl ht)
      · rw [md_word, dif_neg hpf] at hok her
        by_cases hn0 : n = 0
        · rw [if_pos hn0]
          rw [if_pos hn0] at her
          exact h54 (fun z D' ht => her p z D' rfl ht)
        · rw [if_neg hn0, if_pos hpf]
          rw [if_neg hn0] at hok
          have := hok [] p rfl
          rw [List.append_nil] at this
          exact this
    refine sw_ge (n34_2 hX h1 hr) ?_
    simp (disch := omega) only [sw_ite, ni_le, sw_bi, c4w h hs hf, sw_some, sb_i, cs_4, md_sw]
    by_cases hn60 : n = 60
    · rw [if_pos (by omega)]; exact h38 (Or.inl hn60)
    · rw [if_neg (by omega)]
      by_cases hpf : p < e ∧ f (T p) = true
      · rw [if_neg (fun z => z hpf)]
        rw [md_word, dif_pos hpf, if_neg hn60] at hok her
        have hlt := md_nx_lt (T := T) hpf.1
        simp only [sw_bv, md_cu_lt hpf.1, c44 h.1 (show pl.length < 16400 by omega), c31 h hp, sw_some, sb_v, ni_add]
        refine ih (n + 1) _ _ (by omega) (by omega) (by rw [List.length_append, List.length_singleton]; omega) hp.nx (fun xs r hx => ?_) (fun g z D' hx ht => ?_)
        · rw [hx] at hok
          rw [List.append_assoc]
          exact hok _ r rfl
        · rw [hx] at her
          exact her g z D' rfl ht
      · rw [if_pos hpf]; exact h38 (Or.inr hpf)
theorem c34 (h : cW C X t T N e D) {l : List Int32} {f : Int32 → Bool} {s : Nat} (hs : st C s l) (hf : ∀ c, c ∈ l ↔ f c = true) {p : Nat} {pl : List Int32} (hpl : pl.length + (e - p) ≤ 16400) (hp : md_ok T e p) {Q : (Option Value ⊕ Nat) → sm_D → Prop}
    (hok : ∀ xs r, md_word T e f 0 p = .ok (xs, r) → Q (.inl none) (cs X t T e D r (pl ++ xs))) (her : ∀ g z D', md_word T e f 0 p = .error g → cT X t D g z D' → Q (.inr z) D') :
    sw (sm_fe C 34 [.ref (X + 1), .ref s, .ref (t + 1)] (cs X t T e D p pl)) Q := by
  have hX := h.1.1
  have hr := (sm_tree_of hX h.1.2.1).2
  obtain ⟨w, h1, -, hs3, hs4, -⟩ := id hs
  refine sw_ge (f34 hX h1 hr) ?_
  exact c34_2 h hs hf (e - p) 0 p pl (Nat.le_refl _) (by omega) hpl hp hok her
/-- a quoted text, behind its first quote -/
theorem c36_6 (h : cW C X t T N e D) {lim : Nat} (hlim : lim ≤ 8000) : ∀ (m n p : Nat) (pl : List Int32), e - p ≤ m → n ≤ lim → pl.length + (e - p) ≤ 16400 → md_ok T e p → ∀ {Q : (Option Value ⊕ Nat) → sm_D → Prop},
    (∀ xs r, md_quo T e lim n p = .ok (xs, r) → Q (.inl none) (cs X t T e D r (pl ++ xs))) → (∀ g z D', md_quo T e lim n p = .error g → cT X t D g z D' → Q (.inr z) D') →
    sw (sm_fx C 36 6 [.ref (X + 1), .ref (t + 1), .int (ni lim), .int (ni n)] [] (cs X t T e D p pl)) Q := by
  have hX := h.1.1
  have hr := (sm_tree_of hX h.1.2.1).2
  intro m
  induction m with
  | zero =>
    intro n p pl hm hn hpl hp Q hok her
    have hpe : ¬ p < e := by omega
    have h34 : (md_cu T e p = ni 34) = False := by rw [md_cu_is (by omega)]; simp [hpe]
    rw [md_quo, dif_neg hpe] at her
    have h33 : sw (sm_fx C 36 33 [.ref (X + 1), .ref (t + 1), .int (ni lim), .int (ni n)] [] (cs X t T e D p pl)) Q := by
      refine sw_ge (n36_33 hX hr) ?_
      simp only [sw_bv, cs_2]
      exact c29 hX cF_cs (fun z D' ht => ⟨ht.tw, her p z D' rfl ht⟩)
    refine sw_ge (n36_6 hX hr) ?_
    simp (disch := omega) only [sw_ite, ni_lt, ni_inj, cs_4, h34, md_cu_none h, if_false]
    rw [if_neg (by omega), if_pos hpe]
    split <;> exact h33
  | succ m ih =>
    intro n p pl hm hn hpl hp Q hok her
    have h33 : (∀ z D', cT X t D p z D' → Q (.inr z) D') → sw (sm_fx C 36 33 [.ref (X + 1), .ref (t + 1), .int (ni lim), .int (ni n)] [] (cs X t T e D p pl)) Q := by
      intro hh
      refine sw_ge (n36_33 hX hr) ?_
      simp only [sw_bv, cs_2]
      exact c29 hX cF_cs (fun z D' ht => ⟨ht.tw, hh z D' ht⟩)
    by_cases hpe : p < e
    · rw [md_quo, dif_pos hpe] at hok her
      have hlt := md_nx_lt (T := T) hpe
      have h54 : ∀ q, md_ok T e q → q < e → p ≤ q → n < lim → (∀ xs r, md_quo T e lim (n + 1) (md_nx T e q) = .ok (xs, r) → Q (.inl none) (cs X t T e D r (pl ++ T q :: xs))) → (∀ g z D', md_quo T e lim (n + 1) (md_nx T e q) = .error g → cT X t D g z D' → Q (.inr z) D') → sw (sm_fx C 36 54 [.ref (X + 1), .ref (t + 1), .int (ni lim), .int (ni n)] [] (cs X t T e D q pl)) Q := by
        intro q hq hqe hpq hnl hok' her'
        have hlt2 := md_nx_lt (T := T) hqe
        refine sw_ge (n36_54 hX hr) ?_
        simp only [sw_bv, cs_4, md_cu_lt hqe, c44 h.1 (show pl.length < 16400 by omega), c31 h hq, sw_some, sb_v, ni_add]
        refine ih (n + 1) _ _ (by omega) (by omega) (by rw [List.length_append, List.length_singleton]; omega) hq.nx (fun xs r hx => ?_) her'
        rw [List.append_assoc]
        exact hok' xs r hx
      refine sw_ge (n36_6 hX hr) ?_
      simp (disch := omega) only [sw_ite, ni_lt, ni_inj, cs_4, md_cu_lt hpe]
      rw [if_neg (by omega)]
      by_cases h34 : T p = ni 34
      · rw [if_pos h34]
        rw [if_pos h34] at hok
        refine sw_ge (n36_72 hX hr) ?_
        simp only [sw_bv, c31 h hp, sw_some, sb_v]
        have := hok [] _ rfl
        rw [List.append_nil] at this
        exact this
      · rw [if_neg h34]
        rw [if_neg h34] at hok her
        by_cases hnl : n = lim
        · rw [if_pos hnl]
          rw [if_pos hnl] at her
          exact h33 (fun z D' ht => her p z D' rfl ht)
        · rw [if_neg hnl]
          rw [if_neg hnl] at hok her
          have hnn : (T p = sm_k (-1)) = False := by
            obtain ⟨n, hn, h1⟩ := h.byte hpe
            rw [h1, ni_ne_k (by omega)]
          rw [if_neg (by rw [hnn]; exact id)]
          refine sw_ge (n36_41 hX hr) ?_
          simp only [sw_ite, cs_4, md_cu_lt hpe]
          by_cases h92 : T p = ni 92
          · rw [if_pos h92]
            rw [if_pos h92] at hok her
            simp only [sw_bv]
            refine sw_ge (f33 hX) ?_
            simp only [sw_bv, c31 h hp, sw_some, sb_v, sw_ite, cs_4, md_cu_none h, cs_2]
            by_cases hq : md_nx T e p < e
            · rw [if_neg (fun z => z hq)]
              rw [dif_pos hq] at hok her
              refine h54 _ hp.nx hq (by omega) (by omega) (fun xs r hx => ?_) (fun g z D' hx ht => ?_)
              · rw [hx] at hok; exact hok _ r rfl
              · rw [hx] at her; exact her g z D' rfl ht
            · rw [if_pos hq]
              rw [dif_neg hq] at her
              exact c29 hX cF_cs (fun z D' ht => ⟨ht.tw, ht.tw, her _ z D' rfl ht⟩)
          · rw [if_neg h92]
            rw [if_neg h92] at hok her
            refine h54 p hp hpe (Nat.le_refl _) (by omega) (fun xs r hx => ?_) (fun g z D' hx ht => ?_)
            · rw [hx] at hok; exact hok _ r rfl
            · rw [hx] at her; exact her g z D' rfl ht
    · have h34 : (md_cu T e p = ni 34) = False := by rw [md_cu_is (by omega)]; simp [hpe]
      rw [md_quo, dif_neg hpe] at her
      refine sw_ge (n36_6 hX hr) ?_
      simp (disch := omega) only [sw_ite, ni_lt, ni_inj, cs_4, h34, md_cu_none h, if_false]
      rw [if_neg (by omega), if_pos hpe]
      split <;> exact h33 (fun z D' ht => her p z D' rfl ht)
theorem c36 (h : cW C X t T N e D) {lim : Nat} (hlim : lim ≤ 8000) {p : Nat} {pl : List Int32} (hpl : pl.length + (e - md_nx T e p) ≤ 16400) (hp : md_ok T e p) {Q : (Option Value ⊕ Nat) → sm_D → Prop}
    (hok : ∀ xs r, md_quo T e lim 0 (md_nx T e p) = .ok (xs, r) → Q (.inl none) (cs X t T e D r (pl ++ xs))) (her : ∀ g z D', md_quo T e lim 0 (md_nx T e p) = .error g → cT X t D g z D' → Q (.inr z) D') :
    sw (sm_fe C 36 [.ref (X + 1), .ref (t + 1), .int (ni lim)] (cs X t T e D p pl)) Q := by
  have hX := h.1.1
  have hr := (sm_tree_of hX h.1.2.1).2
  refine sw_ge (f36 hX hr) ?_
  simp only [sw_bv, c31 h hp, sw_some, sb_v]
  exact c36_6 h hlim _ 0 _ pl (Nat.le_refl _) (by omega) hpl hp.nx hok her
/-- digits: the number of n of them behind a number -/
theorem md_num_lt {n v p w r : Nat} (hr : md_num T e n v p = .ok (w, r)) (hB : ∀ i, i < e → ∃ n, n < 256 ∧ T i = ni n) : w < (v + 1) * 10 ^ n := by
  induction n generalizing v p with
  | zero => unfold md_num at hr; cases hr; omega
  | succ n ih =>
    unfold md_num at hr
    split at hr
    · next g =>
      have h1 := ih hr
      obtain ⟨k, -, hk, e1⟩ := (md_in_iff (by omega) (by omega)).mp g.2
      rw [e1, ni_toInt (by omega)] at h1
      have h2 : (v * 10 + (((k : Int)).toNat - 48) + 1) ≤ (v + 1) * 10 := by omega
      have h3 := Nat.mul_le_mul_right (10 ^ n) h2
      rw [Nat.pow_succ, Nat.mul_comm (10 ^ n) 10, ← Nat.mul_assoc]
      omega
    · cases hr
theorem c38_4 (h : cW C X t T N e D) {pl : List Int32} {cnt : Nat} (hc : cnt ≤ 4) : ∀ (m k v p : Nat), k + m = cnt → md_ok T e p → v < 10 ^ k → ∀ {Q : (Option Value ⊕ Nat) → sm_D → Prop},
    (∀ w r, md_num T e m v p = .ok (w, r) → Q (.inl (some (.int (ni w)))) (cs X t T e D r pl)) → (∀ g z D', md_num T e m v p = .error g → cT X t D g z D' → Q (.inr z) D') →
    sw (sm_fx C 38 4 [.ref (X + 1), .int (ni cnt), .int (ni v), .int (ni k)] [] (cs X t T e D p pl)) Q := by
  have hX := h.1.1
  intro m
  induction m with
  | zero =>
    intro k v p hk hp hv Q hok her
    refine sw_ge (n38_4 hX) ?_
    simp (disch := omega) only [sw_ite, sw_some, ni_le]
    rw [if_pos (by omega)]
    exact hok v p rfl
  | succ m ih =>
    intro k v p hk hp hv Q hok her
    refine sw_ge (n38_4 hX) ?_
    simp (disch := omega) only [sw_ite, sw_some, ni_le, sw_bi, c6, sb_i, cs_4, md_b_0, sw_bv, cs_2]
    rw [if_neg (by omega)]
    unfold md_num at hok her
    by_cases hpd : p < e ∧ md_dg (T p) = true
    · rw [if_pos hpd] at hok her
      rw [md_cu_lt hpd.1, if_neg (by rw [hpd.2]; exact fun z => nomatch z)]
      refine sw_ge (n38_27 hX) ?_
      simp only [sw_bv, c31 h hp, sw_some, sb_v, cs_4, md_cu_lt hpd.1, ni_add, ni_mul]
      obtain ⟨n, hn1, hn2, e1⟩ := (md_in_iff (by omega) (by omega)).mp hpd.2
      rw [e1, ni_toInt (by omega)] at hok her
      rw [e1, ni_sub hn1, ni_add]
      have e2 : ((n : Int)).toNat - 48 = n - 48 := by omega
      rw [e2] at hok her
      refine ih (k + 1) _ _ (by omega) hp.nx ?_ hok her
      rw [Nat.pow_succ]
      omega
    · rw [if_neg hpd] at her
      have hd : md_dg (md_cu T e p) = false := by
        by_cases hpe : p < e
        · rw [md_cu_lt hpe]
          cases hb : md_dg (T p)
          · rfl
          · exact absurd ⟨hpe, hb⟩ hpd
        · rw [md_cu_ge hpe]; decide
      rw [if_pos hd]
      exact c29 hX cF_cs (fun z D' ht => ⟨ht.tw, her p z D' rfl ht⟩)
theorem c38 (h : cW C X t T N e D) {pl : List Int32} {cnt p : Nat} (hc : cnt ≤ 4) (hp : md_ok T e p) {Q : (Option Value ⊕ Nat) → sm_D → Prop}
    (hok : ∀ w r, md_num T e cnt 0 p = .ok (w, r) → Q (.inl (some (.int (ni w)))) (cs X t T e D r pl)) (her : ∀ g z D', md_num T e cnt 0 p = .error g → cT X t D g z D' → Q (.inr z) D') :
    sw (sm_fe C 38 [.ref (X + 1), .int (ni cnt)] (cs X t T e D p pl)) Q := by
  refine sw_ge (f38 h.1.1) ?_
  exact c38_4 h hc cnt 0 0 p (by omega) hp (by omega) hok her
theorem md_w_as {s : String} (h : s.toList.all (fun c => c.toNat.blt 128) = true) : md_as (md_w s) := fun x hx => by
  unfold md_w at hx
  rw [List.mem_map] at hx
  obtain ⟨c, hc, rfl⟩ := hx
  exact ⟨c.toNat, Nat.le_of_ble_eq_true (List.all_eq_true.mp h c hc), rfl⟩
/-- two sets of letters below 128 are one -/
theorem md_sets {l : List Int32} {f : Int32 → Bool} (h1 : md_as l) (h2 : ∀ c, f c = true → ∃ n, n < 128 ∧ c = ni n) (h3 : ∀ n, n < 128 → (l.contains (ni n)) = f (ni n)) (c : Int32) : c ∈ l ↔ f c = true := by
  constructor
  · intro h
    obtain ⟨n, hn, rfl⟩ := h1 c h
    rw [← h3 n hn, List.contains_iff_mem]
    exact h
  · intro h
    obtain ⟨n, hn, rfl⟩ := h2 c h
    rw [← h3 n hn, List.contains_iff_mem] at h
    exact h
theorem md_in_128 {c : Int32} {a b : Nat} (hb : b < 128) (h : md_in c a b = true) (ha : a < 128) : ∃ n, n < 128 ∧ c = ni n := by
  obtain ⟨n, h1, h2, h3⟩ := (md_in_iff (by omega) (by omega)).mp h
  exact ⟨n, by omega, h3⟩
theorem md_atm_128 {c : Int32} (h : md_atm c = true) : ∃ n, n < 128 ∧ c = ni n := by
  unfold md_atm md_lt md_dg at h
  simp only [Bool.or_eq_true] at h
  rcases h with ((h | h) | h) | h
  · exact md_in_128 (by omega) h (by omega)
  · exact md_in_128 (by omega) h (by omega)
  · exact md_in_128 (by omega) h (by omega)
  · rw [List.contains_iff_mem] at h
    exact md_w_as (by decide) c h
theorem md_tok_128 {c : Int32} (h : md_tok c = true) : ∃ n, n < 128 ∧ c = ni n := by
  unfold md_tok at h
  rw [Bool.and_eq_true] at h
  exact md_in_128 (by omega) h.1 (by omega)
theorem md_bs_128 {c : Int32} (h : md_bs c = true) : ∃ n, n < 128 ∧ c = ni n := by
  unfold md_bs md_lt md_dg at h
  simp only [Bool.or_eq_true] at h
  rcases h with ((h | h) | h) | h
  · exact md_in_128 (by omega) h (by omega)
  · exact md_in_128 (by omega) h (by omega)
  · exact md_in_128 (by omega) h (by omega)
  · rw [List.contains_iff_mem] at h
    exact md_w_as (by decide) c h
def md_ATM : String := "abcdefghijklmnopqrstuvwxyzABCDEFGHIJKLMNOPQRSTUVWXYZ0123456789!#$%&'*+-/=?^_`{|}~"
def md_TOK : String := "abcdefghijklmnopqrstuvwxyzABCDEFGHIJKLMNOPQRSTUVWXYZ0123456789!#$%&'*+-.^_`{|}~"
def md_BND : String := "abcdefghijklmnopqrstuvwxyzABCDEFGHIJKLMNOPQRSTUVWXYZ0123456789 '()+_,-./:=?"
theorem md_atm_set (c : Int32) : c ∈ md_w md_ATM ↔ md_atm c = true := md_sets (md_w_as (by decide)) (fun _ => md_atm_128) (by decide +kernel) c
theorem md_tok_set (c : Int32) : c ∈ md_w md_TOK ↔ md_tok c = true := md_sets (md_w_as (by decide)) (fun _ => md_tok_128) (by decide +kernel) c
theorem md_bnd_set (c : Int32) : c ∈ md_w md_BND ↔ md_bs c = true := md_sets (md_w_as (by decide)) (fun _ => md_bs_128) (by decide +kernel) c
theorem st_atm (h : tx C) : st C (C.1.1 22) (md_w md_ATM) := st_tx h 22 rfl rfl (by decide) (by decide)
theorem st_atm7 (h : tx C) : st C (C.1.1 7) (md_w md_ATM) := st_tx h 7 rfl rfl (by decide) (by decide)
theorem st_tok (h : tx C) : st C (C.1.1 27) (md_w md_TOK) := st_tx h 27 rfl rfl (by decide) (by decide)
theorem st_bnd (h : tx C) : st C (C.1.1 28) (md_w md_BND) := st_tx h 28 rfl rfl (by decide) (by decide)
end CPT
