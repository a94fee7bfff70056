/-! ===== addresses ===== -/
section CAD
variable {C : sm_K} {X t N e : Nat} {T : Nat → Int32} {D : sm_D} {Q : (Option Value ⊕ Nat) → sm_D → Prop}
theorem md_word_end {f : Int32 → Bool} {n p r : Nat} {xs : List Int32} (h : md_word T e f n p = .ok (xs, r)) : ¬ (r < e ∧ f (T r) = true) ∧ (n = 0 → xs ≠ []) := by
  rw [md_word] at h
  split at h
  · next g =>
    have hlt := md_nx_lt (T := T) g.1
    split at h
    · cases h
    · split at h
      · cases h
      · next ys r' e1 =>
        cases h
        exact ⟨(md_word_end e1).1, fun _ z => nomatch z⟩
  · next g =>
    split at h
    · cases h
    · next g2 => cases h; exact ⟨g, fun z => absurd z g2⟩
termination_by e - p
decreasing_by omega
theorem md_wds_ok {n p r : Nat} {xs : List Int32} (hp : md_ok T e p) (h : md_wds T e n p = .ok (xs, r)) : md_ok T e r ∧ p ≤ r ∧ p + xs.length ≤ r + (if p < e ∧ md_atm (T p) = true then 1 else 0) := by
  induction n generalizing p xs r with
  | zero => cases h
  | succ n ih =>
    unfold md_wds at h
    by_cases h60 : p < e ∧ T p = ni 60
    · rw [if_pos h60] at h
      cases h
      exact ⟨hp, Nat.le_refl _, by rw [List.length_nil]; omega⟩
    · rw [if_neg h60] at h
      have tail : ∀ (ys : List Int32) (p1 : Nat), md_ok T e p1 → (do
          let p2 ← md_space T e 0 p1
          let (zs, p3) ← md_wds T e n p2
          .ok (ni 32 :: (ys ++ zs), p3) : Except Nat (List Int32 × Nat)) = .ok (xs, r) → md_ok T e r ∧ p1 ≤ r ∧ ∃ zs p2, xs = ni 32 :: (ys ++ zs) ∧ p1 ≤ p2 ∧ p2 + zs.length ≤ r + (if p2 < e ∧ md_atm (T p2) = true then 1 else 0) ∧ (p2 = p1 ∨ p1 < p2) := by
        intro ys p1 o1 h
        cases h2 : md_space T e 0 p1 with
        | error x => rw [h2] at h; cases h
        | ok p2 =>
          obtain ⟨o2, l2⟩ := md_space_ok o1 h2
          simp only [h2, bind, Except.bind] at h
          cases h3 : md_wds T e n p2 with
          | error x => simp only [h3] at h; cases h
          | ok a =>
            obtain ⟨zs, p3⟩ := a
            simp only [h3] at h
            cases h
            obtain ⟨o3, l3, b3⟩ := ih o2 h3
            exact ⟨o3, by omega, zs, p2, rfl, l2, b3, by omega⟩
      by_cases h34 : p < e ∧ T p = ni 34
      · rw [if_pos h34] at h
        cases h1 : md_quo T e 8000 0 (md_nx T e p) with
        | error x => rw [h1] at h; cases h
        | ok a =>
          obtain ⟨ys, p1⟩ := a
          rw [h1] at h
          obtain ⟨o1, l1⟩ := md_quo_ok hp.nx h1
          have hlt := md_nx_lt (T := T) h34.1
          obtain ⟨o3, l3, zs, p2, rfl, l2, b2, -⟩ := tail ys p1 o1 h
          refine ⟨o3, by omega, ?_⟩
          rw [List.length_cons, List.length_append]
          split at b2 <;> omega
      · rw [if_neg h34] at h
        cases h1 : md_word T e md_atm 0 p with
        | error x => rw [h1] at h; cases h
        | ok a =>
          obtain ⟨ys, p1⟩ := a
          rw [h1] at h
          obtain ⟨o1, l1⟩ := md_word_ok hp h1
          have hend := md_word_end h1
          have hatm : p < e ∧ md_atm (T p) = true := by
            rw [md_word] at h1
            split at h1
            · next g => exact g
            · rw [if_pos rfl] at h1; cases h1
          obtain ⟨o3, l3, zs, p2, rfl, l2, b2, b3⟩ := tail ys p1 o1 h
          refine ⟨o3, by omega, ?_⟩
          rw [List.length_cons, List.length_append, if_pos hatm]
          rcases b3 with b3 | b3
          · rw [b3, if_neg hend.1] at b2
            omega
          · split at b2 <;> omega
theorem c80 (h : cW C X t T N e D) {f g : Nat → Int32} {σ : Nat → List Int32} {p kd n : Nat} {pl : List Int32} (hk : kd = 5 ∨ kd = 6) (hn : n < 10) (hS : SL f g pl σ) (hpl : pl.length + (e - p) ≤ 16400) (hp : md_ok T e p)
    (hok : ∀ dm r, md_dm T e p = .ok (dm, r) → md_ok T e r → p ≤ r → ∀ f' g' pl', SL f' g' pl' (up1 σ (960 + 3 * (10 * (kd - 5) + n) + 2) dm) → pl'.length + (e - r) ≤ pl.length + (e - p) → Q (.inl none) (cs X t T e (ts t D f' g') r pl'))
    (her : ∀ x z D', md_dm T e p = .error x → cT X t D x z D' → Q (.inr z) D') :
    sw (sm_fe C 80 [.ref (X + 9), .ref t, .int (ni kd), .int (ni n)] (cs X t T e (ts t D f g) p pl)) Q := by
  have hX := h.1.1
  have ht := h.1.2.1
  have tr := (sm_tree_of hX ht).1
  unfold md_dm at hok her
  refine sw_ge (f80 hX tr) ?_
  simp only [sw_bv]
  refine c32 (cW_ts h) hp (fun p1 h1 => ?_) (fun x z D' h1 hT => ⟨hT.tw, her x z D' (by rw [h1]; rfl) (hT.of cF_ts)⟩)
  obtain ⟨o1, l1⟩ := md_space_ok hp h1
  have oe1 := o1.1
  simp only [h1, bind, Except.bind] at hok her
  simp only [sb_v, sw_bi, cs_p ht]
  refine c39 (cW_ts h) (by omega) o1 (fun xs b p2 h2 => ?_) (fun x z D' h2 hT => ⟨hT.tw, her x z D' (by rw [h2]) (hT.of cF_ts)⟩)
  obtain ⟨o2, l2⟩ := md_dotted_ok o1 h2
  have oe2 := o2.1
  simp only [h2] at hok her
  simp only [sb_i, sw_bi, c145 (show 5 ≤ kd by omega), sw_some, sw_bv, c135 h.1 (show 960 + 3 * (10 * (kd - 5) + n) + 2 < 1061 by omega) (show pl.length + xs.length ≤ 16400 by omega), sb_v]
  refine c32 (cW_ts h) o2 (fun p3 h3 => ?_) (fun x z D' h3 hT => ⟨hT.tw, her x z D' (by rw [h3]) (hT.of cF_ts)⟩)
  obtain ⟨o3, l3⟩ := md_space_ok o2 h3
  have oe3 := o3.1
  simp only [h3] at hok her
  simp only [sb_v, sw_some]
  have hS1 := hS.set (ys := xs.map md_sm) (960 + 3 * (10 * (kd - 5) + n) + 2)
  rw [List.length_map] at hS1
  exact hok _ p3 rfl o3 (by omega) _ _ _ hS1 (by rw [List.length_append, List.length_map]; omega)
theorem c79 (h : cW C X t T N e D) {f g : Nat → Int32} {σ : Nat → List Int32} {p kd n : Nat} {pl : List Int32} (hk : kd = 5 ∨ kd = 6) (hn : n < 10) (hS : SL f g pl σ) (hpl : pl.length + (e - p) ≤ 16400) (hp : md_ok T e p)
    (hok : ∀ lo r, md_loc T e p = .ok (lo, r) → md_ok T e r → p ≤ r → ∀ f' g' pl', SL f' g' pl' (up1 σ (960 + 3 * (10 * (kd - 5) + n) + 1) lo) → pl'.length + (e - r) ≤ pl.length + (e - p) → Q (.inl none) (cs X t T e (ts t D f' g') r pl'))
    (her : ∀ x z D', md_loc T e p = .error x → cT X t D x z D' → Q (.inr z) D') :
    sw (sm_fe C 79 [.ref (X + 9), .ref t, .int (ni kd), .int (ni n)] (cs X t T e (ts t D f g) p pl)) Q := by
  have hX := h.1.1
  have ht := h.1.2.1
  have tr := (sm_tree_of hX ht).1
  unfold md_loc at hok her
  refine sw_ge (f79 hX tr) ?_
  simp only [sw_bv]
  refine c32 (cW_ts h) hp (fun p1 h1 => ?_) (fun x z D' h1 hT => ⟨hT.tw, her x z D' (by rw [h1]; rfl) (hT.of cF_ts)⟩)
  obtain ⟨o1, l1⟩ := md_space_ok hp h1
  have oe1 := o1.1
  simp only [h1, bind, Except.bind] at hok her
  have h57 : ∀ (xs : List Int32) (p2 : Nat), md_ok T e p2 → p1 + xs.length ≤ p2 → (∀ lo r, md_sp1 T e xs p2 = .ok (lo, r) → md_ok T e r → p ≤ r → ∀ f' g' pl', SL f' g' pl' (up1 σ (960 + 3 * (10 * (kd - 5) + n) + 1) lo) → pl'.length + (e - r) ≤ pl.length + (e - p) → Q (.inl none) (cs X t T e (ts t D f' g') r pl')) → (∀ x z D', md_sp1 T e xs p2 = .error x → cT X t D x z D' → Q (.inr z) D') →
      sw (sm_fx C 79 57 [.ref (X + 9), .ref t, .int (ni kd), .int (ni n), .int (ni pl.length)] [] (cs X t T e (ts t D f g) p2 (pl ++ xs))) Q := by
    intro xs p2 o2 l2 hok her
    unfold md_sp1 at hok her
    have oe2 := o2.1
    refine sw_ge (n79_57 hX tr) ?_
    simp only [sw_bi, c145 (show 5 ≤ kd by omega), sw_some, sb_i, sw_bv]
    rw [c131 h.1 (by omega) (by rw [List.length_append]; omega), sw_some, List.length_append, Nat.add_sub_cancel_left]
    simp only [sb_v, sw_bv]
    refine c32 (cW_ts h) o2 (fun p3 h3 => ?_) (fun x z D' h3 hT => ⟨hT.tw, her x z D' (by rw [h3]; rfl) (hT.of cF_ts)⟩)
    obtain ⟨o3, l3⟩ := md_space_ok o2 h3
    have oe3 := o3.1
    simp only [h3, bind, Except.bind] at hok her
    simp only [sb_v, sw_some]
    exact hok _ p3 rfl o3 (by omega) _ _ _ (hS.set (ys := xs) _) (by rw [List.length_append]; omega)
  simp only [sb_v, sw_ite, cs_4, md_cu_is (show 34 < 2147483648 by omega), sw_bv, sw_bi, cs_p ht]
  by_cases hc : p1 < e ∧ T p1 = ni 34
  · rw [if_pos hc]
    simp only [if_pos hc] at hok her
    have hlt := md_nx_lt (T := T) hc.1
    refine c36 (cW_ts h) (by omega) (by omega) o1 (fun xs p2 h2 => ?_) (fun x z D' h2 hT => ⟨hT.tw, her x z D' (by rw [h2]) (hT.of cF_ts)⟩)
    obtain ⟨o2, l2⟩ := md_quo_ok o1.nx h2
    simp only [h2] at hok her
    exact h57 xs p2 o2 (by omega) hok her
  · rw [if_neg hc]
    simp only [if_neg hc] at hok her
    refine c39 (cW_ts h) (by omega) o1 (fun xs b p2 h2 => ?_) (fun x z D' h2 hT => ⟨hT.tw, her x z D' (by rw [h2]; rfl) (hT.of cF_ts)⟩)
    obtain ⟨o2, l2⟩ := md_dotted_ok o1 h2
    simp only [h2, Except.map] at hok her
    exact h57 xs p2 o2 l2 hok her
theorem c78_109 (h : cW C X t T N e D) {f g : Nat → Int32} {kd n st0 : Nat} (hst : st0 < 2147483648) : ∀ (m p v : Nat) (pl : List Int32), e - p < m → v + (e - p) < 8000 → pl.length + (e - p) + (if p < e ∧ md_atm (T p) = true then 1 else 0) < 16400 → md_ok T e p →
    (∀ ys r, md_wds T e m p = .ok (ys, r) → md_ok T e r → sw (sm_fx C 78 187 [sm_junk, .ref t, .int (ni kd), .int (ni n), sm_junk, .int (ni st0), sm_junk, sm_junk] [] (cs X t T e (ts t D f g) r (pl ++ ys))) Q) →
    (∀ x z D', md_wds T e m p = .error x → cT X t D x z D' → Q (.inr z) D') →
    sw (sm_fx C 78 109 [.ref (X + 9), .ref t, .int (ni kd), .int (ni n), .ref (t + 1), .int (ni st0), sm_junk, .int (ni v)] [] (cs X t T e (ts t D f g) p pl)) Q := by
  have hX := h.1.1
  have ht := h.1.2.1
  have tr := (sm_tree_of hX ht).1
  intro m
  induction m with
  | zero => intro p v pl hm; exact absurd hm (Nat.not_lt_zero _)
  | succ m ih =>
    intro p v pl hm hv hpl hp hok her
    have hpe := hp.1
    unfold md_wds at hok her
    refine sw_ge (n78_109 hX tr) ?_
    simp (disch := omega) only [sw_ite, ni_le, cs_4, md_cu_is]
    by_cases h60 : p < e ∧ T p = ni 60
    · rw [if_pos h60] at hok
      rw [if_pos h60]
      have := hok [] p rfl hp
      rw [List.append_nil] at this
      split <;> exact this
    · rw [if_neg h60] at hok her
      rw [if_neg h60]
      rw [if_neg (by omega), sw_bv, c44 (cW_ts h).1 (by split at hpl <;> omega), sw_some]
      simp only [sb_v, sw_ite, cs_4, md_cu_is (show 34 < 2147483648 by omega), sw_bv]
      have h174 : ∀ (xs : List Int32) (p1 : Nat), md_ok T e p1 → p < p1 → (pl ++ [ni 32]).length + xs.length + (e - p1) < 16400 → (p1 < e ∧ md_atm (T p1) = true → (pl ++ [ni 32]).length + xs.length + (e - p1) + 1 < 16400) → ((do
          let p2 ← md_space T e 0 p1
          let (ys, p3) ← md_wds T e m p2
          .ok (ni 32 :: (xs ++ ys), p3) : Except Nat (List Int32 × Nat)) = (if p < e ∧ T p = ni 34 then (do
            let (xs, p1) ← md_quo T e 8000 0 (md_nx T e p)
            let p2 ← md_space T e 0 p1
            let (ys, p3) ← md_wds T e m p2
            .ok (ni 32 :: (xs ++ ys), p3)) else (do
            let (xs, p1) ← md_word T e md_atm 0 p
            let p2 ← md_space T e 0 p1
            let (ys, p3) ← md_wds T e m p2
            .ok (ni 32 :: (xs ++ ys), p3)))) →
          sw (sm_fx C 78 174 [.ref (X + 9), .ref t, .int (ni kd), .int (ni n), .ref (t + 1), .int (ni st0), sm_junk, .int (ni v)] [] (cs X t T e (ts t D f g) p1 ((pl ++ [ni 32]) ++ xs))) Q := by
        intro xs p1 o1 hlt b1 b2 heq
        have hok' : ∀ ys r, (do
          let p2 ← md_space T e 0 p1
          let (ys, p3) ← md_wds T e m p2
          .ok (ni 32 :: (xs ++ ys), p3) : Except Nat (List Int32 × Nat)) = .ok (ys, r) → md_ok T e r → sw (sm_fx C 78 187 [sm_junk, .ref t, .int (ni kd), .int (ni n), sm_junk, .int (ni st0), sm_junk, sm_junk] [] (cs X t T e (ts t D f g) r (pl ++ ys))) Q := fun ys r hh => hok ys r (by
            rw [heq] at hh
            by_cases hq : p < e ∧ T p = ni 34
            · rw [if_pos hq] at hh ⊢; exact hh
            · rw [if_neg hq] at hh ⊢; exact hh)
        have her' : ∀ x z D', (do
          let p2 ← md_space T e 0 p1
          let (ys, p3) ← md_wds T e m p2
          .ok (ni 32 :: (xs ++ ys), p3) : Except Nat (List Int32 × Nat)) = .error x → cT X t D x z D' → Q (.inr z) D' := fun x z D' hh => her x z D' (by
            rw [heq] at hh
            by_cases hq : p < e ∧ T p = ni 34
            · rw [if_pos hq] at hh ⊢; exact hh
            · rw [if_neg hq] at hh ⊢; exact hh)
        have oe1 := o1.1
        refine sw_ge (n78_174 hX tr) ?_
        simp only [sw_bv]
        refine c32 (cW_ts h) o1 (fun p2 h2 => ?_) (fun x z D' h2 hT => ⟨hT.tw, her' x z D' (by rw [h2]; rfl) (hT.of cF_ts)⟩)
        obtain ⟨o2, l2⟩ := md_space_ok o1 h2
        have oe2 := o2.1
        simp only [h2, bind, Except.bind] at hok' her'
        simp only [sb_v, ni_add]
        refine ih p2 (v + 1) _ (by omega) (by omega) ?_ o2 (fun ys r h3 o3 => ?_) (fun x z D' h3 hT => her' x z D' (by rw [h3]) hT)
        · rw [List.length_append (bs := xs)]
          rcases Nat.eq_or_lt_of_le l2 with l3 | l3
          · rw [← l3]
            by_cases ha : p1 < e ∧ md_atm (T p1) = true
            · rw [if_pos ha]; have := b2 ha; omega
            · rw [if_neg ha]; omega
          · split <;> omega
        · simp only [h3] at hok'
          have := hok' _ r rfl o3
          rw [show pl ++ ni 32 :: (xs ++ ys) = ((pl ++ [ni 32]) ++ xs) ++ ys from by simp] at this
          exact this
      have hl1 : (pl ++ [ni 32]).length = pl.length + 1 := by rw [List.length_append]; rfl
      have hb0 : pl.length + (e - p) < 16400 := by split at hpl <;> omega
      by_cases h34 : p < e ∧ T p = ni 34
      · rw [if_pos h34]
        have hlt := md_nx_lt (T := T) h34.1
        refine c36 (cW_ts h) (by omega) (by rw [hl1]; omega) hp (fun xs p1 h1 => ?_) (fun x z D' h1 hT => ⟨hT.tw, her x z D' (by rw [if_pos h34, h1]; rfl) (hT.of cF_ts)⟩)
        obtain ⟨o1, l1⟩ := md_quo_ok hp.nx h1
        have oe1 := o1.1
        simp only [sb_v]
        refine h174 xs p1 o1 (by omega) (by rw [hl1]; omega) (fun _ => by rw [hl1]; omega) ?_
        rw [if_pos h34, h1]
        rfl
      · rw [if_neg h34]
        by_cases ha : p < e ∧ md_atm (T p) = true
        · rw [if_pos ha] at hpl
          refine c34 (cW_ts h) (st_atm7 h.1.2.2.1) md_atm_set (by rw [hl1]; omega) hp (fun xs p1 h1 => ?_) (fun x z D' h1 hT => ⟨hT.tw, her x z D' (by rw [if_neg h34, h1]; rfl) (hT.of cF_ts)⟩)
          obtain ⟨o1, l1⟩ := md_word_ok hp h1
          have oe1 := o1.1
          have hne := (md_word_end h1).2 rfl
          have hlx : xs.length ≠ 0 := fun z => hne (List.length_eq_zero_iff.mp z)
          simp only [sb_v]
          refine h174 xs p1 o1 (by omega) (by rw [hl1]; omega) (fun z => absurd z (md_word_end h1).1) ?_
          rw [if_neg h34, h1]
          rfl
        · have hw : md_word T e md_atm 0 p = .error p := by
            rw [md_word, dif_neg ha, if_pos rfl]
          rw [if_neg h34, hw] at her
          have hr := (sm_tree_of hX ht).2
          have hs7 := st_atm7 h.1.2.2.1
          obtain ⟨w, s1, -, s3, s4, -⟩ := id hs7
          refine sw_ge (f34 hX s1 hr) ?_
          refine sw_ge (n34_2 hX s1 hr) ?_
          simp (disch := omega) only [sw_ite, ni_le, sw_bi, c4w h hs7 md_atm_set, sw_some, sb_i, cs_4, md_sw]
          rw [if_neg (by omega), if_pos ha]
          refine sw_ge (n34_37 hX s1 hr) ?_
          simp only [sw_ite, if_true]
          refine sw_ge (n34_52 hX s1 hr) ?_
          simp only [sw_bv, cs_2]
          exact c29 hX (cF_ts.trans cF_cs) (fun z D' hT => ⟨hT.tw, hT.tw, her p z D' rfl hT⟩)
end CAD
