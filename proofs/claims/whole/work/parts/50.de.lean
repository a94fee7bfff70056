section CAE
variable {C : sm_K} {X t N e : Nat} {T : Nat → Int32} {D : sm_D} {Q : (Option Value ⊕ Nat) → sm_D → Prop}
theorem md_beg_ok {p r : Nat} {b : Bool × List Int32} (hp : md_ok T e p) (h : md_beg T e p = .ok (b, r)) : md_ok T e r ∧ p + b.2.length ≤ r ∧ (b.1 = true → r < e ∧ T r = ni 60) := by
  unfold md_beg at h
  by_cases h60 : p < e ∧ T p = ni 60
  · rw [if_pos h60] at h
    cases h
    exact ⟨hp, Nat.le_refl _, fun _ => h60⟩
  · rw [if_neg h60] at h
    have wend : ∀ {n q s : Nat} {ys : List Int32}, md_wds T e n q = .ok (ys, s) → s < e ∧ T s = ni 60 := by
      intro n
      induction n with
      | zero => intro q s ys h; cases h
      | succ n ih =>
        intro q s ys h
        unfold md_wds at h
        by_cases hq : q < e ∧ T q = ni 60
        · rw [if_pos hq] at h; cases h; exact hq
        · rw [if_neg hq] at h
          have tl : ∀ (xs : List Int32) (p1 : Nat), (do
            let p2 ← md_space T e 0 p1
            let (ys, p3) ← md_wds T e n p2
            .ok (ni 32 :: (xs ++ ys), p3) : Except Nat (List Int32 × Nat)) = .ok (ys, s) → s < e ∧ T s = ni 60 := by
            intro xs p1 h
            cases h2 : md_space T e 0 p1 with
            | error x => rw [h2] at h; cases h
            | ok p2 =>
              simp only [h2, bind, Except.bind] at h
              cases h3 : md_wds T e n p2 with
              | error x => simp only [h3] at h; cases h
              | ok a => simp only [h3] at h; cases h; exact ih h3
          by_cases h34 : q < e ∧ T q = ni 34
          · rw [if_pos h34] at h
            cases h1 : md_quo T e 8000 0 (md_nx T e q) with
            | error x => rw [h1] at h; cases h
            | ok a => rw [h1] at h; exact tl a.1 a.2 h
          · rw [if_neg h34] at h
            cases h1 : md_word T e md_atm 0 q with
            | error x => rw [h1] at h; cases h
            | ok a => rw [h1] at h; exact tl a.1 a.2 h
    have tail : ∀ (xs : List Int32) (dt : Bool) (p1 : Nat), md_ok T e p1 → p + xs.length ≤ p1 → (p1 < e ∧ md_atm (T p1) = true → p + xs.length < p1) → (do
        let p2 ← md_space T e 0 p1
        if dt = true ∨ (p2 < e ∧ T p2 = ni 64) then .ok ((false, xs), p2)
        else do
          let (ys, p3) ← md_wds T e (e + 1) p2
          .ok ((true, xs ++ ys), p3) : Except Nat ((Bool × List Int32) × Nat)) = .ok (b, r) → md_ok T e r ∧ p + b.2.length ≤ r ∧ (b.1 = true → r < e ∧ T r = ni 60) := by
      intro xs dt p1 o1 l1 hne h
      cases h2 : md_space T e 0 p1 with
      | error x => rw [h2] at h; cases h
      | ok p2 =>
        obtain ⟨o2, l2⟩ := md_space_ok o1 h2
        simp only [h2, bind, Except.bind] at h
        split at h
        · cases h; exact ⟨o2, by dsimp only; omega, fun z => nomatch z⟩
        · cases h3 : md_wds T e (e + 1) p2 with
          | error x => simp only [h3] at h; cases h
          | ok a =>
            obtain ⟨ys, p3⟩ := a
            simp only [h3] at h
            cases h
            obtain ⟨o3, l3, b3⟩ := md_wds_ok o2 h3
            refine ⟨o3, ?_, fun _ => wend h3⟩
            dsimp only
            rw [List.length_append]
            by_cases ha : p2 < e ∧ md_atm (T p2) = true
            · rw [if_pos ha] at b3
              rcases Nat.eq_or_lt_of_le l2 with l4 | l4
              · rw [← l4] at ha
                have := hne ha
                omega
              · omega
            · rw [if_neg ha] at b3; omega
    by_cases h34 : p < e ∧ T p = ni 34
    · rw [if_pos h34] at h
      cases h1 : md_quo T e 8000 0 (md_nx T e p) with
      | error x => rw [h1] at h; cases h
      | ok a =>
        obtain ⟨xs, p1⟩ := a
        rw [h1] at h
        obtain ⟨o1, l1⟩ := md_quo_ok hp.nx h1
        have hlt := md_nx_lt (T := T) h34.1
        exact tail xs false p1 o1 (by omega) (fun _ => by omega) h
    · rw [if_neg h34] at h
      cases h1 : md_dotted T e p with
      | error x => rw [h1] at h; cases h
      | ok a =>
        obtain ⟨xs, dt, p1⟩ := a
        rw [h1] at h
        obtain ⟨o1, l1⟩ := md_dotted_ok hp h1
        refine tail xs dt p1 o1 l1 (fun ha => ?_) h
        -- behind dotted atoms no atom's letter stands
        exfalso
        unfold md_dotted at h1
        cases g1 : md_word T e md_atm 0 p with
        | error x => rw [g1] at h1; cases h1
        | ok a =>
          obtain ⟨x1, q1⟩ := a
          simp only [g1, bind, Except.bind] at h1
          have dend : ∀ {n q s : Nat} {ys : List Int32}, ¬ (q < e ∧ md_atm (T q) = true) → md_dots T e n q = .ok (ys, s) → ¬ (s < e ∧ md_atm (T s) = true) := by
            intro n
            induction n with
            | zero => intro q s ys hq h; unfold md_dots at h; cases h; exact hq
            | succ n ih =>
              intro q s ys hq h
              unfold md_dots at h
              split at h
              · cases g2 : md_word T e md_atm 0 (md_nx T e q) with
                | error x => rw [g2] at h; cases h
                | ok a =>
                  obtain ⟨x2, q2⟩ := a
                  simp only [g2, bind, Except.bind] at h
                  cases g3 : md_dots T e n q2 with
                  | error x => simp only [g3] at h; cases h
                  | ok b => simp only [g3] at h; cases h; exact ih (md_word_end g2).1 g3
              · cases h; exact hq
          cases g3 : md_dots T e e q1 with
          | error x => simp only [g3] at h1; cases h1
          | ok b => simp only [g3] at h1; cases h1; exact dend (md_word_end g1).1 g3 ha
theorem c78 (h : cW C X t T N e D) {f g : Nat → Int32} {σ : Nat → List Int32} {p kd n : Nat} {pl : List Int32} (hk : kd = 5 ∨ kd = 6) (hn : n < 10) (hS : SL f g pl σ) (h0 : σ (960 + 3 * (10 * (kd - 5) + n)) = []) (hpl : pl.length + (e - p) < 16400) (hp : md_ok T e p) (hp1 : 1 ≤ p)
    (hok : ∀ b r, md_beg T e p = .ok (b, r) → md_ok T e r → ∀ f' g' pl', SL f' g' pl' (up1 σ (960 + 3 * (10 * (kd - 5) + n) + (if b.1 then 0 else 1)) b.2) → pl'.length + (e - r) ≤ pl.length + (e - p) → Q (.inl (some (.int (md_b b.1)))) (cs X t T e (ts t D f' g') r pl'))
    (her : ∀ x z D', md_beg T e p = .error x → cT X t D x z D' → Q (.inr z) D') :
    sw (sm_fe C 78 [.ref (X + 9), .ref t, .int (ni kd), .int (ni n)] (cs X t T e (ts t D f g) p pl)) Q := by
  have hX := h.1.1
  have ht := h.1.2.1
  have tr := (sm_tree_of hX ht).1
  have heN := h.2.1
  have hN := h.1.2.2.2.1
  have hpe := hp.1
  have hbo := fun b r => md_beg_ok (b := b) (r := r) hp
  unfold md_beg at hok her hbo
  refine sw_ge (f78 hX tr) ?_
  simp only [sw_ite, cs_4, md_cu_is (show 60 < 2147483648 by omega), md_cu_is (show 34 < 2147483648 by omega), sw_some, nar_b1, sw_bv, sw_bi, cs_p ht]
  by_cases h60 : p < e ∧ T p = ni 60
  · rw [if_pos h60] at hok
    rw [if_pos h60]
    refine hok (true, []) p rfl hp f g pl ?_ (Nat.le_refl _)
    have : up1 σ (960 + 3 * (10 * (kd - 5) + n) + 0) [] = σ := by
      funext k
      unfold up1
      by_cases hk2 : k = 960 + 3 * (10 * (kd - 5) + n) + 0
      · rw [if_pos hk2, hk2]; exact h0.symm
      · rw [if_neg hk2]
    show SL f g pl (up1 σ (960 + 3 * (10 * (kd - 5) + n) + 0) [])
    rw [this]
    exact hS
  · rw [if_neg h60] at hok her
    simp only [if_neg h60] at hbo
    rw [if_neg h60]
    have h68 : ∀ (xs : List Int32) (dt : Bool) (p1 : Nat), md_ok T e p1 → p + xs.length ≤ p1 → p < p1 → (p1 < e ∧ md_atm (T p1) = true → p + xs.length < p1) → (∀ v, ((do
        let p2 ← md_space T e 0 p1
        if dt = true ∨ (p2 < e ∧ T p2 = ni 64) then .ok ((false, xs), p2)
        else do
          let (ys, p3) ← md_wds T e (e + 1) p2
          .ok ((true, xs ++ ys), p3) : Except Nat ((Bool × List Int32) × Nat)) = v → (do
        let (xs, dt, p1) ← if p < e ∧ T p = ni 34 then (md_quo T e 8000 0 (md_nx T e p)).map (fun a => (a.1, false, a.2)) else md_dotted T e p
        let p2 ← md_space T e 0 p1
        if dt = true ∨ (p2 < e ∧ T p2 = ni 64) then .ok ((false, xs), p2)
        else do
          let (ys, p3) ← md_wds T e (e + 1) p2
          .ok ((true, xs ++ ys), p3)) = v)) →
        sw (sm_fx C 78 68 [.ref (X + 9), .ref t, .int (ni kd), .int (ni n), .ref (t + 1), .int (ni pl.length), .int (md_b dt), sm_junk] [] (cs X t T e (ts t D f g) p1 (pl ++ xs))) Q := by
      intro xs dt p1 o1 l1 hlt hne heq
      have hok' := fun b r hh => hok b r (heq _ hh)
      have her' := fun x z D' hh => her x z D' (heq _ hh)
      have hbo' := fun b r hh => hbo b r (heq _ hh)
      have oe1 := o1.1
      refine sw_ge (n78_68 hX tr) ?_
      simp only [sw_bv]
      refine c32 (cW_ts h) o1 (fun p2 h2 => ?_) (fun x z D' h2 hT => ⟨hT.tw, her' x z D' (by rw [h2]; rfl) (hT.of cF_ts)⟩)
      obtain ⟨o2, l2⟩ := md_space_ok o1 h2
      have oe2 := o2.1
      simp only [h2, bind, Except.bind] at hok' her' hbo'
      simp only [sb_v, sw_ite, md_b_0, cs_4, md_cu_is (show 64 < 2147483648 by omega)]
      have h92 : (dt = true ∨ (p2 < e ∧ T p2 = ni 64)) → sw (sm_fx C 78 92 [sm_junk, .ref t, .int (ni kd), .int (ni n), sm_junk, .int (ni pl.length), sm_junk, sm_junk] [] (cs X t T e (ts t D f g) p2 (pl ++ xs))) Q := by
        intro hc
        simp only [if_pos hc] at hok'
        refine sw_ge (n78_92 hX tr) ?_
        simp only [sw_bi, c145 (show 5 ≤ kd by omega), sw_some, sb_i, sw_bv]
        rw [c131 h.1 (by omega) (by rw [List.length_append]; omega), sw_some, List.length_append, Nat.add_sub_cancel_left]
        simp only [sb_v, sw_some, nar_b0]
        exact hok' (false, xs) p2 rfl o2 _ _ _ (hS.set (ys := xs) _) (by rw [List.length_append]; omega)
      have h109 : ¬ (dt = true ∨ (p2 < e ∧ T p2 = ni 64)) → sw (sm_fx C 78 109 [.ref (X + 9), .ref t, .int (ni kd), .int (ni n), .ref (t + 1), .int (ni pl.length), sm_junk, .int (ni 1)] [] (cs X t T e (ts t D f g) p2 (pl ++ xs))) Q := by
        intro hc
        simp only [if_neg hc] at hok' her' hbo'
        refine c78_109 h (by omega) (e + 1) p2 1 _ (by omega) (by omega) ?_ o2 (fun ys r h3 o3 => ?_) (fun x z D' h3 hT => her' x z D' (by rw [h3]) hT)
        · rw [List.length_append]
          by_cases ha : p2 < e ∧ md_atm (T p2) = true
          · rw [if_pos ha]
            rcases Nat.eq_or_lt_of_le l2 with l4 | l4
            · rw [← l4] at ha
              have := hne ha
              omega
            · omega
          · rw [if_neg ha]; omega
        · simp only [h3] at hok' hbo'
          have hb := hbo' (true, xs ++ ys) r rfl
          have oe3 := o3.1
          have hb2 := hb.2.1
          dsimp only at hb2
          rw [List.length_append] at hb2
          refine sw_ge (n78_187 hX tr) ?_
          simp only [sw_bi, c145 (show 5 ≤ kd by omega), sw_some, sb_i, sw_bv, List.append_assoc]
          rw [c131 h.1 (by omega) (by rw [List.length_append]; omega), sw_some, List.length_append, Nat.add_sub_cancel_left]
          simp only [sb_v, sw_some, nar_b1]
          exact hok' (true, xs ++ ys) r rfl o3 _ _ _ (hS.set (ys := xs ++ ys) _) (by rw [List.length_append (as := pl), List.length_append]; omega)
      cases dt
      · rw [if_pos rfl]
        by_cases h64 : p2 < e ∧ T p2 = ni 64
        · rw [if_pos h64]; exact h92 (Or.inr h64)
        · rw [if_neg h64]; exact h109 (fun z => z.elim (fun y => nomatch y) h64)
      · rw [if_neg (fun z => nomatch z)]
        exact h92 (Or.inl rfl)
    by_cases h34 : p < e ∧ T p = ni 34
    · rw [if_pos h34]
      have hlt := md_nx_lt (T := T) h34.1
      refine c36 (cW_ts h) (by omega) (by omega) hp (fun xs p1 h1 => ?_) (fun x z D' h1 hT => ⟨hT.tw, her x z D' (by rw [if_pos h34, h1]; rfl) (hT.of cF_ts)⟩)
      obtain ⟨o1, l1⟩ := md_quo_ok hp.nx h1
      simp only [sb_v]
      exact h68 xs false p1 o1 (by omega) (by omega) (fun _ => by omega) (fun v hv => by rw [if_pos h34, h1]; exact hv)
    · rw [if_neg h34]
      refine c39 (cW_ts h) (by omega) hp (fun xs dt p1 h1 => ?_) (fun x z D' h1 hT => ⟨hT.tw, her x z D' (by rw [if_neg h34, h1]; rfl) (hT.of cF_ts)⟩)
      obtain ⟨o1, l1⟩ := md_dotted_ok hp h1
      simp only [sb_i]
      have dne : xs ≠ [] ∧ ¬ (p1 < e ∧ md_atm (T p1) = true) := by
        unfold md_dotted at h1
        cases g1 : md_word T e md_atm 0 p with
        | error x => rw [g1] at h1; cases h1
        | ok a =>
          obtain ⟨x1, q1⟩ := a
          simp only [g1, bind, Except.bind] at h1
          have dend : ∀ {n q s : Nat} {ys : List Int32}, ¬ (q < e ∧ md_atm (T q) = true) → md_dots T e n q = .ok (ys, s) → ¬ (s < e ∧ md_atm (T s) = true) := by
            intro n
            induction n with
            | zero => intro q s ys hq h; unfold md_dots at h; cases h; exact hq
            | succ n ih =>
              intro q s ys hq h
              unfold md_dots at h
              split at h
              · cases g2 : md_word T e md_atm 0 (md_nx T e q) with
                | error x => rw [g2] at h; cases h
                | ok a =>
                  obtain ⟨x2, q2⟩ := a
                  simp only [g2, bind, Except.bind] at h
                  cases g3 : md_dots T e n q2 with
                  | error x => simp only [g3] at h; cases h
                  | ok b => simp only [g3] at h; cases h; exact ih (md_word_end g2).1 g3
              · cases h; exact hq
          cases g3 : md_dots T e e q1 with
          | error x => simp only [g3] at h1; cases h1
          | ok b =>
            simp only [g3] at h1
            cases h1
            refine ⟨fun z => (md_word_end g1).2 rfl (List.append_eq_nil_iff.mp z).1, dend (md_word_end g1).1 g3⟩
      have hlx : xs.length ≠ 0 := fun z => dne.1 (List.length_eq_zero_iff.mp z)
      exact h68 xs dt p1 o1 l1 (by omega) (fun ha => absurd ha dne.2) (fun v hv => by rw [if_neg h34, h1]; exact hv)
end CAE
