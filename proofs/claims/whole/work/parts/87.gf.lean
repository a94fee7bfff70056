section RGF
variable {C : sm_K} {X N e q i : Nat} {T : Nat → Int32} {D E F : sm_D} {Q : (Option Value ⊕ Nat) → sm_D → Prop} {l : List Int32} {b a z : Int32} {ps : List (List Int32 × List Int32)}
theorem RP.mono {m : List Int32} (h : RP X i ps l D) : RP X i ps (l ++ m) D := ⟨h.1, h.2.1, fun n w hw => ⟨(h.2.2 n w hw).1.mono, (h.2.2 n w hw).2.1.mono, (h.2.2 n w hw).2.2⟩⟩
theorem RP.of (h : RP X i ps l D) (g : ∀ c j, c = X + 61 ∨ (X + 66 ≤ c ∧ c ≤ X + 69 ∧ j < 6 * i + ps.length) → E.1 c j = D.1 c j) : RP X i ps l E := by
  refine ⟨by rw [g _ _ (Or.inl rfl)]; exact h.1, h.2.1, fun n w hw => ?_⟩
  have hn : n < ps.length := by
    rcases Nat.lt_or_ge n ps.length with h1 | h1
    · exact h1
    · rw [List.getElem?_eq_none h1] at hw; cases hw
  rw [g (X + 66) _ (Or.inr (by omega)), g (X + 67) _ (Or.inr (by omega)), g (X + 68) _ (Or.inr (by omega)), g (X + 69) _ (Or.inr (by omega))]
  exact h.2.2 n w hw
/-- a parameter -/
theorem r188 (h : rW C X T N e D) (hs : RS X D q l b a z E) (hq : ro T e q) (hqe : q < e) (hi : i < 40) (h6 : ps.length < 6) (hP : RP X i ps l D) (hl : l.length + (e - q) ≤ 24000)
    (hok : ∀ w p6 p7, md_par1 T e ps (md_nx T e q) = .ok (w, p6) → md_space T e 0 p6 = .ok p7 → ∀ D' E' m b' a' z', RS X D' p7 (l ++ m) b' a' z' E' → rP X i D D' → RP X i (ps ++ [w]) (l ++ m) D' → (∀ c j, c = X + 64 ∨ c = X + 65 ∨ c = X + 56 ∨ c = X + 57 ∨ c = X + 58 → D'.1 c j = D.1 c j) → (l ++ m).length + (e - p7) ≤ l.length + (e - q) → ro T e p7 → Q (.inl none) E')
    (her : ∀ f, (md_par1 T e ps (md_nx T e q) = .error f ∨ ∃ w p6, md_par1 T e ps (md_nx T e q) = .ok (w, p6) ∧ md_space T e 0 p6 = .error f) → ∀ E', rX X D f E' → Q (.inl none) E') :
    sw (sm_fe C 188 [.ref (X + 49), .int (ni i)] E) Q := by
  have hX := h.1.1
  have hN := h.1.2.2.1
  have he := h.2.1
  have hlt := md_nx_lt (T := T) hqe
  -- with a fault
  have x183 : ∀ {E : sm_D} {f n : Nat}, n < 240 → rX X D f E → (∀ E', rX X D f E' → Q (.inl none) E') → sw (sm_fx C 188 183 [.ref (X + 49), .int (ni i), .int (ni n), sm_junk] [] E) Q := by
    intro E f n hn hE hQ
    refine sw_ge (n188_183 hX) ?_
    have h3 : ∀ u v w : Int32, rX X D f (sm_dI (sm_dI (sm_dI E (X + 68) n u) (X + 69) n v) (X + 61) i w) := fun u v w => ((hE.dI (Or.inr (by omega)) (by omega)).dI (Or.inr (by omega)) (by omega)).dI (Or.inr (by omega)) (by omega)
    simp (disch := omega) only [sw_gu, ni_in, ni_nat, sw_ite, sw_bv]
    refine ⟨decide_eq_true (by omega), decide_eq_true (by omega), decide_eq_true (by omega), decide_eq_true (by omega), ?_⟩
    rw [if_neg (cast (h3 _ _ _).ne), sw_some]
    exact hQ _ (h3 _ _ _)
  have x151 : ∀ {E : sm_D} {f n : Nat}, n < 240 → rX X D f E → (∀ E', rX X D f E' → Q (.inl none) E') → sw (sm_fx C 188 151 [.ref (X + 49), .int (ni i), .int (ni n), sm_junk] [] E) Q := by
    intro E f n hn hE hQ
    refine sw_ge (n188_151 hX) ?_
    simp only [sw_ite, hE.ne, if_false]
    exact x183 hn hE hQ
  have x133 : ∀ {E : sm_D} {f n : Nat}, n < 240 → rX X D f E → (∀ E', rX X D f E' → Q (.inl none) E') → sw (sm_fx C 188 133 [.ref (X + 49), .int (ni i), .int (ni n), sm_junk] [] E) Q := by
    intro E f n hn hE hQ
    refine sw_ge (n188_133 hX) ?_
    simp only [sw_bv, r187x hX hE.ne, sw_some, sb_v, sw_ite, hE.ne, if_false]
    exact x151 hn hE hQ
  have x22 : ∀ {E : sm_D} {f : Nat}, rX X D f E → Q (.inl none) E → sw (sm_fx C 188 22 [.ref (X + 49), .int (ni i), sm_junk, sm_junk] [] E) Q := by
    intro E f hE hQ
    refine sw_ge (n188_22 hX) ?_
    simp only [sw_ite, hE.ne, if_false, sw_some]
    exact hQ
  unfold md_par1 at hok her
  refine sw_ge (f188 hX) ?_
  simp only [sw_bv]
  refine r181 h hs hq.1 hqe (fun E1 hE1 => ?_)
  simp only [sb_v, sw_bv]
  refine r178 h hE1 hq.nx.1 (fun p1 h1 E2 hE2 => ?_) (fun f h1 E2 hE2 => ?_)
  rotate_left
  · simp only [sb_v, sw_ite, hE2.ne, if_false]
    exact x22 hE2.toX (her f (Or.inl (by rw [h1]; rfl)) E2 hE2.toX)
  obtain ⟨o1, l1⟩ := md_space_ok hq.nx.1 h1
  have o1e := o1.1
  have q1 := hq.nx.le o1 l1
  simp only [h1, bind, Except.bind] at hok her
  simp only [sb_v, sw_ite, (hE2.W h).2.2.2, if_true, sw_bv]
  refine r182 h true true hE2 o1 (by omega) (fun xs p2 h2 E3 hE3 => ?_) (fun f h2 E3 hE3 => ?_)
  rotate_left
  · simp only [sb_v]
    have h2' : md_word T e md_tok 0 p1 = .error f := h2
    exact x22 hE3.toX (her f (Or.inl (by rw [h2'])) E3 hE3.toX)
  have h2' : md_word T e md_tok 0 p1 = .ok (xs, p2) := h2
  obtain ⟨o2, l2⟩ := md_word_ok o1 h2
  have o2e := o2.1
  have q2 := q1.le o2 (by omega)
  simp only [h2'] at hok her
  simp only [sb_v]
  have hsx : md_sx true xs = xs.map md_sm := rfl
  rw [hsx] at hE3
  have hxl : (xs.map md_sm).length = xs.length := List.length_map ..
  refine sw_ge (n188_22 hX) ?_
  have e61 : E3.1 (X + 61) i = ni ps.length := by rw [hE3.o (by unfold rsc; omega)]; exact hP.1
  simp (disch := omega) only [sw_ite, (hE3.W h).2.2.2, if_true, sw_gu, ni_in, ni_nat, e61, ni_mul, ni_add, hE3.2.2.2.2.1.2.1]
  refine ⟨decide_eq_true (by omega), decide_eq_true (by omega), decide_eq_true (by omega), ?_⟩
  rw [up_ne (by omega), hE3.2.2.2.2.1.2.2]
  have hS4 := (hE3.dI (c := X + 66) (j := 6 * i + ps.length) (ni l.length) (by unfold rsc; omega)).dI (c := X + 67) (j := 6 * i + ps.length) (ni xs.length) (by unfold rsc; omega)
  have hP4 : rP X i D (sm_dI (sm_dI D (X + 66) (6 * i + ps.length) (ni l.length)) (X + 67) (6 * i + ps.length) (ni xs.length)) := (rP.refl.dI (by unfold rO; omega)).dI (by unfold rO; omega)
  generalize hE0 : sm_dI (sm_dI E3 (X + 66) (6 * i + ps.length) (ni l.length)) (X + 67) (6 * i + ps.length) (ni xs.length) = E0 at hS4 ⊢
  generalize hD0 : sm_dI (sm_dI D (X + 66) (6 * i + ps.length) (ni l.length)) (X + 67) (6 * i + ps.length) (ni xs.length) = D0 at hS4 hP4
  have hW0 : rW C X T N e D0 := hP4.W h
  have d66 : D0.1 (X + 66) (6 * i + ps.length) = ni l.length := by rw [← hD0, dI_ne (by omega), dI_eq]
  have d67 : D0.1 (X + 67) (6 * i + ps.length) = ni xs.length := by rw [← hD0, dI_eq]
  have dno : ∀ c j, ¬ ((c = X + 66 ∨ c = X + 67) ∧ j = 6 * i + ps.length) → D0.1 c j = D.1 c j := fun c j hc => by rw [← hD0, dI_ne (by omega), dI_ne (by omega)]
  have hP0 : RP X i ps (l ++ xs.map md_sm) D0 := (hP.of (fun c j hc => dno c j (by omega))).mono
  -- behind the names
  have n68 : ∀ (m n : Nat), n + m = ps.length → sw (sm_fx C 188 68 [.ref (X + 49), .int (ni i), .int (ni (6 * i + ps.length)), .int (ni (6 * i + n))] [] (if (ps.take n).any (fun w => w.1 == xs.map md_sm) = true then sm_dI E0 (X + 49) 8 (ni p1) else E0)) Q := by
    intro m
    induction m with
    | zero =>
      intro n hn
      rw [List.take_of_length_le (by omega)]
      refine sw_ge (n188_68 hX) ?_
      simp (disch := omega) only [sw_ite, ni_le]
      rw [if_pos (by omega)]
      by_cases hd : ps.any (fun w => w.1 == xs.map md_sm) = true
      · rw [if_pos hd] at her
        rw [if_pos hd]
        have hX1 := rX_of_P hP4 (hS4.bad hW0 (q := p2) o2e (f := p1) (by omega))
        simp only [hX1.ne, if_false]
        exact x133 (by omega) hX1 (her p1 (Or.inl rfl))
      · rw [if_neg hd] at her hok
        rw [if_neg hd]
        simp only [(hS4.W hW0).2.2.2, if_true, sw_bv]
        refine r178 hW0 hS4 o2 (fun p3 h3 E5 hE5 => ?_) (fun f h3 E5 hE5 => ?_)
        rotate_left
        · simp only [sb_v]
          exact x133 (by omega) (rX_of_P hP4 hE5) (her f (Or.inl (by rw [h3])))
        obtain ⟨o3, l3⟩ := md_space_ok o2 h3
        have o3e := o3.1
        have q3 := q2.le o3 l3
        simp only [h3] at hok her
        simp only [sb_v]
        refine sw_ge (n188_133 hX) ?_
        simp only [sw_bv]
        refine r187 hW0 hE5 o3 (by omega) (fun p4 h4 E6 hE6 => ?_) (fun f h4 E6 hE6 => ?_)
        rotate_left
        · simp only [sb_v, sw_ite, hE6.ne, if_false]
          exact x151 (by omega) (rX_of_P hP4 hE6) (her f (Or.inl (by rw [h4])))
        obtain ⟨o4, l4⟩ := md_eat_ok o3 h4
        have o4e := o4.1
        have q4 := q3.le o4 l4
        simp only [h4] at hok her
        simp only [sb_v, sw_ite, (hE6.W hW0).2.2.2, if_true, sw_bv]
        refine r178 hW0 hE6 o4 (fun p5 h5 E7 hE7 => ?_) (fun f h5 E7 hE7 => ?_)
        rotate_left
        · simp only [sb_v]
          exact x151 (by omega) (rX_of_P hP4 hE7) (her f (Or.inl (by rw [h5])))
        obtain ⟨o5, l5⟩ := md_space_ok o4 h5
        have o5e := o5.1
        have q5 := q4.le o5 l5
        simp only [h5] at hok her
        simp only [sb_v]
        refine sw_ge (n188_151 hX) ?_
        simp only [sw_ite, (hE7.W hW0).2.2.2, if_true, sw_bi, hE7.cur hW0 o5e, sw_some, sb_i, md_cu_is (show 34 < 2147483648 by omega), sw_bv]
        -- the value told
        have n183 : ∀ {v : List Int32} {p6 : Nat} {b' : Int32} {E8 : sm_D}, md_ok T e p6 → p5 + v.length ≤ p6 → RS X D0 p6 ((l ++ xs.map md_sm) ++ v) b' (ni (l ++ xs.map md_sm).length) (ni v.length) E8 →
            (∀ p7, md_space T e 0 p6 = .ok p7 → ∀ D' E' m b' a' z', RS X D' p7 (l ++ m) b' a' z' E' → rP X i D D' → RP X i (ps ++ [(xs.map md_sm, v)]) (l ++ m) D' → (∀ c j, c = X + 64 ∨ c = X + 65 ∨ c = X + 56 ∨ c = X + 57 ∨ c = X + 58 → D'.1 c j = D.1 c j) → (l ++ m).length + (e - p7) ≤ l.length + (e - q) → ro T e p7 → Q (.inl none) E') →
            (∀ f, md_space T e 0 p6 = .error f → ∀ E', rX X D f E' → Q (.inl none) E') →
            sw (sm_fx C 188 183 [.ref (X + 49), .int (ni i), .int (ni (6 * i + ps.length)), sm_junk] [] E8) Q := by
          intro v p6 b' E8 o6 l6 hE8 hok6 her6
          have o6e := o6.1
          have e61 : E8.1 (X + 61) i = ni ps.length := by rw [hE8.o (by unfold rsc; omega)]; exact hP0.1
          refine sw_ge (n188_183 hX) ?_
          simp (disch := omega) only [sw_gu, ni_in, ni_nat, hE8.2.2.2.2.1.2.1]
          refine ⟨decide_eq_true (by omega), decide_eq_true (by omega), decide_eq_true (by omega), decide_eq_true (by omega), ?_⟩
          have e1 : sm_up E8.1 (X + 68) (6 * i + ps.length) (ni (l ++ xs.map md_sm).length) (X + 49) 49 = ni v.length := by rw [up_ne (by omega)]; exact hE8.2.2.2.2.1.2.2
          have e2 : sm_up (sm_up E8.1 (X + 68) (6 * i + ps.length) (ni (l ++ xs.map md_sm).length)) (X + 69) (6 * i + ps.length) (ni v.length) (X + 61) i = ni ps.length := by rw [up_ne (by omega), up_ne (by omega), e61]
          rw [e1, e2, ni_add]
          have hS9 := ((hE8.dI (c := X + 68) (j := 6 * i + ps.length) (ni (l ++ xs.map md_sm).length) (by unfold rsc; omega)).dI (c := X + 69) (j := 6 * i + ps.length) (ni v.length) (by unfold rsc; omega)).dI (c := X + 61) (j := i) (ni (ps.length + 1)) (by unfold rsc; omega)
          have hP9 : rP X i D (sm_dI (sm_dI (sm_dI D0 (X + 68) (6 * i + ps.length) (ni (l ++ xs.map md_sm).length)) (X + 69) (6 * i + ps.length) (ni v.length)) (X + 61) i (ni (ps.length + 1))) := ((hP4.dI (by unfold rO; omega)).dI (by unfold rO; omega)).dI (by unfold rO; omega)
          generalize hD9 : sm_dI (sm_dI (sm_dI D0 (X + 68) (6 * i + ps.length) (ni (l ++ xs.map md_sm).length)) (X + 69) (6 * i + ps.length) (ni v.length)) (X + 61) i (ni (ps.length + 1)) = D9 at hS9 hP9
          have hW9 : rW C X T N e D9 := hP9.W h
          have d9 : ∀ c j, ¬ ((c = X + 68 ∨ c = X + 69) ∧ j = 6 * i + ps.length) → ¬ (c = X + 61 ∧ j = i) → D9.1 c j = D0.1 c j := fun c j hc1 hc2 => by rw [← hD9, dI_ne (by omega), dI_ne (by omega), dI_ne (by omega)]
          have hR9 : RP X i (ps ++ [(xs.map md_sm, v)]) (l ++ (xs.map md_sm ++ v)) D9 := by
            rw [← List.append_assoc]
            refine ⟨by rw [← hD9, dI_eq, List.length_append]; rfl, by rw [List.length_append, List.length_singleton]; omega, fun n w hw => ?_⟩
            by_cases hn : n < ps.length
            · rw [List.getElem?_append_left hn] at hw
              obtain ⟨s1, s2, s3⟩ := hP0.2.2 n w hw
              rw [d9 _ _ (by omega) (by omega), d9 _ _ (by omega) (by omega), d9 _ _ (by omega) (by omega), d9 _ _ (by omega) (by omega)]
              exact ⟨s1.mono, s2.mono, s3⟩
            · rw [List.getElem?_append_right (by omega)] at hw
              have hn2 : n = ps.length := by
                rcases Nat.lt_or_ge (n - ps.length) 1 with g | g
                · omega
                · rw [List.getElem?_eq_none (by rw [List.length_singleton]; exact g)] at hw; cases hw
              subst hn2
              rw [Nat.sub_self] at hw
              cases hw
              rw [d9 _ _ (by omega) (by omega), d9 _ _ (by omega) (by omega), d66, d67]
              have g8 : D9.1 (X + 68) (6 * i + ps.length) = ni (l ++ xs.map md_sm).length := by rw [← hD9, dI_ne (by omega), dI_ne (by omega), dI_eq]
              have g9 : D9.1 (X + 69) (6 * i + ps.length) = ni v.length := by rw [← hD9, dI_ne (by omega), dI_eq]
              rw [g8, g9]
              have t1 : SLT (l ++ xs.map md_sm) (ni l.length) (ni (xs.map md_sm).length) (xs.map md_sm) := SLT.new
              rw [hxl] at t1
              refine ⟨t1.mono, SLT.new, ?_⟩
              rw [List.map_map]
              exact List.map_congr_left (fun c _ => md_sm_sm c)
          simp only [sw_ite, sw_bv]
          rw [if_pos (hS9.W hW9).2.2.2]
          refine r178 hW9 hS9 o6 (fun p7 h7 E9 hE9 => ?_) (fun f h7 E9 hE9 => ?_)
          · obtain ⟨o7, l7⟩ := md_space_ok o6 h7
            have o7e := o7.1
            simp only [sb_v, sw_some]
            rw [List.append_assoc] at hE9
            refine hok6 p7 h7 D9 E9 _ _ _ _ hE9 hP9 hR9 (fun c j hc => by rw [d9 c j (by omega) (by omega), dno c j (by omega)]) (by rw [List.length_append, List.length_append, hxl]; omega) (q5.le o7 (by omega))
          · simp only [sb_v, sw_some]
            exact her6 f h7 E9 (rX_of_P hP9 hE9)
        by_cases h34 : p5 < e ∧ T p5 = ni 34
        · rw [if_pos h34]
          rw [if_pos h34] at hok her
          have hlt5 := md_nx_lt (T := T) h34.1
          refine r190 hW0 (by omega) hE7 q5 h34.1 (by rw [List.length_append, hxl]; omega) (fun v p6 h6 E8 hE8 => ?_) (fun f h6 E8 hE8 => ?_)
          · obtain ⟨o6, l6⟩ := md_quo_ok q5.nx.1 h6
            simp only [h6] at hok her
            simp only [sb_v]
            exact n183 o6 (by omega) hE8 (fun p7 h7 => hok _ p6 p7 rfl h7) (fun f h7 => her f (Or.inr ⟨_, _, rfl, h7⟩))
          · simp only [sb_v]
            exact x183 (by omega) (rX_of_P hP4 hE8) (her f (Or.inl (by rw [h6])))
        · rw [if_neg h34]
          rw [if_neg h34] at hok her
          refine r182 hW0 true false hE7 o5 (by rw [List.length_append, hxl]; omega) (fun v p6 h6 E8 hE8 => ?_) (fun f h6 E8 hE8 => ?_)
          · obtain ⟨o6, l6⟩ := md_word_ok o5 h6
            rw [show md_sx false v = v from rfl] at hE8
            have h6' : md_word T e md_tok 0 p5 = .ok (v, p6) := h6
            simp only [h6'] at hok her
            simp only [sb_v]
            exact n183 o6 (by omega) hE8 (fun p7 h7 => hok _ p6 p7 rfl h7) (fun f h7 => her f (Or.inr ⟨_, _, rfl, h7⟩))
          · simp only [sb_v]
            have h6' : md_word T e md_tok 0 p5 = .error f := h6
            exact x183 (by omega) (rX_of_P hP4 hE8) (her f (Or.inl (by rw [h6'])))
    | succ m ih =>
      intro n hn
      have hn2 : n < ps.length := by omega
      have hw : ps[n]? = some ps[n] := List.getElem?_eq_getElem hn2
      obtain ⟨s1, -, -⟩ := hP0.2.2 n _ hw
      have hih := ih (n + 1) (by omega)
      rw [show 6 * i + (n + 1) = 6 * i + n + 1 from rfl, List.take_succ_eq_append_getElem hn2, List.any_append, List.any_cons, List.any_nil, Bool.or_false] at hih
      have hEm : ∀ c j, c ≠ X + 49 → (if (ps.take n).any (fun w => w.1 == xs.map md_sm) = true then sm_dI E0 (X + 49) 8 (ni p1) else E0).1 c j = E0.1 c j := by
        intro c j hc
        split
        · rw [dI_ne (fun z => hc z.1)]
        · rfl
      have hE9 : ∀ j, j ≠ 8 → (if (ps.take n).any (fun w => w.1 == xs.map md_sm) = true then sm_dI E0 (X + 49) 8 (ni p1) else E0).1 (X + 49) j = E0.1 (X + 49) j := by
        intro j hj
        split
        · rw [dI_ne (fun z => hj z.2)]
        · rfl
      obtain ⟨c, v1, v2, v3, v4⟩ := s1.at hS4.2.2.2.1
      have w1 : E0.1 (X + 66) (6 * i + n) = ni c := by rw [hS4.o (by unfold rsc; omega), v1]
      have w2 : E0.1 (X + 67) (6 * i + n) = ni ps[n].1.length := by rw [hS4.o (by unfold rsc; omega), v2]
      rw [List.length_append, hxl] at v3
      refine sw_ge (n188_68 hX) ?_
      simp (disch := omega) only [sw_ite, ni_le, sw_gu, ni_in, ni_nat, hEm _ _ (show X + 66 ≠ X + 49 by omega), hEm _ _ (show X + 67 ≠ X + 49 by omega), hE9 49 (by omega), hE9 48 (by omega), w1, w2, hS4.2.2.2.2.1.2.1, hS4.2.2.2.2.1.2.2, ni_inj]
      rw [if_neg (by omega)]
      refine ⟨decide_eq_true (by omega), ?_⟩
      by_cases hlen : ps[n].1.length = xs.length
      · rw [if_pos hlen]
        refine ⟨decide_eq_true (by omega), ?_⟩
        rw [sw_bi, r189 hX (c := c) (d := l.length) (n := xs.length) (xs := ps[n].1) (ys := xs.map md_sm) hlen hxl (by omega) (by omega) (fun j hj => by rw [hEm _ _ (by omega)]; exact v4 j (by omega)) (fun j hj => by rw [hEm _ _ (by omega), hS4.2.2.2.1 _ (by rw [List.length_append, hxl]; omega), md_nth_app2]), sw_some]
        simp only [sb_i, sw_ite, md_b_0, sw_bv]
        by_cases hsame : ps[n].1 = xs.map md_sm
        · rw [if_neg (by rw [decide_eq_true hsame]; exact fun z => nomatch z)]
          rw [beq_iff_eq.mpr hsame, Bool.or_true, if_pos rfl] at hih
          rw [hE9 50 (by omega), hS4.2.2.2.2.1.1]
          by_cases hd : (ps.take n).any (fun w => w.1 == xs.map md_sm) = true
          · rw [if_pos hd]
            rw [r162y hX (rS.ne (hS4.bad hW0 (q := p2) o2e (f := p1) (by omega))), sw_some]
            simp only [sb_v, ni_add]
            exact hih
          · rw [if_neg hd]
            rw [r162 hX (hS4.W hW0).2.2.2, sw_some]
            simp only [sb_v, ni_add]
            exact hih
        · rw [if_pos (by rw [decide_eq_false hsame])]
          rw [beq_false_of_ne hsame, Bool.or_false] at hih
          rw [ni_add]
          exact hih
      · rw [if_neg hlen]
        have hsame : ps[n].1 ≠ xs.map md_sm := fun z => hlen (by rw [z, hxl])
        rw [beq_false_of_ne hsame, Bool.or_false] at hih
        rw [ni_add]
        exact hih
  have := n68 ps.length 0 (by omega)
  rw [List.take_zero, List.any_nil, if_neg (fun z => nomatch z), Nat.add_zero] at this
  exact this
end RGF
