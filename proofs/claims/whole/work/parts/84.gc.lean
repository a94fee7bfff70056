section RGC
variable {C : sm_K} {X N e q : Nat} {T : Nat → Int32} {D E F : sm_D} {Q : (Option Value ⊕ Nat) → sm_D → Prop} {l : List Int32} {b a z : Int32}
/-! with a fault nothing more is done -/
theorem r178_4x (hX : sm_Lay C X) {v1 v2 : Int32} (h8 : (E.1 (X + 49) 8 = sm_k (-1)) = False) : sm_fx C 178 4 [.ref (X + 49), .int v1, .int v2, sm_junk] [] E = some (.inl none, E) := by
  apply sw_eq
  refine sw_ge (n178_4 hX) ?_
  simp only [sw_ite, sw_some, h8, if_false]
  split <;> trivial
theorem r178_40 (hX : sm_Lay C X) {v1 : Int32} : sm_fx C 178 4 [.ref (X + 49), .int v1, .int (ni 0), sm_junk] [] E = some (.inl none, E) := by
  apply sw_eq
  refine sw_ge (n178_4 hX) ?_
  simp only [sw_ite, sw_some, if_true]
theorem r178x (hX : sm_Lay C X) (h8 : (E.1 (X + 49) 8 = sm_k (-1)) = False) : sm_fe C 178 [.ref (X + 49)] E = some (.inl none, E) := by
  apply sw_eq
  refine sw_ge (f178 hX) ?_
  rw [r178_4x hX h8, sw_some]
theorem r187x (hX : sm_Lay C X) {v : Int32} (h8 : (E.1 (X + 49) 8 = sm_k (-1)) = False) : sm_fe C 187 [.ref (X + 49), .int v] E = some (.inl none, E) := by
  apply sw_eq
  refine sw_ge (f187 hX) ?_
  simp only [sw_ite, h8, if_false]
  refine sw_ge (n187_20 hX) ?_
  simp only [sw_ite, sw_some, h8, if_false]
theorem r191x (hX : sm_Lay C X) (h8 : (E.1 (X + 49) 8 = sm_k (-1)) = False) : sm_fe C 191 [.ref (X + 49)] E = some (.inl none, E) := by
  apply sw_eq
  refine sw_ge (f191 hX) ?_
  simp only [sw_ite, sw_some, h8, if_false]
/-! space -/
theorem md_bl_k : md_bl (sm_k (-1)) = false := by decide
theorem k_ne_40 : (sm_k (-1) = ni 40) = False := k_ne_ni (by omega)
theorem r178_4 (h : rW C X T N e D) : ∀ (m q d : Nat) (E : sm_D), e - q ≤ m → md_ok T e q → d ≤ 10 → RS X D q l b a z E →
    (∀ p, md_space T e d q = .ok p → ∀ E', RS X D p l b a z E' → Q (.inl none) E') → (∀ f, md_space T e d q = .error f → ∀ E', rS X D f E' → Q (.inl none) E') →
    sw (sm_fx C 178 4 [.ref (X + 49), .int (ni d), .int (ni 1), sm_junk] [] E) Q := by
  have hX := h.1.1
  have hN := h.1.2.2.1
  have he := h.2.1
  have fin : ∀ {q d : Nat} {E : sm_D}, md_ok T e q → ¬ q < e → RS X D q l b a z E → (∀ p, md_space T e d q = .ok p → ∀ E', RS X D p l b a z E' → Q (.inl none) E') → (∀ f, md_space T e d q = .error f → ∀ E', rS X D f E' → Q (.inl none) E') → d ≤ 10 →
      sw (sm_fx C 178 4 [.ref (X + 49), .int (ni d), .int (ni 1), sm_junk] [] E) Q := by
    intro q d E hq hqe hs hok her hd
    rw [md_space, dif_neg hqe] at hok her
    refine sw_ge (n178_4 hX) ?_
    simp (disch := omega) only [sw_ite, ni_10, if_false, (hs.W h).2.2.2, if_true, sw_bi, hs.cur h hq.1, sw_some, sb_i, md_cu_ge hqe, k_ne_40, ni_le, r170, md_bl_k, md_b_0, r178_40 hX, sw_bv]
    by_cases hd0 : d ≤ 0
    · rw [if_pos hd0]
      rw [if_pos (by omega)] at hok
      exact hok q rfl E hs
    · rw [if_neg hd0]
      rw [if_neg (by omega)] at her
      refine r180b h hs hq.1 (fun E' hE => ?_)
      simp only [sb_v, r178_4x hX hE.ne, sw_some]
      exact her q rfl E' hE
  intro m
  induction m with
  | zero =>
    intro q d E hm hq hd hs hok her
    exact fin hq (by omega) hs hok her hd
  | succ m ih =>
    intro q d E hm hq hd hs hok her
    by_cases hqe : q < e
    · have hlt := md_nx_lt (T := T) hqe
      rw [md_space, dif_pos hqe] at hok her
      refine sw_ge (n178_4 hX) ?_
      simp (disch := omega) only [sw_ite, ni_10, if_false, (hs.W h).2.2.2, if_true, sw_bi, hs.cur h hq.1, sw_some, sb_i, md_cu_lt hqe, ni_le, r170, md_b_0, r178_40 hX, sw_bv, ni_inj, Nat.one_ne_zero]
      by_cases h40 : T q = ni 40
      · rw [if_pos h40]
        rw [if_pos h40] at hok her
        by_cases hd10 : d = 10
        · rw [if_pos hd10]
          rw [if_pos hd10] at her
          refine r180b h hs hq.1 (fun E' hE => ?_)
          simp only [sb_v, r178_4x hX hE.ne, sw_some]
          exact her q rfl E' hE
        · rw [if_neg hd10]
          rw [if_neg hd10] at hok her
          refine r181 h hs hq hqe (fun E' hE => ?_)
          simp only [sb_v, ni_add]
          exact ih _ _ E' (by omega) hq.nx (by omega) hE hok her
      · rw [if_neg h40]
        rw [if_neg h40] at hok her
        by_cases hd0 : d ≤ 0
        · have hd0' : d = 0 := by omega
          subst hd0'
          rw [if_pos hd0]
          rw [if_pos rfl] at hok her
          cases hb : md_bl (T q)
          · rw [if_pos rfl]
            rw [hb, if_neg (fun z => nomatch z)] at hok
            exact hok q rfl E hs
          · rw [if_neg (fun z => nomatch z)]
            rw [hb, if_pos rfl] at hok her
            refine r181 h hs hq hqe (fun E' hE => ?_)
            simp only [sb_v]
            exact ih _ _ E' (by omega) hq.nx (by omega) hE hok her
        · rw [if_neg hd0]
          rw [if_neg (by omega)] at hok her
          obtain ⟨n, hn, hT⟩ := h.1.2.2.2.2 q (by omega)
          rw [if_neg (by rw [hT, ni_ne_k (by omega)]; exact id)]
          by_cases h41 : T q = ni 41
          · rw [if_pos h41, ni_sub (by omega)]
            rw [if_pos h41] at hok her
            refine sw_ge (n178_79 hX) ?_
            simp only [sw_bv]
            refine r181 h hs hq hqe (fun E' hE => ?_)
            simp only [sb_v, sw_ite]
            rw [if_neg (by rw [h41]; decide)]
            exact ih _ _ E' (by omega) hq.nx (by omega) hE hok her
          · rw [if_neg h41]
            rw [if_neg h41] at hok her
            refine sw_ge (n178_79 hX) ?_
            simp only [sw_bv]
            refine r181 h hs hq hqe (fun E' hE => ?_)
            simp only [sb_v, sw_ite]
            by_cases h92 : T q = ni 92
            · rw [if_pos h92]
              rw [if_pos h92] at hok her
              simp only [sw_bi, hE.cur h hq.nx.1, sw_some, sb_i, sw_ite, sw_bv]
              by_cases hn : md_nx T e q < e
              · rw [dif_pos hn] at hok her
                have hlt2 := md_nx_lt (T := T) hn
                obtain ⟨n2, hn2, hT2⟩ := h.1.2.2.2.2 (md_nx T e q) (by omega)
                rw [md_cu_lt hn, if_neg (by rw [hT2, ni_ne_k (by omega)]; exact id)]
                refine r181 h hE hq.nx hn (fun E2 hE2 => ?_)
                simp only [sb_v]
                exact ih _ _ E2 (by omega) hq.nx.nx (by omega) hE2 hok her
              · rw [dif_neg hn] at her
                rw [md_cu_ge hn, if_pos rfl]
                refine r180b h hE hq.nx.1 (fun E2 hE2 => ?_)
                simp only [sb_v, r178_4x hX hE2.ne, sw_some]
                exact her _ rfl E2 hE2
            · rw [if_neg h92]
              rw [if_neg h92] at hok her
              exact ih _ _ E' (by omega) hq.nx (by omega) hE hok her
    · exact fin hq hqe hs hok her hd
theorem r178 (h : rW C X T N e D) (hs : RS X D q l b a z E) (hq : md_ok T e q)
    (hok : ∀ p, md_space T e 0 q = .ok p → ∀ E', RS X D p l b a z E' → Q (.inl none) E') (her : ∀ f, md_space T e 0 q = .error f → ∀ E', rS X D f E' → Q (.inl none) E') : sw (sm_fe C 178 [.ref (X + 49)] E) Q := by
  refine sw_ge (f178 h.1.1) ?_
  exact r178_4 h e q 0 E (by omega) hq (by omega) hs hok her
theorem r199 (h : rW C X T N e D) (hs : RS X D q l b a z E) (hq : md_ok T e q)
    (hok : ∀ p, md_space T e 0 q = .ok p → ∀ E', RS X D p l b a z E' → Q (.inl none) E') (her : ∀ f, md_space T e 0 q = .error f → ∀ E', rS X D f E' → Q (.inl none) E') : sw (sm_fe C 199 [.ref (X + 49)] E) Q := by
  refine sw_ge (f199 h.1.1) ?_
  simp only [sw_ite, (hs.W h).2.2.2, if_true, sw_bv]
  refine r178 h hs hq (fun p hp E' hE => ?_) (fun f hf E' hE => ?_)
  · simp only [sb_v, sw_some]; exact hok p hp E' hE
  · simp only [sb_v, sw_some]; exact her f hf E' hE
theorem r199x (hX : sm_Lay C X) (h8 : (E.1 (X + 49) 8 = sm_k (-1)) = False) : sm_fe C 199 [.ref (X + 49)] E = some (.inl none, E) := by
  apply sw_eq
  refine sw_ge (f199 hX) ?_
  simp only [sw_ite, sw_some, h8, if_false]
theorem r187 (h : rW C X T N e D) (hs : RS X D q l b a z E) (hq : md_ok T e q) {c : Nat} (hc : c < 2147483648)
    (hok : ∀ p, md_eat T e (ni c) q = .ok p → ∀ E', RS X D p l b a z E' → Q (.inl none) E') (her : ∀ f, md_eat T e (ni c) q = .error f → ∀ E', rS X D f E' → Q (.inl none) E') : sw (sm_fe C 187 [.ref (X + 49), .int (ni c)] E) Q := by
  have hX := h.1.1
  refine sw_ge (f187 hX) ?_
  simp only [sw_ite, (hs.W h).2.2.2, if_true, sw_bi, hs.cur h hq.1, sw_some, sb_i, md_cu_is hc, sw_bv]
  unfold md_eat at hok her
  by_cases h1 : q < e ∧ T q = ni c
  · rw [if_pos h1]
    rw [if_pos h1] at hok
    refine sw_ge (n187_20 hX) ?_
    simp only [sw_ite, (hs.W h).2.2.2, if_true, sw_bv]
    refine r181 h hs hq h1.1 (fun E' hE => ?_)
    simp only [sb_v, sw_some]
    exact hok _ rfl E' hE
  · rw [if_neg h1]
    rw [if_neg h1] at her
    refine r180b h hs hq.1 (fun E' hE => ?_)
    simp only [sb_v]
    refine sw_ge (n187_20 hX) ?_
    simp only [sw_ite, hE.ne, if_false, sw_some]
    exact her q rfl E' hE
theorem r191 (h : rW C X T N e D) (hs : RS X D q l b a z E) (hq : md_ok T e q)
    (hok : md_end e q = .ok () → Q (.inl none) E) (her : ∀ f, md_end e q = .error f → ∀ E', rS X D f E' → Q (.inl none) E') : sw (sm_fe C 191 [.ref (X + 49)] E) Q := by
  have hN := h.1.2.2.1
  have he := h.2.1
  refine sw_ge (f191 h.1.1) ?_
  simp only [sw_ite, (hs.W h).2.2.2, if_true, sw_bi, hs.cur h hq.1, sw_some, sb_i, sw_bv]
  unfold md_end at hok her
  by_cases h1 : q < e
  · obtain ⟨n, hn, hT⟩ := h.1.2.2.2.2 q (by omega)
    rw [md_cu_lt h1, if_neg (by rw [hT, ni_ne_k (by omega)]; exact id)]
    rw [if_pos h1] at her
    refine r180b h hs hq.1 (fun E' hE => ?_)
    simp only [sb_v, sw_some]
    exact her q rfl E' hE
  · rw [md_cu_ge h1, if_pos rfl]
    rw [if_neg h1] at hok
    exact hok rfl
/-! words -/
def md_kf (tk : Bool) : Int32 → Bool := if tk then md_tok else md_atm
def md_sx (sm : Bool) (xs : List Int32) : List Int32 := if sm then xs.map md_sm else xs
theorem md_sx_len {sm : Bool} {xs : List Int32} : (md_sx sm xs).length = xs.length := by cases sm <;> simp [md_sx]
theorem md_sx_cons {sm : Bool} {c : Int32} {xs : List Int32} : md_sx sm (c :: xs) = (if sm then md_sm c else c) :: md_sx sm xs := by cases sm <;> rfl
theorem md_kf_128 {tk : Bool} {c : Int32} (h : md_kf tk c = true) : ∃ n, n < 128 ∧ c = ni n := by
  cases tk
  · exact md_atm_128 h
  · exact md_tok_128 h
theorem md_sm_128' : ∀ n, n < 128 → ∃ m, m < 128 ∧ md_sm (ni n) = ni m := by decide +kernel
theorem md_sm_128 {c : Int32} (h : ∃ n, n < 128 ∧ c = ni n) : ∃ n, n < 128 ∧ md_sm c = ni n := by
  obtain ⟨n, hn, rfl⟩ := h
  exact md_sm_128' n hn
theorem md_kf_k {tk : Bool} : md_kf tk (sm_k (-1)) = false := by cases tk <;> decide
theorem r182_18 (h : rW C X T N e D) (tk sm : Bool) : ∀ (m n q : Nat) (l : List Int32) (E : sm_D), e - q ≤ m → n ≤ 60 → l.length + (e - q) ≤ 24000 → md_ok T e q → RS X D q l b a z E →
    (∀ xs p, md_word T e (md_kf tk) n q = .ok (xs, p) → ∀ E', RS X D p (l ++ md_sx sm xs) b a (ni (n + xs.length)) E' → Q (.inl none) E') → (∀ f, md_word T e (md_kf tk) n q = .error f → ∀ E', rS X D f E' → Q (.inl none) E') →
    sw (sm_fx C 182 18 [.ref (X + 49), .int (md_b tk), .int (md_b sm), .int (ni n)] [] E) Q := by
  have hX := h.1.1
  have hN := h.1.2.2.1
  have he := h.2.1
  have n98 : ∀ {n q : Nat} {l : List Int32} {E : sm_D}, n ≤ 60 → md_ok T e q → RS X D q l b a z E → ¬ (q < e ∧ md_kf tk (T q) = true) →
      (∀ xs p, md_word T e (md_kf tk) n q = .ok (xs, p) → ∀ E', RS X D p (l ++ md_sx sm xs) b a (ni (n + xs.length)) E' → Q (.inl none) E') → (∀ f, md_word T e (md_kf tk) n q = .error f → ∀ E', rS X D f E' → Q (.inl none) E') →
      sw (sm_fx C 182 98 [.ref (X + 49), sm_junk, sm_junk, .int (ni n)] [] E) Q := by
    intro n q l E hn hq hs hk hok her
    rw [md_word, dif_neg hk] at hok her
    refine sw_ge (n182_98 hX) ?_
    simp (disch := omega) only [sw_ite, ni_inj, sw_bv, sw_some]
    by_cases hn0 : n = 0
    · rw [if_pos hn0]
      rw [if_pos hn0] at her
      refine r180b h hs hq.1 (fun E' hE => ?_)
      simp only [sb_v, sw_some]
      exact her q rfl _ (hE.dI (Or.inl (by omega)) (by omega))
    · rw [if_neg hn0]
      rw [if_neg hn0] at hok
      have := hok [] q rfl _ (by
        have e1 : md_sx sm [] = [] := by cases sm <;> rfl
        rw [e1, List.append_nil]
        exact hs.wz (ni n))
      exact this
  have n18 : ∀ {n q : Nat} {l : List Int32} {E : sm_D}, md_ok T e q → RS X D q l b a z E → (q < e ∧ md_kf tk (T q) = true → sw (sm_fx C 182 53 [.ref (X + 49), .int (md_b tk), .int (md_b sm), .int (ni n)] [] E) Q) → (¬ (q < e ∧ md_kf tk (T q) = true) → sw (sm_fx C 182 98 [.ref (X + 49), sm_junk, sm_junk, .int (ni n)] [] E) Q) →
      sw (sm_fx C 182 18 [.ref (X + 49), .int (md_b tk), .int (md_b sm), .int (ni n)] [] E) Q := by
    intro n q l E hq hs h1 h2
    have key : md_kf tk (md_cu T e q) = true ↔ (q < e ∧ md_kf tk (T q) = true) := by
      by_cases hqe : q < e
      · rw [md_cu_lt hqe]; exact ⟨fun g => ⟨hqe, g⟩, fun g => g.2⟩
      · rw [md_cu_ge hqe, md_kf_k]; exact ⟨fun g => (nomatch g), fun g => absurd g.1 hqe⟩
    refine sw_ge (n182_18 hX) ?_
    simp only [sw_ite, (hs.W h).2.2.2, if_true, sw_bi, hs.cur h hq.1, sw_some, sb_i, r184, r183, md_b_0]
    cases tk
    · rw [if_pos rfl]
      split
      · next g => exact h2 (fun z => by rw [← key] at z; rw [show md_kf false (md_cu T e q) = md_atm (md_cu T e q) from rfl, g] at z; cases z)
      · next g => exact h1 (key.mp (by rw [Bool.not_eq_false] at g; exact g))
    · rw [if_neg (fun z => nomatch z)]
      split
      · next g => exact h2 (fun z => by rw [← key] at z; rw [show md_kf true (md_cu T e q) = md_tok (md_cu T e q) from rfl, g] at z; cases z)
      · next g => exact h1 (key.mp (by rw [Bool.not_eq_false] at g; exact g))
  have n18x : ∀ {n : Nat} {E : sm_D} {f : Nat}, n = 60 → rS X D f E → (∀ E', rS X D f E' → Q (.inl none) E') → sw (sm_fx C 182 18 [.ref (X + 49), .int (md_b tk), .int (md_b sm), .int (ni n)] [] E) Q := by
    intro n E f hn hE hQ
    refine sw_ge (n182_18 hX) ?_
    simp only [sw_ite, hE.ne, if_false]
    refine sw_ge (n182_98 hX) ?_
    simp (disch := omega) only [sw_ite, ni_inj, sw_some]
    rw [if_neg (by omega)]
    exact hQ _ (hE.dI (Or.inl (by omega)) (by omega))
  intro m
  induction m with
  | zero =>
    intro n q l E hm hn hl hq hs hok her
    have hk : ¬ (q < e ∧ md_kf tk (T q) = true) := fun z => by omega
    exact n18 hq hs (fun z => absurd z hk) (fun _ => n98 hn hq hs hk hok her)
  | succ m ih =>
    intro n q l E hm hn hl hq hs hok her
    refine n18 hq hs (fun hk => ?_) (fun hk => n98 hn hq hs hk hok her)
    have hlt := md_nx_lt (T := T) hk.1
    rw [md_word, dif_pos hk] at hok her
    refine sw_ge (n182_53 hX) ?_
    simp (disch := omega) only [sw_ite, ni_inj, sw_bv, sw_bi, hs.cur h hq.1, sw_some, sb_i, r168, md_b_0, md_cu_lt hk.1]
    by_cases hn60 : n = 60
    · rw [if_pos hn60]
      rw [if_pos hn60] at her
      refine r180b h hs hq.1 (fun E' hE => ?_)
      simp only [sb_v]
      exact n18x hn60 hE (her q rfl)
    · rw [if_neg hn60]
      rw [if_neg hn60] at hok her
      have n85 : sw (sm_fx C 182 85 [.ref (X + 49), .int (md_b tk), .int (md_b sm), .int (ni n)] [.int (if sm then md_sm (T q) else T q), .ref (X + 49)] E) Q := by
        refine sw_ge (n182_85 hX) ?_
        simp only [sw_bv]
        refine r173 hX hs (by cases sm; exact md_kf_128 hk.2; exact md_sm_128 (md_kf_128 hk.2)) (by omega) (fun E1 hE1 => ?_)
        simp only [sb_v, sw_bv]
        refine r181 h hE1 hq hk.1 (fun E2 hE2 => ?_)
        simp only [sb_v, ni_add]
        refine ih (n + 1) _ _ E2 (by omega) (by omega) (by rw [List.length_append, List.length_singleton]; omega) hq.nx hE2 (fun xs p hw E' hE => ?_) (fun f hf E' hE => her f (by rw [hf]) E' hE)
        refine hok (T q :: xs) p (by rw [hw]) E' ?_
        rw [md_sx_cons, List.length_cons]
        rw [List.append_assoc, List.singleton_append, show n + 1 + xs.length = n + (xs.length + 1) from by omega] at hE
        exact hE
      cases sm
      · rw [if_pos rfl]; exact n85
      · rw [if_neg (fun z => nomatch z)]; exact n85
theorem r182 (h : rW C X T N e D) (tk sm : Bool) (hs : RS X D q l b a z E) (hq : md_ok T e q) (hl : l.length + (e - q) ≤ 24000)
    (hok : ∀ xs p, md_word T e (md_kf tk) 0 q = .ok (xs, p) → ∀ E', RS X D p (l ++ md_sx sm xs) (ni q) (ni l.length) (ni xs.length) E' → Q (.inl none) E') (her : ∀ f, md_word T e (md_kf tk) 0 q = .error f → ∀ E', rS X D f E' → Q (.inl none) E') :
    sw (sm_fe C 182 [.ref (X + 49), .int (md_b tk), .int (md_b sm)] E) Q := by
  refine sw_ge (f182 h.1.1) ?_
  simp only [hs.2.1]
  rw [up_ne (by omega), hs.2.2.1]
  refine r182_18 h tk sm e 0 q l _ (by omega) (by omega) hl hq ((hs.wb (ni q)).wa (ni l.length)) (fun xs p hw E' hE => ?_) her
  rw [Nat.zero_add] at hE
  exact hok xs p hw E' hE
end RGC
