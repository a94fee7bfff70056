section CPU
variable {C : sm_K} {X t N e : Nat} {T : Nat → Int32} {D : sm_D}
theorem c39_9 (h : cW C X t T N e D) : ∀ (n k p : Nat) (pl : List Int32), e - p ≤ n → k + (e - p) ≤ 8000 → pl.length + (e - p) ≤ 16400 → md_ok T e p → ∀ {Q : (Option Value ⊕ Nat) → sm_D → Prop},
    (∀ ys r, md_dots T e n p = .ok (ys, r) → Q (.inl (some (.int (md_b (decide (0 < k) || !ys.isEmpty))))) (cs X t T e D r (pl ++ ys))) → (∀ g z D', md_dots T e n p = .error g → cT X t D g z D' → Q (.inr z) D') →
    sw (sm_fx C 39 9 [.ref (X + 1), .ref (t + 1), .int (ni k)] [] (cs X t T e D p pl)) Q := by
  have hX := h.1.1
  have hr := (sm_tree_of hX h.1.2.1).2
  have h50 : ∀ (k p : Nat) (pl : List Int32) {Q : (Option Value ⊕ Nat) → sm_D → Prop}, k ≤ 8000 → Q (.inl (some (.int (md_b (decide (0 < k)))))) (cs X t T e D p pl) → sw (sm_fx C 39 50 [sm_junk, sm_junk, .int (ni k)] [] (cs X t T e D p pl)) Q := by
    intro k p pl Q hk hq
    refine sw_ge (n39_50 hX hr) ?_
    simp (disch := omega) only [sw_ite, sw_some, ni_le, nar_b0, nar_b1]
    by_cases hk0 : k ≤ 0
    · rw [if_pos hk0]
      rw [decide_eq_false (by omega)] at hq
      exact hq
    · rw [if_neg hk0]
      rw [decide_eq_true (by omega)] at hq
      exact hq
  intro n
  induction n with
  | zero =>
    intro k p pl hn hk hpl hp Q hok her
    have hpe : ¬ p < e := by omega
    have h46 : (md_cu T e p = ni 46) = False := by rw [md_cu_is (by omega)]; simp [hpe]
    refine sw_ge (n39_9 hX hr) ?_
    simp (disch := omega) only [sw_ite, ni_le, cs_4, h46, if_false]
    have := hok [] p rfl
    rw [List.append_nil, List.isEmpty_nil, Bool.not_true, Bool.or_false] at this
    split <;> exact h50 k p pl (by omega) this
  | succ n ih =>
    intro k p pl hn hk hpl hp Q hok her
    refine sw_ge (n39_9 hX hr) ?_
    simp (disch := omega) only [sw_ite, ni_le, cs_4, md_cu_is]
    unfold md_dots at hok her
    by_cases hd : p < e ∧ T p = ni 46
    · rw [if_pos hd] at hok her
      rw [if_neg (by omega), if_pos hd]
      have hlt := md_nx_lt (T := T) hd.1
      simp only [sw_bv, md_cu_lt hd.1, hd.2, c44 h.1 (show pl.length < 16400 by omega), c31 h hp, sw_some, sb_v]
      refine c34 h (st_atm h.1.2.2.1) md_atm_set (by rw [List.length_append, List.length_singleton]; omega) hp.nx (fun xs p1 h1 => ?_) (fun g z D' h1 ht => ?_)
      · rw [h1] at hok her
        obtain ⟨o1, l1⟩ := md_word_ok hp.nx h1
        have := o1.1
        simp only [sb_v, ni_add]
        refine ih (k + 1) p1 _ (by omega) (by omega) (by simp only [List.length_append, List.length_singleton]; omega) o1 (fun ys r h2 => ?_) (fun g z D' h2 ht => ?_)
        · simp only [bind, Except.bind, h2] at hok
          have := hok _ r rfl
          rw [decide_eq_true (show 0 < k + 1 by omega), Bool.true_or]
          simp only [List.isEmpty_cons, Bool.not_false, Bool.or_true] at this
          rw [List.append_assoc, List.append_assoc]
          exact this
        · simp only [bind, Except.bind, h2] at her
          exact her g z D' rfl ht
      · rw [h1] at her
        exact ⟨ht.tw, her g z D' rfl ht⟩
    · rw [if_neg hd] at hok
      have := hok [] p rfl
      rw [List.append_nil, List.isEmpty_nil, Bool.not_true, Bool.or_false] at this
      rw [if_neg hd]
      split <;> exact h50 k p pl (by omega) this
theorem c39 (h : cW C X t T N e D) {p : Nat} {pl : List Int32} (hpl : pl.length + (e - p) ≤ 16400) (hp : md_ok T e p) {Q : (Option Value ⊕ Nat) → sm_D → Prop}
    (hok : ∀ xs b r, md_dotted T e p = .ok (xs, b, r) → Q (.inl (some (.int (md_b b)))) (cs X t T e D r (pl ++ xs))) (her : ∀ g z D', md_dotted T e p = .error g → cT X t D g z D' → Q (.inr z) D') :
    sw (sm_fe C 39 [.ref (X + 1), .ref (t + 1)] (cs X t T e D p pl)) Q := by
  have hX := h.1.1
  have hr := (sm_tree_of hX h.1.2.1).2
  have he := h.2.1
  have hN := h.1.2.2.2.1
  refine sw_ge (f39 hX hr) ?_
  simp only [sw_bv]
  unfold md_dotted at hok her
  refine c34 h (st_atm h.1.2.2.1) md_atm_set hpl hp (fun xs p1 h1 => ?_) (fun g z D' h1 ht => ?_)
  · rw [h1] at hok her
    obtain ⟨o1, l1⟩ := md_word_ok hp h1
    have := o1.1
    simp only [sb_v]
    refine c39_9 h e 0 p1 _ (by omega) (by omega) (by simp only [List.length_append]; omega) o1 (fun ys r h2 => ?_) (fun g z D' h2 ht => ?_)
    · simp only [bind, Except.bind, h2] at hok
      rw [decide_eq_false (by omega), Bool.false_or, List.append_assoc]
      exact hok _ _ r rfl
    · simp only [bind, Except.bind, h2] at her
      exact her g z D' rfl ht
  · rw [h1] at her
    exact ⟨ht.tw, her g z D' rfl ht⟩
theorem c283 {a b : Nat} (ha : a < 2147483648) (hb : b < 2147483648) : sm_fe C 283 [.int (ni a), .int (ni b)] D = some (.inl (some (.int (ni (max a b)))), D) := by
  apply sw_eq
  refine sw_ge f283 ?_
  simp (disch := omega) only [sw_ite, sw_some, ni_lt]
  split
  · next g => rw [Nat.max_eq_right (by omega)]
  · next g => rw [Nat.max_eq_left (by omega)]
theorem c284 {a b : Nat} (ha : a < 2147483648) (hb : b < 2147483648) : sm_fe C 284 [.int (ni a), .int (ni b)] D = some (.inl (some (.int (ni (min a b)))), D) := by
  apply sw_eq
  refine sw_ge f284 ?_
  simp (disch := omega) only [sw_ite, sw_some, ni_lt]
  split
  · next g => rw [Nat.min_eq_right (by omega)]
  · next g => rw [Nat.min_eq_left (by omega)]
/-- a text is opened behind its colon: the base has its end; before it the walk may stand anywhere -/
theorem c30 (h : cH C X t T N D) {c z : Nat} (hc : c < z) (hz : z ≤ N) (hk : ∀ q, c + 1 ≤ q → q < z → T q = ni 13 → q + 2 < z ∧ md_bl (T (q + 2)) = true) {T0 : Nat → Int32} {e0 p0 : Nat} {pl : List Int32} :
    sm_fe C 30 [.ref (X + 1), .int (ni c), .int (ni z)] (cs X t T0 e0 D p0 pl) = some (.inl none, cs X t T z (sm_dI D (X + 1) 3 (ni z)) (md_go T z (c + 1)) pl) := by
  have hX := h.1
  have ht := h.2.1
  have hN := h.2.2.2.1
  apply sw_eq
  refine sw_ge (f30 hX) ?_
  simp (disch := omega) only [sw_bi, c283, c284, sw_some, sb_i, Nat.max_eq_left (Nat.zero_le c), sw_bv]
  have r : sm_up (cs X t T0 e0 D p0 pl).1 (X + 1) 2 (ni c) (X + 2) 1 = ni N := by
    unfold sm_up
    rw [if_neg (by omega), cs_o (by omega) (by omega) (by omega)]
    exact h.2.2.2.2.1
  rw [r, c284 (by omega) (by omega)]
  simp only [sw_some, sb_i]
  rw [Nat.min_eq_left hz]
  have e1 : cZ X t T z (sm_dI D (X + 1) 3 (ni z)) pl c (sm_dI (sm_dI (cs X t T0 e0 D p0 pl) (X + 1) 2 (ni c)) (X + 1) 3 (ni z)) := by
    refine ⟨rfl, by simp [sm_up], fun a i hai => ?_⟩
    simp only [sm_up, cs]
    by_cases ha : a = X + 1
    · subst ha
      by_cases h3 : i = 3
      · subst h3; simp
      · have h2 : ¬ i = 2 := fun y => hai ⟨rfl, Or.inl y⟩
        have h4 : ¬ i = 4 := fun y => hai ⟨rfl, Or.inr y⟩
        simp [h2, h3, h4]
    · simp [ha]
  have hW : cW C X t T N z (sm_dI D (X + 1) 3 (ni z)) := by
    refine ⟨⟨hX, ht, h.2.2.1, hN, ?_, fun i hi => ?_, h.2.2.2.2.2.2⟩, hz, by simp [sm_up]⟩
    · rw [← h.2.2.2.2.1]; exact if_neg (by omega)
    · rw [← h.2.2.2.2.2.1 i hi]; exact if_neg (by omega)
  have := c31g hW (by omega) (fun h1 h2 => by have := hk (c + 1) (by omega) h1 h2; omega) e1
  rw [sw_bv, this]
  simp only [sw_some, sb_v, md_nx, if_pos hc]
end CPU
