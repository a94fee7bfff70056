section CU9
variable {C : sm_K} {X t N e p : Nat} {T T0 : Nat → Int32} {D : sm_D} {Q : (Option Value ⊕ Nat) → sm_D → Prop}
theorem md_u8_cases {l : List Int32} {i b : Nat} (hb : b < 256) (eb : md_nth l i = ni b) :
    (b < 128 ∧ md_u8 (md_nth l i) (md_nth l (i + 1)) (md_nth l (i + 2)) (md_nth l (i + 3)) = (ni b, 0)) ∨
    (128 ≤ b ∧ md_u8 (md_nth l i) (md_nth l (i + 1)) (md_nth l (i + 2)) (md_nth l (i + 3)) = (ni 65533, 0)) ∨
    (128 ≤ b ∧ ∃ s, (s = 2 ∨ s = 3 ∨ s = 4) ∧ md_u8 (md_nth l i) (md_nth l (i + 1)) (md_nth l (i + 2)) (md_nth l (i + 3)) = (ni (md_ptk l i (b % 2 ^ (7 - s)) (s - 1)), s - 1) ∧ ∀ k, 1 ≤ k → k < s → md_mr (md_nth l (i + k)) = true) := by
  have in1 := md_in_ni (n := b) (a := 194) (b := 223) (by omega) (by omega) (by omega)
  have in2 := md_in_ni (n := b) (a := 224) (b := 239) (by omega) (by omega) (by omega)
  have in3 := md_in_ni (n := b) (a := 240) (b := 244) (by omega) (by omega) (by omega)
  have lt128 : (ni b < ni 128) = (b < 128) := ni_lt (by omega) (by omega)
  have nb : md_nat (ni b) = b := md_nat_ni (by omega)
  by_cases g1 : b < 128
  · exact Or.inl ⟨g1, by unfold md_u8; rw [eb, if_pos (by rw [lt128]; exact g1)]⟩
  · right
    have g1' : 128 ≤ b := by omega
    rw [eb]
    unfold md_u8
    simp only [lt128, in1, in2, in3, nb, g1, if_false]
    by_cases c1 : (decide (194 ≤ b) && decide (b ≤ 223) && md_mr (md_nth l (i + 1))) = true
    · right
      rw [if_pos c1]
      simp only [Bool.and_eq_true, decide_eq_true_eq] at c1
      refine ⟨g1', 2, Or.inl rfl, rfl, fun k h1 h2 => ?_⟩
      rw [show k = 1 from by omega]; exact c1.2
    · rw [if_neg c1]
      by_cases c2 : (decide (224 ≤ b) && decide (b ≤ 239) && md_mr (md_nth l (i + 1)) && md_mr (md_nth l (i + 2))) = true
      · rw [if_pos c2]
        by_cases c3 : 2048 ≤ (b % 16 * 64 + md_nat (md_nth l (i + 1)) % 64) * 64 + md_nat (md_nth l (i + 2)) % 64 ∧ ¬ (55296 ≤ (b % 16 * 64 + md_nat (md_nth l (i + 1)) % 64) * 64 + md_nat (md_nth l (i + 2)) % 64 ∧ (b % 16 * 64 + md_nat (md_nth l (i + 1)) % 64) * 64 + md_nat (md_nth l (i + 2)) % 64 ≤ 57343)
        · right
          rw [if_pos c3]
          simp only [Bool.and_eq_true, decide_eq_true_eq] at c2
          refine ⟨g1', 3, Or.inr (Or.inl rfl), rfl, fun k h1 h2 => ?_⟩
          match k, h1, h2 with
          | 1, _, _ => exact c2.1.2
          | 2, _, _ => exact c2.2
        · left
          rw [if_neg c3]
          exact ⟨g1', rfl⟩
      · rw [if_neg c2]
        by_cases c4 : (decide (240 ≤ b) && decide (b ≤ 244) && md_mr (md_nth l (i + 1)) && md_mr (md_nth l (i + 2)) && md_mr (md_nth l (i + 3))) = true
        · rw [if_pos c4]
          by_cases c5 : 65536 ≤ ((b % 8 * 64 + md_nat (md_nth l (i + 1)) % 64) * 64 + md_nat (md_nth l (i + 2)) % 64) * 64 + md_nat (md_nth l (i + 3)) % 64 ∧ ((b % 8 * 64 + md_nat (md_nth l (i + 1)) % 64) * 64 + md_nat (md_nth l (i + 2)) % 64) * 64 + md_nat (md_nth l (i + 3)) % 64 ≤ 1114111
          · right
            rw [if_pos c5]
            simp only [Bool.and_eq_true, decide_eq_true_eq] at c4
            refine ⟨g1', 4, Or.inr (Or.inr rfl), rfl, fun k h1 h2 => ?_⟩
            match k, h1, h2 with
            | 1, _, _ => exact c4.1.1.2
            | 2, _, _ => exact c4.1.2
            | 3, _, _ => exact c4.2
          · left
            rw [if_neg c5]
            exact ⟨g1', rfl⟩
        · left
          rw [if_neg c4]
          exact ⟨g1', rfl⟩
theorem c98 (h : cH C X t T N D) {l : List Int32} (hM : MT X D l) (hby : md_by l) {ch : Nat} (hch : ch < 3) : ∀ (m i : Nat) (pl : List Int32), l.length - i ≤ m → i ≤ l.length + 3 → pl.length + (l.length - i) ≤ 16400 → sm_fx C 98 2 [.ref (X + 11), .ref (t + 1), .int (ni ch), .int (ni i), sm_junk, sm_junk] [] (cs X t T0 e D p pl) = some (.inl none, cs X t T0 e D p (pl ++ md_pts ch l m i)) := by
  have hX := h.1
  have ht := h.2.1
  have hr := (sm_tree_of hX ht).2
  have hl := hM.2.1
  have e121 : ∀ {pl : List Int32}, (cs X t T0 e D p pl).1 (X + 12) 1 = ni l.length := by
    intro pl; rw [cs_o (by omega) (by omega) (by omega), hM.1]
  intro m
  induction m with
  | zero =>
    intro i pl hm hi hpl
    apply sw_eq
    refine sw_ge (n98_2 hX hr) ?_
    simp (disch := omega) only [sw_ite, e121, ni_le, sw_some]
    rw [if_pos (by omega)]
    unfold md_pts
    rw [List.append_nil]
  | succ m ih =>
    intro i pl hm hi hpl
    by_cases hil : i < l.length
    · obtain ⟨b, hb, eb⟩ : ∃ n, n < 256 ∧ md_nth l i = ni n := by
        rw [md_nth_get hil]; exact hby _ (List.getElem_mem hil)
      -- behind the added point
      have h86 : ∀ (c : Int32) (s : Nat), s ≤ 4 → md_pts ch l (m + 1) i = c :: md_pts ch l m (i + max s 1) → sw (sm_fx C 98 86 [.ref (X + 11), .ref (t + 1), .int (ni ch), .int (ni i), sm_junk, .int (ni s)] [] (cs X t T0 e D p (pl ++ [c]))) (fun w E => (w, E) = (.inl none, cs X t T0 e D p (pl ++ md_pts ch l (m + 1) i))) := by
        intro c s hs heq
        refine sw_ge (n98_86 hX hr) ?_
        simp (disch := omega) only [sw_bi, c283, sw_some, sb_i, ni_add]
        by_cases hlt : i + max s 1 ≤ l.length + 3
        · rw [ih (i + max s 1) (pl ++ [c]) (by omega) hlt (by rw [List.length_append, List.length_singleton]; omega), sw_some, heq, List.append_assoc]
          rfl
        · omega
      have h83 : ∀ (c : Int32) (s : Nat), s ≤ 4 → md_pts ch l (m + 1) i = c :: md_pts ch l m (i + max s 1) → sw (sm_fx C 98 83 [.ref (X + 11), .ref (t + 1), .int (ni ch), .int (ni i), sm_junk, .int (ni s)] [.int c, .ref (t + 1)] (cs X t T0 e D p pl)) (fun w E => (w, E) = (.inl none, cs X t T0 e D p (pl ++ md_pts ch l (m + 1) i))) := by
        intro c s hs heq
        refine sw_ge (n98_83 hX hr) ?_
        simp only [sw_bv, c44 h (show pl.length < 16400 by omega), sw_some, sb_v]
        exact h86 c s hs heq
      have h55 : ∀ (s : Nat), s ≤ 4 → md_pts ch l (m + 1) i = ni 65533 :: md_pts ch l m (i + max s 1) → sw (sm_fx C 98 55 [.ref (X + 11), .ref (t + 1), .int (ni ch), .int (ni i), sm_junk, .int (ni s)] [] (cs X t T0 e D p pl)) (fun w E => (w, E) = (.inl none, cs X t T0 e D p (pl ++ md_pts ch l (m + 1) i))) := by
        intro s hs heq
        refine sw_ge (n98_55 hX hr) ?_
        rw [show (65533 : Int32) = ni 65533 from rfl, sw_bv, c44 h (show pl.length < 16400 by omega), sw_some]
        exact h86 _ s hs heq
      have h64 : ∀ (s : Nat), s ≤ 4 → (s = 1 → md_pts ch l (m + 1) i = ni b :: md_pts ch l m (i + max s 1)) → (s ≠ 1 → (s = 2 ∨ s = 3 ∨ s = 4) ∧ (∀ k, 1 ≤ k → k < s → md_mr (md_nth l (i + k)) = true) ∧ md_pts ch l (m + 1) i = ni (md_ptk l i (b % 2 ^ (7 - s)) (s - 1)) :: md_pts ch l m (i + max s 1)) → sw (sm_fx C 98 64 [.ref (X + 11), .ref (t + 1), .int (ni ch), .int (ni i), .int (ni b), .int (ni s)] [] (cs X t T0 e D p pl)) (fun w E => (w, E) = (.inl none, cs X t T0 e D p (pl ++ md_pts ch l (m + 1) i))) := by
        intro s hs h1 h2
        refine sw_ge (n98_64 hX hr) ?_
        simp (disch := omega) only [sw_ite, ni_inj, sw_bi]
        by_cases hs1 : s = 1
        · rw [if_pos hs1]
          exact h83 (ni b) s hs (h1 hs1)
        · rw [if_neg hs1]
          obtain ⟨a1, a2, a3⟩ := h2 hs1
          rw [c100 h hM (by omega) (Or.inr a1) (fun j hj1 hj2 => by
            by_cases hji : j = i
            · rw [hji]; exact ⟨b, hb, eb⟩
            · have := a2 (j - i) (by omega) (by omega)
              rw [show i + (j - i) = j from by omega] at this
              obtain ⟨n, g1, g2, g3⟩ := (md_in_iff (by omega) (by omega)).mp this
              exact ⟨n, by omega, g3⟩), sw_some, eb, md_nat_ni (by omega)]
          simp only [sb_i]
          exact h83 _ s hs a3
      have h37 : ∀ (s : Nat), s ≤ 4 → (s = 0 ∨ (ch = 0 ∧ 127 < b) → md_pts ch l (m + 1) i = ni 65533 :: md_pts ch l m (i + max s 1)) → (s = 1 → ¬ (ch = 0 ∧ 127 < b) → md_pts ch l (m + 1) i = ni b :: md_pts ch l m (i + max s 1)) → (s ≠ 0 → s ≠ 1 → (s = 2 ∨ s = 3 ∨ s = 4) ∧ (∀ k, 1 ≤ k → k < s → md_mr (md_nth l (i + k)) = true) ∧ (¬ (ch = 0 ∧ 127 < b) → md_pts ch l (m + 1) i = ni (md_ptk l i (b % 2 ^ (7 - s)) (s - 1)) :: md_pts ch l m (i + max s 1))) → sw (sm_fx C 98 37 [.ref (X + 11), .ref (t + 1), .int (ni ch), .int (ni i), .int (ni b), sm_junk] [.int (ni s)] (cs X t T0 e D p pl)) (fun w E => (w, E) = (.inl none, cs X t T0 e D p (pl ++ md_pts ch l (m + 1) i))) := by
        intro s hs g0 g1 g2
        refine sw_ge (n98_37 hX hr) ?_
        simp (disch := omega) only [sw_ite, ni_inj, ni_le]
        by_cases hs0 : s = 0
        · rw [if_pos hs0]
          exact h55 s hs (g0 (Or.inl hs0))
        · rw [if_neg hs0]
          by_cases hc0 : ch = 0
          · rw [if_pos hc0]
            by_cases hb127 : b ≤ 127
            · rw [if_pos hb127]
              have hno : ¬ (ch = 0 ∧ 127 < b) := by omega
              exact h64 s hs (fun q => g1 q hno) (fun q => ⟨(g2 hs0 q).1, (g2 hs0 q).2.1, (g2 hs0 q).2.2 hno⟩)
            · rw [if_neg hb127]
              exact h55 s hs (g0 (Or.inr ⟨hc0, by omega⟩))
          · rw [if_neg hc0]
            have hno : ¬ (ch = 0 ∧ 127 < b) := fun q => hc0 q.1
            exact h64 s hs (fun q => g1 q hno) (fun q => ⟨(g2 hs0 q).1, (g2 hs0 q).2.1, (g2 hs0 q).2.2 hno⟩)
      apply sw_eq
      refine sw_ge (n98_2 hX hr) ?_
      simp (disch := omega) only [sw_ite, e121, ni_le, sw_bi, c42m h hM (show i < 2147483648 by omega), sw_some, sb_i, ni_inj, eb]
      rw [if_neg (by omega)]
      by_cases h2 : ch = 2
      · rw [if_pos h2, c99 h hM hby hil, sw_some]
        simp only [sb_i]
        have hp : md_pts ch l (m + 1) i = (md_u8 (md_nth l i) (md_nth l (i + 1)) (md_nth l (i + 2)) (md_nth l (i + 3))).1 :: md_pts ch l m (i + 1 + (md_u8 (md_nth l i) (md_nth l (i + 1)) (md_nth l (i + 2)) (md_nth l (i + 3))).2) := by
          conv => lhs; unfold md_pts
          rw [if_pos hil, if_pos h2]
        have hno : ¬ (ch = 0 ∧ 127 < b) := by omega
        have lt128 : (ni b < ni 128) = (b < 128) := ni_lt (by omega) (by omega)
        have hu := md_u8_cases (l := l) (i := i) hb eb
        unfold md_sz
        rw [eb] at hp hu
        rw [eb]
        simp only [lt128]
        rcases hu with ⟨u1, u2⟩ | ⟨u1, u2⟩ | ⟨u1, s, us, u2, u3⟩
        · rw [if_pos u1]
          rw [u2] at hp
          exact h37 1 (by omega) (fun q => by omega) (fun _ _ => hp) (fun _ q => absurd rfl q)
        · rw [if_neg (by omega), u2, if_pos rfl]
          rw [u2] at hp
          exact h37 0 (by omega) (fun _ => hp) (fun q => by omega) (fun q => absurd rfl q)
        · rw [if_neg (by omega), u2, if_neg (show ¬ (s - 1 = 0) by omega)]
          rw [u2] at hp
          dsimp only at hp ⊢
          rw [show s - 1 + 1 = s from by omega]
          exact h37 s (by omega) (fun q => by omega) (fun q => by omega) (fun _ _ => ⟨us, u3, fun _ => by rw [show i + max s 1 = i + 1 + (s - 1) from by omega]; exact hp⟩)
      · rw [if_neg h2]
        have lt127 : (ni 127 < ni b) = (127 < b) := ni_lt (by omega) (by omega)
        have hp : md_pts ch l (m + 1) i = (if ch = 0 ∧ 127 < b then ni 65533 else ni b) :: md_pts ch l m (i + 1) := by
          conv => lhs; unfold md_pts
          rw [if_pos hil, if_neg h2, eb]
          simp only [lt127]
        refine h37 1 (by omega) (fun q => ?_) (fun _ q => ?_) (fun _ q => absurd rfl q)
        · rw [if_pos (q.resolve_left (by omega))] at hp; exact hp
        · rw [if_neg q] at hp; exact hp
    · apply sw_eq
      refine sw_ge (n98_2 hX hr) ?_
      simp (disch := omega) only [sw_ite, e121, ni_le, sw_some]
      rw [if_pos (by omega)]
      unfold md_pts
      rw [if_neg hil, List.append_nil]
end CU9
