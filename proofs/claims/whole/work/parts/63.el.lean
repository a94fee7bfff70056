theorem ni_and (a b : Nat) : ni a &&& ni b = ni (a &&& b) := by
  apply Int32.toBitVec_inj.mp
  show BitVec.ofNat 32 a &&& BitVec.ofNat 32 b = BitVec.ofNat 32 (a &&& b)
  exact BitVec.ofNat_and.symm
theorem ni_or (a b : Nat) : ni a ||| ni b = ni (a ||| b) := by
  apply Int32.toBitVec_inj.mp
  show BitVec.ofNat 32 a ||| BitVec.ofNat 32 b = BitVec.ofNat 32 (a ||| b)
  exact BitVec.ofNat_or.symm
theorem ni_shl (a k : Nat) (hk : (Int32.toBitVec (ni k)).smod 32 = BitVec.ofNat 32 k) (h32 : k < 32) : ni a <<< ni k = ni (a * 2 ^ k) := by
  apply Int32.toBitVec_inj.mp
  show BitVec.ofNat 32 a <<< ((Int32.toBitVec (ni k)).smod 32) = BitVec.ofNat 32 (a * 2 ^ k)
  rw [hk]
  apply BitVec.eq_of_toNat_eq
  rw [BitVec.shiftLeft_eq', BitVec.toNat_shiftLeft, BitVec.toNat_ofNat, BitVec.toNat_ofNat, BitVec.toNat_ofNat, Nat.mod_eq_of_lt (show k < 2 ^ 32 by omega), Nat.shiftLeft_eq, Nat.mod_mul_mod]
theorem ni_m63 (a : Nat) : ni a &&& ni 63 = ni (a % 64) := by
  rw [ni_and]; exact congrArg ni (Nat.and_two_pow_sub_one_eq_mod a 6)
theorem ni_or6 {a c : Nat} (hc : c < 64) : (ni a <<< ni 6) ||| ni c = ni (a * 64 + c) := by
  rw [ni_shl a 6 (by decide) (by omega), ni_or]
  have := Nat.shiftLeft_add_eq_or_of_lt (show c < 2 ^ 6 from hc) a
  rw [Nat.shiftLeft_eq] at this
  exact congrArg ni this.symm
theorem md_nat_ni {n : Nat} (h : n < 2147483648) : md_nat (ni n) = n := by
  unfold md_nat; rw [ni_toInt h]; rfl
section CU8
variable {C : sm_K} {X t N e p : Nat} {T T0 : Nat → Int32} {D : sm_D} {pl : List Int32} {Q : (Option Value ⊕ Nat) → sm_D → Prop}
def md_ptk (l : List Int32) (i v0 : Nat) : Nat → Nat
  | 0 => v0
  | k + 1 => md_ptk l i v0 k * 64 + md_nat (md_nth l (i + 1 + k)) % 64
theorem c100 (h : cH C X t T N D) {l : List Int32} (hM : MT X D l) {i s : Nat} (hi : i < 200) (hs : s = 0 ∨ s = 2 ∨ s = 3 ∨ s = 4) (hby : ∀ j, i ≤ j → j < i + max s 1 → ∃ n, n < 256 ∧ md_nth l j = ni n) :
    sm_fe C 100 [.ref (X + 11), .int (ni i), .int (ni s)] (cs X t T0 e D p pl) = some (.inl (some (.int (ni (md_ptk l i (md_nat (md_nth l i) % 2 ^ (7 - s)) (s - 1))))), cs X t T0 e D p pl) := by
  have hX := h.1
  obtain ⟨n0, hn0, e0⟩ := hby i (Nat.le_refl _) (by omega)
  have loop : ∀ (m j : Nat), j + m = s - 1 → ∀ v, v = md_ptk l i (n0 % 2 ^ (7 - s)) j → sm_fx C 100 17 [.ref (X + 11), .int (ni i), .int (ni s), .int (ni v), .int (ni (j + 1))] [] (cs X t T0 e D p pl) = some (.inl (some (.int (ni (md_ptk l i (n0 % 2 ^ (7 - s)) (s - 1))))), cs X t T0 e D p pl) := by
    intro m
    induction m with
    | zero =>
      intro j hj v hv
      apply sw_eq
      refine sw_ge (n100_17 hX) ?_
      simp (disch := omega) only [sw_ite, ni_le, sw_some]
      rw [if_pos (by omega), hv, show j = s - 1 from by omega]
    | succ m ih =>
      intro j hj v hv
      obtain ⟨n1, hn1, e1⟩ := hby (i + (j + 1)) (by omega) (by omega)
      apply sw_eq
      refine sw_ge (n100_17 hX) ?_
      have k6 : (ni 6 &&& 31 : Int32) = ni 6 := by decide
      simp (disch := omega) only [sw_ite, ni_le, ni_add, sw_bi, c42m h hM (show i + (j + 1) < 2147483648 by omega), sw_some, sb_i, e1, ni_m63, k6, ni_or6 (show n1 % 64 < 64 by omega)]
      rw [if_neg (by omega), ih (j + 1) (by omega) _ ?_, sw_some]
      show _ = md_ptk l i (n0 % 2 ^ (7 - s)) j * 64 + md_nat (md_nth l (i + 1 + j)) % 64
      rw [show i + 1 + j = i + (j + 1) from by omega, e1, md_nat_ni (by omega), hv]
  apply sw_eq
  refine sw_ge (f100 hX) ?_
  have hmask : (ni 127 >>> (ni s &&& 31) : Int32) = ni (2 ^ (7 - s) - 1) := by
    rcases hs with rfl | rfl | rfl | rfl <;> decide
  simp only [sw_bi, c42m h hM (show i < 2147483648 by omega), sw_some, sb_i, e0, hmask, ni_and]
  rw [Nat.and_two_pow_sub_one_eq_mod, md_nat_ni (by omega), show ni 1 = ni (0 + 1) from rfl, loop (s - 1) 0 (by omega) (n0 % 2 ^ (7 - s)) rfl, sw_some]
theorem md_m64 : ∀ n, n < 256 → ((ni n &&& sm_k (-64) = ni 128) ↔ md_mr (ni n) = true) := by decide +kernel
theorem md_m64n : ¬ (sm_k (-1) &&& sm_k (-64) = ni 128) := by decide
/-- how many bytes a right row has that begins here -/
def md_sz (b x y z : Int32) : Nat := if b < ni 128 then 1 else if (md_u8 b x y z).2 = 0 then 0 else (md_u8 b x y z).2 + 1
theorem c99 (h : cH C X t T N D) {l : List Int32} (hM : MT X D l) (hby : md_by l) {i : Nat} (hi : i < l.length) :
    sm_fe C 99 [.ref (X + 11), .int (ni i)] (cs X t T0 e D p pl) = some (.inl (some (.int (ni (md_sz (md_nth l i) (md_nth l (i + 1)) (md_nth l (i + 2)) (md_nth l (i + 3)))))), cs X t T0 e D p pl) := by
  have hX := h.1
  have hl := hM.2.1
  have byt : ∀ j, j < l.length → ∃ n, n < 256 ∧ md_nth l j = ni n := fun j hj => by
    rw [md_nth_get hj]; exact hby _ (List.getElem_mem hj)
  obtain ⟨b, hb, eb⟩ := byt i hi
  have hmr : ∀ j, (md_nth l j &&& sm_k (-64) = ni 128) ↔ md_mr (md_nth l j) = true := fun j => by
    rcases Nat.lt_or_ge j l.length with hj | hj
    · obtain ⟨n, hn, en⟩ := byt j hj
      rw [en]; exact md_m64 n hn
    · rw [md_nth_ge hj]
      exact ⟨fun z => absurd z md_m64n, fun z => absurd z (by decide)⟩
  have hmrl : ∀ j, md_mr (md_nth l j) = true → ∃ n, 128 ≤ n ∧ n < 192 ∧ md_nth l j = ni n := fun j hj => by
    obtain ⟨n, h1, h2, h3⟩ := (md_in_iff (by omega) (by omega)).mp hj
    exact ⟨n, h1, by omega, h3⟩
  have h167 : ∀ (a c : Bool) (s : Nat), s < 10 → sm_fx C 99 167 [sm_junk, sm_junk, sm_junk, .int (ni s), sm_junk, .int (md_b a), sm_junk] [.int (md_b c)] (cs X t T0 e D p pl) = some (.inl (some (.int (ni (if a = true ∨ c = true then 0 else s)))), cs X t T0 e D p pl) := by
    intro a c s hs
    apply sw_eq
    refine sw_ge (n99_167 hX) ?_
    simp only [sw_ite, md_b_0, sw_some]
    cases a <;> cases c <;> simp
  have h139 : ∀ (a : Bool) (s w : Nat), s < 10 → w < 2147483648 → sm_fx C 99 139 [sm_junk, sm_junk, sm_junk, .int (ni s), .int (ni w), sm_junk, sm_junk] [.int (md_b a)] (cs X t T0 e D p pl) = some (.inl (some (.int (ni (if a = true ∨ ((55296 ≤ w ∧ w ≤ 57343) ∨ 1114111 < w) then 0 else s)))), cs X t T0 e D p pl) := by
    intro a s w hs hw
    have c1 : (55296 : Int32) = ni 55296 := rfl
    have c2 : (57343 : Int32) = ni 57343 := rfl
    have c3 : (1114111 : Int32) = ni 1114111 := rfl
    have h155 : ¬ (55296 ≤ w ∧ w ≤ 57343) → sm_fx C 99 155 [sm_junk, sm_junk, sm_junk, .int (ni s), .int (ni w), .int (md_b a), sm_junk] [] (cs X t T0 e D p pl) = some (.inl (some (.int (ni (if a = true ∨ ((55296 ≤ w ∧ w ≤ 57343) ∨ 1114111 < w) then 0 else s)))), cs X t T0 e D p pl) := by
      intro hno
      apply sw_eq
      refine sw_ge (n99_155 hX) ?_
      rw [c3]
      simp (disch := omega) only [sw_ite, ni_le]
      by_cases hc : w ≤ 1114111
      · rw [if_pos hc]
        have := h167 a false s hs
        rw [show md_b false = ni 0 from rfl] at this
        rw [this, sw_some]
        have e1 : (a = true ∨ false = true) = (a = true ∨ ((55296 ≤ w ∧ w ≤ 57343) ∨ 1114111 < w)) := by
          apply propext
          constructor
          · rintro (q | q)
            · exact Or.inl q
            · cases q
          · rintro (q | q | q)
            · exact Or.inl q
            · exact absurd q hno
            · omega
        simp only [e1]
      · rw [if_neg hc]
        have := h167 a true s hs
        rw [show md_b true = ni 1 from rfl] at this
        rw [this, sw_some, if_pos (Or.inr rfl), if_pos (Or.inr (Or.inr (by omega)))]
    apply sw_eq
    refine sw_ge (n99_139 hX) ?_
    rw [c1, c2]
    simp (disch := omega) only [sw_ite, ni_lt, ni_le]
    by_cases h1 : w < 55296
    · rw [if_pos h1, h155 (by omega), sw_some]
    · rw [if_neg h1]
      by_cases h2 : w ≤ 57343
      · rw [if_pos h2]
        have := h167 a true s hs
        rw [show md_b true = ni 1 from rfl] at this
        rw [this, sw_some, if_pos (Or.inr rfl), if_pos (Or.inr (Or.inl ⟨by omega, h2⟩))]
      · rw [if_neg h2, h155 (by omega), sw_some]
  -- behind the test of the bytes that follow
  have h67 : ∀ (s w : Nat), (s = 0 ∨ s = 2 ∨ s = 3 ∨ s = 4) → (∀ j, i ≤ j → j < i + max s 1 → ∃ n, n < 256 ∧ md_nth l j = ni n) → w = md_ptk l i (md_nat (md_nth l i) % 2 ^ (7 - s)) (s - 1) → w < 2147483648 → ∀ j, j = max s 1 → sm_fx C 99 67 [.ref (X + 11), .int (ni i), sm_junk, .int (ni s), .int (ni j), sm_junk, sm_junk] [] (cs X t T0 e D p pl) = some (.inl (some (.int (ni (if ((s = 3 ∧ w < 2048) ∨ (s = 4 ∧ w < 65536)) ∨ ((55296 ≤ w ∧ w ≤ 57343) ∨ 1114111 < w) then 0 else s)))), cs X t T0 e D p pl) := by
    intro s w hs hb2 hw hw2 j hj
    have c4 : (65536 : Int32) = ni 65536 := rfl
    apply sw_eq
    refine sw_ge (n99_67 hX) ?_
    simp (disch := omega) only [sw_ite, ni_le, sw_bi, c100 h hM (show i < 200 by omega) hs hb2, ← hw, sw_some, sb_i, ni_inj, ni_lt]
    rw [if_pos (by omega)]
    have g139 : ∀ a : Bool, (a = true ↔ ((s = 3 ∧ w < 2048) ∨ (s = 4 ∧ w < 65536))) → sw (sm_fx C 99 139 [sm_junk, sm_junk, sm_junk, .int (ni s), .int (ni w), sm_junk, sm_junk] [.int (md_b a)] (cs X t T0 e D p pl)) (fun w' E => (w', E) = (.inl (some (.int (ni (if ((s = 3 ∧ w < 2048) ∨ (s = 4 ∧ w < 65536)) ∨ ((55296 ≤ w ∧ w ≤ 57343) ∨ 1114111 < w) then 0 else s)))), cs X t T0 e D p pl)) := by
      intro a ha
      rw [h139 a s w (by omega) hw2, sw_some]
      simp only [ha]
    have g122 : ¬ (s = 3 ∧ w < 2048) → sw (sm_fx C 99 122 [sm_junk, sm_junk, sm_junk, .int (ni s), .int (ni w), sm_junk, sm_junk] [] (cs X t T0 e D p pl)) (fun w' E => (w', E) = (.inl (some (.int (ni (if ((s = 3 ∧ w < 2048) ∨ (s = 4 ∧ w < 65536)) ∨ ((55296 ≤ w ∧ w ≤ 57343) ∨ 1114111 < w) then 0 else s)))), cs X t T0 e D p pl)) := by
      intro hno
      refine sw_ge (n99_122 hX) ?_
      rw [c4]
      simp (disch := omega) only [sw_ite, ni_inj, ni_le]
      by_cases h4 : s = 4
      · rw [if_pos h4]
        by_cases h6 : 65536 ≤ w
        · rw [if_pos h6]
          refine sw_ge (n99_138 hX) ?_
          exact g139 false (by constructor; intro q; cases q; intro q; omega)
        · rw [if_neg h6]
          exact g139 true (by constructor; intro q; omega; intro q; rfl)
      · rw [if_neg h4]
        refine sw_ge (n99_138 hX) ?_
        exact g139 false (by constructor; intro q; cases q; intro q; omega)
    by_cases h3 : s = 3
    · rw [if_pos h3]
      by_cases h2 : w < 2048
      · rw [if_pos h2]
        exact g139 true (by constructor; intro q; omega; intro q; rfl)
      · rw [if_neg h2]; exact g122 (fun q => h2 q.2)
    · rw [if_neg h3]; exact g122 (fun q => h3 q.1)
  have hall : ∀ (s : Nat), (s = 0 ∨ s = 2 ∨ s = 3 ∨ s = 4) → ∀ (m j : Nat), j + m = max s 1 → 1 ≤ j → (∀ k, 1 ≤ k → k < j → md_mr (md_nth l (i + k)) = true) →
      ((∃ k, j ≤ k ∧ k < s ∧ ¬ md_mr (md_nth l (i + k)) = true) → sm_fx C 99 67 [.ref (X + 11), .int (ni i), sm_junk, .int (ni s), .int (ni j), sm_junk, sm_junk] [] (cs X t T0 e D p pl) = some (.inl (some (.int (ni 0))), cs X t T0 e D p pl)) ∧
      ((∀ k, j ≤ k → k < s → md_mr (md_nth l (i + k)) = true) → ∀ w, w = md_ptk l i (md_nat (md_nth l i) % 2 ^ (7 - s)) (s - 1) → w < 2147483648 → sm_fx C 99 67 [.ref (X + 11), .int (ni i), sm_junk, .int (ni s), .int (ni j), sm_junk, sm_junk] [] (cs X t T0 e D p pl) = some (.inl (some (.int (ni (if ((s = 3 ∧ w < 2048) ∨ (s = 4 ∧ w < 65536)) ∨ ((55296 ≤ w ∧ w ≤ 57343) ∨ 1114111 < w) then 0 else s)))), cs X t T0 e D p pl)) := by
    intro s hs m
    induction m with
    | zero =>
      intro j hj h1 hpre
      refine ⟨fun ⟨k, hk1, hk2, _⟩ => by omega, fun _ w hw hw2 => h67 s w hs (fun q hq1 hq2 => ?_) hw hw2 j (by omega)⟩
      by_cases hqi : q = i
      · rw [hqi]; exact ⟨b, hb, eb⟩
      · obtain ⟨n, g1, g2, g3⟩ := hmrl q (by have := hpre (q - i) (by omega) (by omega); rw [show i + (q - i) = q from by omega] at this; exact this)
        exact ⟨n, by omega, g3⟩
    | succ m ih =>
      intro j hj h1 hpre
      have hjs : j < s := by omega
      have step : sm_fx C 99 67 [.ref (X + 11), .int (ni i), sm_junk, .int (ni s), .int (ni j), sm_junk, sm_junk] [] (cs X t T0 e D p pl) = (if md_mr (md_nth l (i + j)) = true then sm_fx C 99 67 [.ref (X + 11), .int (ni i), sm_junk, .int (ni s), .int (ni (j + 1)), sm_junk, sm_junk] [] (cs X t T0 e D p pl) else some (.inl (some (.int (ni 0))), cs X t T0 e D p pl)) ∨ ¬ (md_mr (md_nth l (i + j)) = true → ∃ o, sm_fx C 99 67 [.ref (X + 11), .int (ni i), sm_junk, .int (ni s), .int (ni (j + 1)), sm_junk, sm_junk] [] (cs X t T0 e D p pl) = some o) := by
        by_cases hx : md_mr (md_nth l (i + j)) = true → ∃ o, sm_fx C 99 67 [.ref (X + 11), .int (ni i), sm_junk, .int (ni s), .int (ni (j + 1)), sm_junk, sm_junk] [] (cs X t T0 e D p pl) = some o
        · left
          by_cases hm : md_mr (md_nth l (i + j)) = true
          · obtain ⟨⟨o1, o2⟩, ho⟩ := hx hm
            rw [if_pos hm, ho]
            apply sw_eq
            refine sw_ge (n99_67 hX) ?_
            simp (disch := omega) only [sw_ite, ni_le, sw_bi, ni_add, c42m h hM (show i + j < 2147483648 by omega), sw_some, sb_i]
            rw [if_neg (by omega), if_pos ((hmr (i + j)).mpr hm), ho, sw_some]
          · rw [if_neg hm]
            apply sw_eq
            refine sw_ge (n99_67 hX) ?_
            simp (disch := omega) only [sw_ite, ni_le, sw_bi, ni_add, c42m h hM (show i + j < 2147483648 by omega), sw_some, sb_i]
            rw [if_neg (by omega), if_neg (fun q => hm ((hmr (i + j)).mp q))]
            trivial
        · exact Or.inr hx
      by_cases hm : md_mr (md_nth l (i + j)) = true
      · obtain ⟨i1, i2⟩ := ih (j + 1) (by omega) (by omega) (fun k hk1 hk2 => by
          by_cases hkj : k = j
          · rw [hkj]; exact hm
          · exact hpre k hk1 (by omega))
        refine ⟨fun ⟨k, hk1, hk2, hk3⟩ => ?_, fun hall w hw hw2 => ?_⟩
        · have hne : k ≠ j := fun q => hk3 (by rw [q]; exact hm)
          have := i1 ⟨k, by omega, hk2, hk3⟩
          rcases step with st1 | st1
          · rw [st1, if_pos hm, this]
          · exact absurd (fun _ => ⟨_, this⟩) st1
        · have := i2 (fun k hk1 hk2 => hall k (by omega) hk2) w hw hw2
          rcases step with st1 | st1
          · rw [st1, if_pos hm, this]
          · exact absurd (fun _ => ⟨_, this⟩) st1
      · refine ⟨fun _ => ?_, fun hall => absurd (hall j (Nat.le_refl _) hjs) hm⟩
        rcases step with st1 | st1
        · rw [st1, if_neg hm]
        · exact absurd (fun q => absurd q hm) st1
  have h63 : ∀ (s : Nat), (s = 0 ∨ s = 2 ∨ s = 3 ∨ s = 4) → ∀ r, ((∃ k, 1 ≤ k ∧ k < s ∧ ¬ md_mr (md_nth l (i + k)) = true) → r = 0) → ((∀ k, 1 ≤ k → k < s → md_mr (md_nth l (i + k)) = true) → ∃ w, w = md_ptk l i (md_nat (md_nth l i) % 2 ^ (7 - s)) (s - 1) ∧ w < 2147483648 ∧ r = (if ((s = 3 ∧ w < 2048) ∨ (s = 4 ∧ w < 65536)) ∨ ((55296 ≤ w ∧ w ≤ 57343) ∨ 1114111 < w) then 0 else s)) → sw (sm_fx C 99 63 [.ref (X + 11), .int (ni i), sm_junk, sm_junk, sm_junk, sm_junk, sm_junk] [.int (ni s)] (cs X t T0 e D p pl)) (fun w E => (w, E) = (.inl (some (.int (ni r))), cs X t T0 e D p pl)) := by
    intro s hs r r1 r2
    refine sw_ge (n99_63 hX) ?_
    obtain ⟨i1, i2⟩ := hall s hs (max s 1 - 1) 1 (by omega) (Nat.le_refl _) (fun k _ _ => by omega)
    by_cases hex : ∃ k, 1 ≤ k ∧ k < s ∧ ¬ md_mr (md_nth l (i + k)) = true
    · rw [i1 hex, sw_some, r1 hex]
    · have hallk : ∀ k, 1 ≤ k → k < s → md_mr (md_nth l (i + k)) = true := fun k h1 h2 => by
        by_cases hm : md_mr (md_nth l (i + k)) = true
        · exact hm
        · exact absurd ⟨k, h1, h2, hm⟩ hex
      obtain ⟨w, w1, w2, w3⟩ := r2 hallk
      rw [i2 hallk w w1 w2, sw_some, w3]
  have in1 := md_in_ni (n := b) (a := 194) (b := 223) (by omega) (by omega) (by omega)
  have in2 := md_in_ni (n := b) (a := 224) (b := 239) (by omega) (by omega) (by omega)
  have in3 := md_in_ni (n := b) (a := 240) (b := 244) (by omega) (by omega) (by omega)
  have lt128 : (ni b < ni 128) = (b < 128) := ni_lt (by omega) (by omega)
  apply sw_eq
  refine sw_ge (f99 hX) ?_
  simp (disch := omega) only [sw_bi, c42m h hM (show i < 2147483648 by omega), sw_some, sb_i, sw_ite, eb, ni_le]
  unfold md_sz md_u8
  have nb : md_nat (ni b) = b := md_nat_ni (by omega)
  simp only [lt128, in1, in2, in3, nb]
  rw [eb] at h63
  rw [nb] at h63
  by_cases g1 : 128 ≤ b
  · rw [if_pos g1]
    simp only [show ¬ b < 128 by omega, if_false]
    by_cases g2 : 194 ≤ b
    · rw [if_pos g2]
      by_cases g3 : 224 ≤ b
      · rw [if_pos g3, decide_eq_false (show ¬ b ≤ 223 by omega), Bool.and_false, Bool.false_and]
        by_cases g4 : 240 ≤ b
        · rw [if_pos g4, decide_eq_false (show ¬ b ≤ 239 by omega), Bool.and_false, Bool.false_and, Bool.false_and]
          by_cases g5 : 245 ≤ b
          · rw [if_pos g5, decide_eq_false (show ¬ b ≤ 244 by omega), Bool.and_false, Bool.false_and, Bool.false_and, Bool.false_and]
            exact h63 0 (Or.inl rfl) 0 (fun _ => rfl) (fun _ => ⟨_, rfl, by show b % 2 ^ (7 - 0) < _; omega, by simp⟩)
          · rw [if_neg g5, decide_eq_true (show b ≤ 244 by omega), decide_eq_true g4]
            simp only [Bool.true_and, Bool.false_eq_true, if_false]
            refine h63 4 (by omega) _ (fun ⟨k, k1, k2, k3⟩ => ?_) (fun hk => ?_)
            · have hf : (md_mr (md_nth l (i + 1)) && md_mr (md_nth l (i + 2)) && md_mr (md_nth l (i + 3))) = false := by
                match k, k1, k2, k3 with
                | 1, _, _, k3 => rw [Bool.not_eq_true] at k3; rw [k3]; rfl
                | 2, _, _, k3 => rw [Bool.not_eq_true] at k3; rw [k3]; simp
                | 3, _, _, k3 => rw [Bool.not_eq_true] at k3; rw [k3]; simp
              rw [hf]; simp
            · obtain ⟨x, x1, x2, ex⟩ := hmrl (i + 1) (hk 1 (by omega) (by omega))
              obtain ⟨y, y1, y2, ey⟩ := hmrl (i + 2) (hk 2 (by omega) (by omega))
              obtain ⟨z, z1, z2, ez⟩ := hmrl (i + 3) (hk 3 (by omega) (by omega))
              rw [hk 1 (by omega) (by omega), hk 2 (by omega) (by omega), hk 3 (by omega) (by omega)]
              refine ⟨((b % 8 * 64 + x % 64) * 64 + y % 64) * 64 + z % 64, ?_, by omega, ?_⟩
              · show _ = ((b % 2 ^ (7 - 4) * 64 + md_nat (md_nth l (i + 1)) % 64) * 64 + md_nat (md_nth l (i + 1 + 1)) % 64) * 64 + md_nat (md_nth l (i + 1 + 2)) % 64
                rw [show i + 1 + 1 = i + 2 from rfl, show i + 1 + 2 = i + 3 from rfl, ex, ey, ez, md_nat_ni (by omega), md_nat_ni (by omega), md_nat_ni (by omega)]
              · simp only [Bool.true_and, if_true, ex, ey, ez, md_nat_ni (show x < 2147483648 by omega), md_nat_ni (show y < 2147483648 by omega), md_nat_ni (show z < 2147483648 by omega)]
                generalize ((b % 8 * 64 + x % 64) * 64 + y % 64) * 64 + z % 64 = w
                simp only [true_and]
                by_cases hw : 65536 ≤ w ∧ w ≤ 1114111
                · rw [if_pos hw, if_neg (show ¬ (3 = 0) by omega), if_neg (by omega)]
                · rw [if_neg hw, if_pos rfl, if_pos (by omega)]
        · rw [if_neg g4, decide_eq_true (show b ≤ 239 by omega), decide_eq_true g3, decide_eq_false (show ¬ 240 ≤ b by omega)]
          simp only [Bool.true_and, Bool.false_and, Bool.false_eq_true, if_false]
          refine h63 3 (by omega) _ (fun ⟨k, k1, k2, k3⟩ => ?_) (fun hk => ?_)
          · have hf : (md_mr (md_nth l (i + 1)) && md_mr (md_nth l (i + 2))) = false := by
              match k, k1, k2, k3 with
              | 1, _, _, k3 => rw [Bool.not_eq_true] at k3; rw [k3]; rfl
              | 2, _, _, k3 => rw [Bool.not_eq_true] at k3; rw [k3]; simp
            rw [hf]; simp
          · obtain ⟨x, x1, x2, ex⟩ := hmrl (i + 1) (hk 1 (by omega) (by omega))
            obtain ⟨y, y1, y2, ey⟩ := hmrl (i + 2) (hk 2 (by omega) (by omega))
            rw [hk 1 (by omega) (by omega), hk 2 (by omega) (by omega)]
            refine ⟨(b % 16 * 64 + x % 64) * 64 + y % 64, ?_, by omega, ?_⟩
            · show _ = (b % 2 ^ (7 - 3) * 64 + md_nat (md_nth l (i + 1)) % 64) * 64 + md_nat (md_nth l (i + 1 + 1)) % 64
              rw [show i + 1 + 1 = i + 2 from rfl, ex, ey, md_nat_ni (by omega), md_nat_ni (by omega)]
            · have hb16 : (b % 16 * 64 + x % 64) * 64 + y % 64 ≤ 65535 := by omega
              simp only [Bool.true_and, if_true, ex, ey, md_nat_ni (show x < 2147483648 by omega), md_nat_ni (show y < 2147483648 by omega)]
              generalize (b % 16 * 64 + x % 64) * 64 + y % 64 = w at *
              simp only [true_and]
              by_cases hw : 2048 ≤ w ∧ ¬ (55296 ≤ w ∧ w ≤ 57343)
              · rw [if_pos hw, if_neg (show ¬ (2 = 0) by omega), if_neg (by omega)]
              · rw [if_neg hw, if_pos rfl, if_pos (by omega)]
      · rw [if_neg g3, decide_eq_true g2, decide_eq_true (show b ≤ 223 by omega), decide_eq_false (show ¬ 224 ≤ b by omega), decide_eq_false (show ¬ 240 ≤ b by omega)]
        simp only [Bool.true_and, Bool.false_and, Bool.false_eq_true, if_false]
        refine h63 2 (by omega) _ (fun ⟨k, k1, k2, k3⟩ => ?_) (fun hk => ?_)
        · have hf : md_mr (md_nth l (i + 1)) = false := by
            match k, k1, k2, k3 with
            | 1, _, _, k3 => rw [Bool.not_eq_true] at k3; exact k3
          rw [hf]; simp
        · obtain ⟨x, x1, x2, ex⟩ := hmrl (i + 1) (hk 1 (by omega) (by omega))
          rw [hk 1 (by omega) (by omega)]
          refine ⟨b % 32 * 64 + x % 64, ?_, by omega, ?_⟩
          · show _ = b % 2 ^ (7 - 2) * 64 + md_nat (md_nth l (i + 1)) % 64
            rw [ex, md_nat_ni (by omega)]
          · simp only [if_true]
            rw [if_neg (show ¬ (1 = 0) by omega), if_neg (by omega)]
    · rw [if_neg g2, decide_eq_false (show ¬ 194 ≤ b by omega), decide_eq_false (show ¬ 224 ≤ b by omega), decide_eq_false (show ¬ 240 ≤ b by omega)]
      simp only [Bool.false_and, Bool.false_eq_true, if_false, if_true]
      exact h63 0 (Or.inl rfl) 0 (fun _ => rfl) (fun _ => ⟨_, rfl, by show b % 2 ^ (7 - 0) < _; omega, by simp⟩)
  · rw [if_neg g1, if_pos (show b < 128 by omega)]
end CU8
