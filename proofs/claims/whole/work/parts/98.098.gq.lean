section RGQ
variable {P : Nat → Int32} {z k h pd : Nat} {v c : Int32}
theorem mB_ok {v' : Int32} {h' pd' : Nat} {xs : List Int32} (hk : k < z) (ht : md_tk v h pd (P k) = .ok (v', h', pd', xs)) : md_mB P z v h pd k = (md_mB P z v' h' pd' (k + 1)).map (fun ys => xs ++ ys) := by rw [md_mB, if_pos hk, ht]
theorem mB_er {b : Bool} (hk : k < z) (ht : md_tk v h pd (P k) = .error b) : md_mB P z v h pd k = none := by rw [md_mB, if_pos hk, ht]
theorem mB_end (hk : ¬ k < z) : md_mB P z v 0 pd k = some [] := by rw [md_mB, if_neg hk, if_pos rfl]
theorem six_61 : md_six (ni 61) = sm_k (-1) := by decide
theorem tk_n {a : Nat} (hs : md_six c = ni a) (ha : a < 64) (hh : h < 3) : md_tk v h 0 c = .ok ((v <<< ni 6) ||| ni a, h + 1, 0, []) := by
  have h61 : c ≠ ni 61 := fun g => by rw [g, six_61, k_ne_ni (by omega)] at hs; exact hs
  unfold md_tk
  rw [if_neg (fun g => by
    rcases g with g | g
    · exact h61 g.1
    · rcases g.2 with g2 | g2
      · rw [hs, ni_ne_k (by omega)] at g2; exact g2
      · omega), if_neg (fun g => h61 g.1)]
  simp only [if_neg h61, hs]
  rw [if_neg (by omega)]
theorem tk_3 {a : Nat} (hs : md_six c = ni a) (ha : a < 64) : md_tk v 3 0 c = .ok (ni 0, 0, 0, [(((v <<< ni 6) ||| ni a) >>> ni 16) &&& ni 255, (((v <<< ni 6) ||| ni a) >>> ni 8) &&& ni 255, ((v <<< ni 6) ||| ni a) &&& ni 255]) := by
  have h61 : c ≠ ni 61 := fun g => by rw [g, six_61, k_ne_ni (by omega)] at hs; exact hs
  unfold md_tk
  rw [if_neg (fun g => by
    rcases g with g | g
    · exact h61 g.1
    · rcases g.2 with g2 | g2
      · rw [hs, ni_ne_k (by omega)] at g2; exact g2
      · omega), if_neg (fun g => h61 g.1)]
  simp only [if_neg h61, hs]
  rfl
theorem tk_b (h61 : c ≠ ni 61) (hs : md_six c = sm_k (-1)) : md_tk v h pd c = .error false := by
  unfold md_tk
  rw [if_pos (Or.inr ⟨h61, Or.inl hs⟩)]
theorem tk_p (h61 : c ≠ ni 61) (hp : 0 < pd) : md_tk v h pd c = .error false := by
  unfold md_tk
  rw [if_pos (Or.inr ⟨h61, Or.inr hp⟩)]
theorem tk_e (h61 : c = ni 61) (hh : h < 2) : md_tk v h pd c = .error false := by
  unfold md_tk
  rw [if_pos (Or.inl ⟨h61, hh⟩)]
theorem tk_x (hs : md_six c = sm_k (-1)) (hh : h < 2) : md_tk v h pd c = .error false := by
  by_cases h61 : c = ni 61
  · exact tk_e h61 hh
  · exact tk_b h61 hs
theorem tk_lo (h61 : c = ni 61) (hh : ¬ h < 2) (hl : md_lo v h ≠ ni 0) : md_tk v h 0 c = .error true := by
  unfold md_tk
  rw [if_neg (fun g => g.elim (fun g => hh g.2) (fun g => g.1 h61)), if_pos ⟨h61, rfl, hl⟩]
theorem tk_21 (h61 : c = ni 61) (hl : md_lo v 2 = ni 0) : md_tk v 2 0 c = .ok ((v <<< ni 6) ||| ni 0, 3, 1, []) := by
  unfold md_tk
  rw [if_neg (fun g => g.elim (fun g => by omega) (fun g => g.1 h61)), if_neg (fun g => g.2.2 hl)]
  simp only [if_pos h61]
  rfl
theorem tk_31 (h61 : c = ni 61) (hl : md_lo v 3 = ni 0) : md_tk v 3 0 c = .ok (ni 0, 0, 1, [(((v <<< ni 6) ||| ni 0) >>> ni 16) &&& ni 255, (((v <<< ni 6) ||| ni 0) >>> ni 8) &&& ni 255]) := by
  unfold md_tk
  rw [if_neg (fun g => g.elim (fun g => by omega) (fun g => g.1 h61)), if_neg (fun g => g.2.2 hl)]
  simp only [if_pos h61]
  rfl
theorem tk_32 (h61 : c = ni 61) : md_tk v 3 1 c = .ok (ni 0, 0, 2, [(((v <<< ni 6) ||| ni 0) >>> ni 16) &&& ni 255]) := by
  unfold md_tk
  rw [if_neg (fun g => g.elim (fun g => by omega) (fun g => g.1 h61)), if_neg (fun g => by have := g.2.1; omega)]
  simp only [if_pos h61]
  rfl
theorem mB_pd (hp : 0 < pd) (hk : k < z) : md_mB P z v 0 pd k = none := by
  by_cases h61 : P k = ni 61
  · exact mB_er hk (tk_e h61 (by omega))
  · exact mB_er hk (tk_p h61 hp)
end RGQ
theorem mB_mod {P : Nat → Int32} {z k h pd : Nat} {v : Int32} {l : List Int32} (hh : h < 4) (hl : md_mB P z v h pd k = some l) : (z - k + h) % 4 = 0 := by
  rw [md_mB] at hl
  split at hl
  · next hk =>
    split at hl
    · cases hl
    · next v' h' pd' xs ht =>
      have hh' : h' < 4 ∧ (h' = h + 1 ∨ (h = 3 ∧ h' = 0)) := by
        unfold md_tk at ht
        split at ht
        · cases ht
        · split at ht
          · cases ht
          · dsimp only at ht
            split at ht
            · next g => cases ht; exact ⟨by omega, Or.inr ⟨g, rfl⟩⟩
            · next g => cases ht; exact ⟨by omega, Or.inl rfl⟩
      cases hm : md_mB P z v' h' pd' (k + 1) with
      | none => rw [hm] at hl; cases hl
      | some ys =>
        have := mB_mod hh'.1 hm
        omega
  · split at hl
    · next h0 => omega
    · cases hl
termination_by z - k
section RGR
variable {C : sm_K} {X : Nat} {D E : sm_D} {Q : (Option Value ⊕ Nat) → sm_D → Prop} {xs : List Int32}
theorem s31_2 : (ni 2 &&& 31 : Int32) = ni 2 := by decide
theorem s31_4 : (ni 4 &&& 31 : Int32) = ni 4 := by decide
theorem s31_6 : (ni 6 &&& 31 : Int32) = ni 6 := by decide
/-- a coded word -/
theorem r216_12 (hX : sm_Lay C X) (hL : xs.length ≤ 8000) {n : Nat} (hn : n ≤ xs.length) {D0 : sm_D} :
    ∀ (m k : Nat) (acc : List Int32) (E : sm_D), k + 4 * m = n → PLN X xs E → WB X acc E → acc.length + (n - k) ≤ 80 → fr (sEn X) D0 E →
    (∀ ys, md_mB (md_nth xs) n (ni 0) 0 0 k = some ys → ∀ E', fr (sEn X) D0 E' → WB X (acc ++ ys) E' → E'.1 (X + 49) 59 = E.1 (X + 49) 59 → Q (.inl (some (.int (ni 1)))) E') →
    (md_mB (md_nth xs) n (ni 0) 0 0 k = none → ∀ E', fr (sEn X) D0 E' → Q (.inl (some (.int (ni 0)))) E') →
    sw (sm_fx C 216 12 [.ref (X + 49), sm_junk, .int (ni n), .int (ni k), sm_junk, sm_junk, sm_junk, sm_junk, sm_junk, sm_junk, sm_junk] [] E) Q := by
  intro m
  induction m with
  | zero =>
    intro k acc E hk hP hW hb hfr hok her
    rw [mB_end (by omega)] at hok
    refine sw_ge (n216_12 hX) ?_
    simp (disch := omega) only [sw_ite, ni_le, sw_some, nar_b1]
    rw [if_pos (by omega)]
    exact hok [] rfl E hfr (by rw [List.append_nil]; exact hW) rfl
  | succ m ih =>
    intro k acc E hk hP hW hb hfr hok her
    have p0 := hP.2 k (by omega)
    have p1 := hP.2 (k + 1) (by omega)
    have p2 := hP.2 (k + 2) (by omega)
    have p3 := hP.2 (k + 3) (by omega)
    have k0 : k < n := by omega
    have k1 : k + 1 < n := by omega
    have k2 : k + 2 < n := by omega
    have k3 : k + 3 < n := by omega
    -- the three bytes
    have n147 : ∀ one two : Bool, one = (decide (k + 4 = n) && decide (md_nth xs (k + 2) = ni 61) && decide (md_nth xs (k + 3) = ni 61)) → two = (decide (k + 4 = n) && decide (md_nth xs (k + 3) = ni 61) && !one) →
        sw (sm_fx C 216 147 [.ref (X + 49), sm_junk, .int (ni n), .int (ni k), .int (md_six (md_nth xs k)), .int (md_six (md_nth xs (k + 1))), .int (md_six (md_nth xs (k + 2))), .int (md_six (md_nth xs (k + 3))), sm_junk, .int (md_b one), sm_junk] [.int (md_b two)] E) Q := by
      intro one two hone htwo
      refine sw_ge (n216_147 hX) ?_
      simp only [sw_ite, sw_some, nar_b0, md_b_0]
      rcases md_six_64 (md_nth xs k) with g0 | ⟨a0, b0, g0⟩
      · rw [if_pos g0]
        exact her (mB_er k0 (tk_x g0 (by omega))) E hfr
      rw [if_neg (by rw [g0, ni_ne_k (by omega)]; exact id)]
      rw [mB_ok k0 (tk_n g0 b0 (by omega))] at hok her
      rcases md_six_64 (md_nth xs (k + 1)) with g1 | ⟨a1, b1, g1⟩
      · rw [if_pos g1]
        exact her (by rw [mB_er k1 (tk_x g1 (by omega))]; rfl) E hfr
      rw [if_neg (by rw [g1, ni_ne_k (by omega)]; exact id)]
      rw [mB_ok k1 (tk_n g1 b1 (by omega))] at hok her
      rw [show ni 0 <<< ni 6 ||| ni a0 = ni a0 by rw [ni_or6 b0]; congr 1; omega, ni_or6 b1] at hok her
      have e14 : ni a1 >>> ni 4 = ni (a1 / 16) := ni_shr a1 4 (by omega) (by decide) (by omega)
      have e02 : ni a0 <<< ni 2 = ni (a0 * 2 ^ 2) := ni_shl a0 2 (by decide) (by omega)
      have byte0 : (ni a0 <<< ni 2 ||| ni a1 >>> ni 4) &&& ni 255 = ni (a0 * 4 + a1 / 16) := by
        rw [e14, e02, ni_orp (show a1 / 16 < 2 ^ 2 by omega), ni_m255]; congr 1; omega
      cases one
      · -- not one byte alone
        rw [if_pos rfl]
        have hone' : ¬ (k + 4 = n ∧ md_nth xs (k + 2) = ni 61 ∧ md_nth xs (k + 3) = ni 61) := fun g => by
          rw [decide_eq_true g.1, decide_eq_true g.2.1, decide_eq_true g.2.2] at hone; exact nomatch hone
        rcases md_six_64 (md_nth xs (k + 2)) with g2 | ⟨a2, b2, g2⟩
        · rw [if_pos g2]
          refine her ?_ E hfr
          by_cases c2 : md_nth xs (k + 2) = ni 61
          · by_cases hlo : md_lo (ni (a0 * 64 + a1)) 2 = ni 0
            · rw [mB_ok k2 (tk_21 c2 hlo)]
              by_cases c3 : md_nth xs (k + 3) = ni 61
              · have hne : k + 4 ≠ n := fun g => hone' ⟨g, c2, c3⟩
                rw [mB_ok k3 (tk_32 c3), mB_pd (by omega) (by omega)]; rfl
              · rw [mB_er k3 (tk_p c3 (by omega))]; rfl
            · rw [mB_er k2 (tk_lo c2 (by omega) hlo)]; rfl
          · rw [mB_er k2 (tk_b c2 g2)]; rfl
        · rw [if_neg (by rw [g2, ni_ne_k (by omega)]; exact id)]
          rw [mB_ok k2 (tk_n g2 b2 (by omega)), ni_or6 b2] at hok her
          have e22 : ni a2 >>> ni 2 = ni (a2 / 4) := ni_shr a2 2 (by omega) (by decide) (by omega)
          have e14' : ni a1 <<< ni 4 = ni (a1 * 2 ^ 4) := ni_shl a1 4 (by decide) (by omega)
          have byte1 : (ni a1 <<< ni 4 ||| ni a2 >>> ni 2) &&& ni 255 = ni ((a1 * 16 + a2 / 4) % 256) := by
            rw [e22, e14', ni_orp (show a2 / 4 < 2 ^ 4 by omega), ni_m255]
          refine sw_ge (n216_172 hX) ?_
          simp only [sw_ite, sw_some, nar_b0, md_b_0, if_true]
          cases two
          · rw [if_pos rfl]
            have htwo' : ¬ (k + 4 = n ∧ md_nth xs (k + 3) = ni 61) := fun g => by
              rw [decide_eq_true g.1, decide_eq_true g.2] at htwo; exact nomatch htwo
            rcases md_six_64 (md_nth xs (k + 3)) with g3 | ⟨a3, b3, g3⟩
            · rw [if_pos g3]
              refine her ?_ E hfr
              by_cases c3 : md_nth xs (k + 3) = ni 61
              · by_cases hlo : md_lo (ni ((a0 * 64 + a1) * 64 + a2)) 3 = ni 0
                · have hne : k + 4 ≠ n := fun g => htwo' ⟨g, c3⟩
                  rw [mB_ok k3 (tk_31 c3 hlo), mB_pd (by omega) (by omega)]; rfl
                · rw [mB_er k3 (tk_lo c3 (by omega) hlo)]; rfl
              · rw [mB_er k3 (tk_b c3 g3)]; rfl
            · rw [if_neg (by rw [g3, ni_ne_k (by omega)]; exact id)]
              rw [mB_ok k3 (tk_3 g3 b3), ni_or6 b3] at hok her
              have byte2 : (ni a2 <<< ni 6 ||| ni a3) &&& ni 255 = ni ((a2 * 64 + a3) % 256) := by rw [ni_or6 b3, ni_m255]
              have f0 : ni (((a0 * 64 + a1) * 64 + a2) * 64 + a3) >>> ni 16 &&& ni 255 = ni (a0 * 4 + a1 / 16) := by
                rw [ni_shr _ 16 (by omega) (by decide) (by omega), ni_m255]; congr 1; omega
              have f1 : ni (((a0 * 64 + a1) * 64 + a2) * 64 + a3) >>> ni 8 &&& ni 255 = ni ((a1 * 16 + a2 / 4) % 256) := by
                rw [ni_shr _ 8 (by omega) (by decide) (by omega), ni_m255]; congr 1; omega
              have f2 : ni (((a0 * 64 + a1) * 64 + a2) * 64 + a3) &&& ni 255 = ni ((a2 * 64 + a3) % 256) := by
                rw [ni_m255]; congr 1; omega
              rw [f0, f1, f2] at hok her
              refine sw_ge (n216_190 hX) ?_
              simp only [sw_ite, show md_b false = ni 0 from rfl, if_true]
              refine sw_ge (n216_203 hX) ?_
              simp only [sw_ite, if_true]
              refine sw_ge (n216_217 hX) ?_
              simp only [sw_bv, s31_2, s31_4, g0, g1, g2]
              refine r218 hX hW (by omega) (fun E1 fr1 W1 h1 => ?_)
              rw [byte0] at W1
              simp only [sb_v, sw_ite, if_true, sw_bv]
              refine r218 hX W1 (by rw [List.length_append, List.length_singleton]; omega) (fun E2 fr2 W2 h2 => ?_)
              rw [byte1] at W2
              simp only [sb_v]
              refine sw_ge (n216_248 hX) ?_
              simp only [sw_ite, if_true, sw_bv, s31_6, g3]
              refine r218 hX W2 (by simp only [List.length_append, List.length_cons, List.length_nil]; omega) (fun E3 fr3 W3 h3 => ?_)
              rw [byte2] at W3
              simp only [sb_v]
              refine sw_ge (n216_270 hX) ?_
              rw [ni_add]
              refine ih (k + 4) _ E3 (by omega) (((hP.fr fr1 sEn_P).fr fr2 sEn_P).fr fr3 sEn_P) W3 (by simp only [List.length_append, List.length_cons, List.length_nil]; omega) (((hfr.trans fr1).trans fr2).trans fr3) (fun ys hy E' hE' hWE h59 => ?_) (fun hy E' hE' => her (by rw [hy]; rfl) E' hE')
              refine hok _ (by rw [hy]; rfl) E' hE' ?_ (by rw [h59, h3 _ (by omega), h2 _ (by omega), h1 _ (by omega)])
              simp only [List.append_assoc, List.nil_append, List.cons_append] at hWE ⊢
              exact hWE
          · have ht2 : k + 4 = n ∧ md_nth xs (k + 3) = ni 61 := by
              have := htwo.symm
              simp only [Bool.and_eq_true, decide_eq_true_eq] at this
              exact this.1
            have hlo : md_lo (ni ((a0 * 64 + a1) * 64 + a2)) 3 = ni (a2 % 4) := by
              unfold md_lo; rw [if_neg (by omega), ni_m3]; congr 1; omega
            rw [if_neg (fun g => nomatch g)]
            refine sw_ge (n216_190 hX) ?_
            simp only [sw_ite, show md_b false = ni 0 from rfl, if_true]
            refine sw_ge (n216_203 hX) ?_
            simp (disch := omega) only [sw_ite, show md_b true = ni 1 from rfl, ni_10, if_false, sw_some, nar_b0, g2, ni_m3, ni_inj]
            by_cases h3z : a2 % 4 = 0
            · rw [if_pos h3z]
              have hlo0 : md_lo (ni ((a0 * 64 + a1) * 64 + a2)) 3 = ni 0 := by rw [hlo, h3z]
              rw [mB_ok k3 (tk_31 ht2.2 hlo0), mB_end (by omega), ni_or6 (show 0 < 64 by omega)] at hok
              have f0 : ni (((a0 * 64 + a1) * 64 + a2) * 64 + 0) >>> ni 16 &&& ni 255 = ni (a0 * 4 + a1 / 16) := by
                rw [ni_shr _ 16 (by omega) (by decide) (by omega), ni_m255]; congr 1; omega
              have f1 : ni (((a0 * 64 + a1) * 64 + a2) * 64 + 0) >>> ni 8 &&& ni 255 = ni ((a1 * 16 + a2 / 4) % 256) := by
                rw [ni_shr _ 8 (by omega) (by decide) (by omega), ni_m255]; congr 1; omega
              rw [f0, f1] at hok
              refine sw_ge (n216_217 hX) ?_
              simp only [sw_bv, s31_2, s31_4, g0, g1]
              refine r218 hX hW (by omega) (fun E1 fr1 W1 h1 => ?_)
              rw [byte0] at W1
              simp only [sb_v, sw_ite, if_true, sw_bv]
              refine r218 hX W1 (by rw [List.length_append, List.length_singleton]; omega) (fun E2 fr2 W2 h2 => ?_)
              rw [byte1] at W2
              simp only [sb_v]
              refine sw_ge (n216_248 hX) ?_
              simp only [sw_ite, if_true, ni_10, if_false]
              refine sw_ge (n216_270 hX) ?_
              refine sw_ge (n216_12 hX) ?_
              simp (disch := omega) only [sw_ite, ni_add, ni_le, sw_some, nar_b1]
              rw [if_pos (by omega)]
              refine hok _ rfl E2 ((hfr.trans fr1).trans fr2) ?_ (by rw [h2 _ (by omega), h1 _ (by omega)])
              simp only [List.append_assoc, List.nil_append, List.cons_append] at W2 ⊢
              exact W2
            · rw [if_neg h3z]
              refine her ?_ E hfr
              rw [mB_er k3 (tk_lo ht2.2 (by omega) (by rw [hlo]; exact cast (congrArg Not (ni_inj (by omega) (by omega))).symm h3z))]; rfl
      · -- one byte alone
        have ht1 : k + 4 = n ∧ md_nth xs (k + 2) = ni 61 ∧ md_nth xs (k + 3) = ni 61 := by
          have := hone.symm
          simp only [Bool.and_eq_true, decide_eq_true_eq] at this
          exact ⟨this.1.1, this.1.2, this.2⟩
        have htw : two = false := by rw [htwo, Bool.not_true, Bool.and_false]
        subst htw
        have hlo : md_lo (ni (a0 * 64 + a1)) 2 = ni (a1 % 16) := by
          unfold md_lo; rw [if_pos rfl, ni_m15]; congr 1; omega
        rw [if_neg (fun g => nomatch g)]
        refine sw_ge (n216_172 hX) ?_
        simp only [sw_ite, show md_b true = ni 1 from rfl, ni_10, if_false]
        refine sw_ge (n216_190 hX) ?_
        simp (disch := omega) only [sw_ite, ni_10, if_false, sw_some, nar_b0, g1, ni_m15, ni_inj]
        by_cases h1z : a1 % 16 = 0
        · rw [if_pos h1z]
          have hlo0 : md_lo (ni (a0 * 64 + a1)) 2 = ni 0 := by rw [hlo, h1z]
          rw [mB_ok k2 (tk_21 ht1.2.1 hlo0), ni_or6 (show 0 < 64 by omega), mB_ok k3 (tk_32 ht1.2.2), mB_end (by omega), ni_or6 (show 0 < 64 by omega)] at hok
          have f0 : ni (((a0 * 64 + a1) * 64 + 0) * 64 + 0) >>> ni 16 &&& ni 255 = ni (a0 * 4 + a1 / 16) := by
            rw [ni_shr _ 16 (by omega) (by decide) (by omega), ni_m255]; congr 1; omega
          rw [f0] at hok
          refine sw_ge (n216_203 hX) ?_
          simp only [sw_ite, show md_b false = ni 0 from rfl, if_true]
          refine sw_ge (n216_217 hX) ?_
          simp only [sw_bv, s31_2, s31_4, g0]
          refine r218 hX hW (by omega) (fun E1 fr1 W1 h1 => ?_)
          rw [byte0] at W1
          simp only [sb_v, sw_ite, ni_10, if_false]
          refine sw_ge (n216_248 hX) ?_
          simp only [sw_ite, ni_10, if_false]
          refine sw_ge (n216_270 hX) ?_
          refine sw_ge (n216_12 hX) ?_
          simp (disch := omega) only [sw_ite, ni_add, ni_le, sw_some, nar_b1]
          rw [if_pos (by omega)]
          exact hok _ rfl E1 (hfr.trans fr1) W1 (h1 _ (by omega))
        · rw [if_neg h1z]
          refine her ?_ E hfr
          rw [mB_er k2 (tk_lo ht1.2.1 (by omega) (by rw [hlo]; exact cast (congrArg Not (ni_inj (by omega) (by omega))).symm h1z))]; rfl
    have n117 : ∀ la one : Bool, la = decide (k + 4 = n) → one = (decide (k + 4 = n) && decide (md_nth xs (k + 2) = ni 61) && decide (md_nth xs (k + 3) = ni 61)) → sw (sm_fx C 216 117 [.ref (X + 49), sm_junk, .int (ni n), .int (ni k), .int (md_six (md_nth xs k)), .int (md_six (md_nth xs (k + 1))), .int (md_six (md_nth xs (k + 2))), .int (md_six (md_nth xs (k + 3))), .int (md_b la), sm_junk, sm_junk] [.int (md_b one)] E) Q := by
      intro la one hla hone
      have n146 : (decide (k + 4 = n) && decide (md_nth xs (k + 3) = ni 61) && !one) = false → sw (sm_fx C 216 146 [.ref (X + 49), sm_junk, .int (ni n), .int (ni k), .int (md_six (md_nth xs k)), .int (md_six (md_nth xs (k + 1))), .int (md_six (md_nth xs (k + 2))), .int (md_six (md_nth xs (k + 3))), sm_junk, .int (md_b one), sm_junk] [] E) Q := by
        intro g
        refine sw_ge (n216_146 hX) ?_
        exact n147 one false hone g.symm
      refine sw_ge (n216_117 hX) ?_
      simp (disch := omega) only [sw_ite, md_b_0, sw_gu, ni_add, ni_in, ni_nat, p3]
      cases la
      · rw [if_pos rfl]
        exact n146 (by rw [← hla]; rfl)
      · rw [if_neg (fun g => nomatch g)]
        refine ⟨decide_eq_true (by omega), ?_⟩
        by_cases c3 : md_nth xs (k + 3) = ni 61
        · rw [if_pos c3]
          cases one
          · rw [if_pos rfl]
            exact n147 false true hone (by rw [← hla, decide_eq_true c3]; rfl)
          · rw [if_neg (fun g => nomatch g)]
            exact n146 (by rw [Bool.not_true, Bool.and_false])
        · rw [if_neg c3]
          exact n146 (by rw [decide_eq_false c3, Bool.and_false, Bool.false_and])
    have n79 : ∀ la : Bool, la = decide (k + 4 = n) → sw (sm_fx C 216 79 [.ref (X + 49), sm_junk, .int (ni n), .int (ni k), .int (md_six (md_nth xs k)), .int (md_six (md_nth xs (k + 1))), .int (md_six (md_nth xs (k + 2))), .int (md_six (md_nth xs (k + 3))), sm_junk, sm_junk, sm_junk] [.int (md_b la)] E) Q := by
      intro la hla
      have n116 : (decide (k + 4 = n) && decide (md_nth xs (k + 2) = ni 61) && decide (md_nth xs (k + 3) = ni 61)) = false → sw (sm_fx C 216 116 [.ref (X + 49), sm_junk, .int (ni n), .int (ni k), .int (md_six (md_nth xs k)), .int (md_six (md_nth xs (k + 1))), .int (md_six (md_nth xs (k + 2))), .int (md_six (md_nth xs (k + 3))), .int (md_b la), sm_junk, sm_junk] [] E) Q := by
        intro g
        refine sw_ge (n216_116 hX) ?_
        exact n117 la false hla g.symm
      refine sw_ge (n216_79 hX) ?_
      simp (disch := omega) only [sw_ite, md_b_0, sw_gu, ni_add, ni_in, ni_nat, p2, p3]
      cases la
      · rw [if_pos rfl]
        exact n116 (by rw [← hla]; rfl)
      · rw [if_neg (fun g => nomatch g)]
        refine ⟨decide_eq_true (by omega), ?_⟩
        by_cases c2 : md_nth xs (k + 2) = ni 61
        · rw [if_pos c2]
          refine ⟨decide_eq_true (by omega), ?_⟩
          by_cases c3 : md_nth xs (k + 3) = ni 61
          · rw [if_pos c3]
            exact n117 true true hla (by rw [← hla, decide_eq_true c2, decide_eq_true c3]; rfl)
          · rw [if_neg c3]
            exact n116 (by rw [decide_eq_false c3, Bool.and_false])
        · rw [if_neg c2]
          exact n116 (by rw [decide_eq_false c2, Bool.and_false, Bool.false_and])
    refine sw_ge (n216_12 hX) ?_
    simp (disch := omega) only [sw_ite, ni_le, sw_gu, ni_add, ni_in, ni_nat, p0, p1, p2, p3, sw_bi, r217, sw_some, sb_i, ni_inj]
    rw [if_neg (by omega)]
    refine ⟨decide_eq_true (by omega), decide_eq_true (by omega), decide_eq_true (by omega), decide_eq_true (by omega), ?_⟩
    by_cases hla : k + 4 = n
    · rw [if_pos hla]; exact n79 true (by rw [decide_eq_true hla])
    · rw [if_neg hla]; exact n79 false (by rw [decide_eq_false hla])
theorem r216 (hX : sm_Lay C X) (hL : xs.length ≤ 8000) {n k : Nat} (hn : n ≤ xs.length) (hk : k ≤ n) (hP : PLN X xs E) (hW : WB X [] E) (hb : n - k ≤ 80)
    (hok : ∀ ys, md_mB (md_nth xs) n (ni 0) 0 0 k = some ys → ∀ E', fr (sEn X) E E' → WB X ys E' → E'.1 (X + 49) 59 = E.1 (X + 49) 59 → Q (.inl (some (.int (ni 1)))) E')
    (her : md_mB (md_nth xs) n (ni 0) 0 0 k = none → ∀ E', fr (sEn X) E E' → Q (.inl (some (.int (ni 0)))) E') :
    sw (sm_fe C 216 [.ref (X + 49), .int (ni k), .int (ni n)] E) Q := by
  refine sw_ge (f216 hX) ?_
  simp (disch := omega) only [sw_ite, ni_sub hk, ni_rem, ni_inj, sw_some, nar_b0]
  by_cases h4 : (n - k) % 4 = 0
  · rw [if_pos h4]
    refine r216_12 hX hL hn ((n - k) / 4) k [] E (by omega) hP hW (by rw [List.length_nil]; omega) fr.refl (fun ys hy E' hE' hWE h59 => hok ys hy E' hE' (by rw [List.nil_append] at hWE; exact hWE) h59) her
  · rw [if_neg h4]
    refine her ?_ E fr.refl
    cases hm : md_mB (md_nth xs) n (ni 0) 0 0 k with
    | none => rfl
    | some l => exact absurd (by have := mB_mod (by omega) hm; omega) h4
end RGR
