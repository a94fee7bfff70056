/-! ===== the reference: points ===== -/
def SUB (X : Nat) (pts : List Int32) (E : sm_D) : Prop := E.1 (X + 49) 36 = ni pts.length ∧ ∀ i, i < pts.length → E.1 (X + 76) i = md_nth pts i
def sSb (X c j : Nat) : Prop := (c = X + 49 ∧ j = 36) ∨ c = X + 76
theorem md_mr_k : md_mr (sm_k (-1)) = false := by decide
theorem ni_m31 (a : Nat) : ni a &&& ni 31 = ni (a % 32) := by
  rw [ni_and]; exact congrArg ni (Nat.and_two_pow_sub_one_eq_mod a 5)
theorem ni_m7 (a : Nat) : ni a &&& ni 7 = ni (a % 8) := by
  rw [ni_and]; exact congrArg ni (Nat.and_two_pow_sub_one_eq_mod a 3)
theorem s31_12 : (ni 12 &&& 31 : Int32) = ni 12 := by decide
theorem s31_18 : (ni 18 &&& 31 : Int32) = ni 18 := by decide
section RGT
variable {C : sm_K} {X : Nat} {D E : sm_D} {Q : (Option Value ⊕ Nat) → sm_D → Prop} {l : List Int32}
theorem r221 (hX : sm_Lay C X) {pts : List Int32} (hS : SUB X pts E) (hl : pts.length < 8000) {v : Int32} (hq : ∀ E', fr (sSb X) E E' → SUB X (pts ++ [v]) E' → Q (.inl none) E') : sw (sm_fe C 221 [.ref (X + 49), .int v] E) Q := by
  refine sw_ge (f221 hX) ?_
  have e1 : sm_up E.1 (X + 76) pts.length v (X + 49) 36 = ni pts.length := by rw [up_ne (by omega)]; exact hS.1
  simp (disch := omega) only [sw_gu, hS.1, ni_in, ni_nat, e1, ni_add, sw_some]
  refine ⟨decide_eq_true hl, hq _ ((fr.refl.dI (Or.inr rfl)).dI (Or.inl ⟨rfl, rfl⟩)) ⟨by rw [dI_eq, List.length_append]; rfl, fun i hi => ?_⟩⟩
  rw [List.length_append, List.length_singleton] at hi
  rw [dI_ne (by omega), md_nth_sn hi]
  split
  · next g => subst g; rw [dI_eq]
  · next g => rw [dI_ne (by omega), hS.2 i (by omega)]
theorem WB.fr {S : Nat → Nat → Prop} (h : WB X l D) (g : fr S D E) (hS : ∀ c j, S c j → ¬ (c = X + 83 ∨ (c = X + 49 ∧ j = 57))) : WB X l E := ⟨by rw [g.2 _ _ (fun z => hS _ _ z (Or.inr ⟨rfl, rfl⟩))]; exact h.1, fun i hi => by rw [g.2 _ _ (fun z => hS _ _ z (Or.inl rfl))]; exact h.2 i hi⟩
theorem sSb_W : ∀ c j, sSb X c j → ¬ (c = X + 83 ∨ (c = X + 49 ∧ j = 57)) := by intro c j h; unfold sSb at h; omega
theorem r223 (hX : sm_Lay C X) (hW : WB X l E) (hl : l.length ≤ 80) {k : Nat} (hk : k < 1000) : sm_fe C 223 [.ref (X + 49), .int (ni k)] E = some (.inl (some (.int (md_b (md_mr (md_nth l k))))), E) := by
  apply sw_eq
  refine sw_ge (f223 hX) ?_
  simp (disch := omega) only [sw_ite, sw_some, hW.1, ni_le, nar_b0, nar_b1, sw_gu, ni_in, ni_nat, sw_bi, r157, sb_i, md_b_0]
  by_cases hkl : k < l.length
  · rw [if_neg (by omega), hW.2 k hkl]
    refine ⟨decide_eq_true (by omega), ?_⟩
    unfold md_mr
    cases md_in (md_nth l k) 128 191 <;> rfl
  · rw [if_pos (by omega), md_nth_ge (by omega), md_mr_k]
    rfl
theorem r224 (hX : sm_Lay C X) (hW : WB X l E) (hl : l.length ≤ 80) (hby : md_by l) {k : Nat} (hk : k < l.length) : sm_fe C 224 [.ref (X + 49), .int (ni k)] E = some (.inl (some (.int (ni (md_nat (md_nth l k) % 64)))), E) := by
  obtain ⟨n, hn, e⟩ := hby _ (List.getElem_mem hk)
  rw [← md_nth_get hk] at e
  apply sw_eq
  refine sw_ge (f224 hX) ?_
  simp (disch := omega) only [sw_some, sw_gu, ni_in, ni_nat, hW.2 k hk]
  rw [e, ni_m63, md_nat_ni (by omega)]
  exact ⟨decide_eq_true (by omega), rfl⟩
theorem md_mr_lt {k : Nat} (h : md_mr (md_nth l k) = true) : k < l.length := by
  rcases Nat.lt_or_ge k l.length with g | g
  · exact g
  · rw [md_nth_ge g, md_mr_k] at h; cases h
theorem r222_2 (hX : sm_Lay C X) (hl : l.length ≤ 75) (hby : md_by l) {cs : Nat} (hcs : cs < 3) {D0 : sm_D} : ∀ (m i : Nat) (pts : List Int32) (E : sm_D), l.length - i ≤ m → i ≤ l.length + 3 → WB X l E → E.1 (X + 49) 59 = ni cs → SUB X pts E → pts.length + (l.length - i) ≤ 8000 → fr (sSb X) D0 E →
    (∀ E', fr (sSb X) D0 E' → SUB X (pts ++ md_pts cs l m i) E' → Q (.inl none) E') →
    sw (sm_fx C 222 2 [.ref (X + 49), .int (ni i), sm_junk, sm_junk, sm_junk, sm_junk, sm_junk] [] E) Q := by
  intro m
  induction m with
  | zero =>
    intro i pts E hm hi hW h59 hS hb hfr hok
    refine sw_ge (n222_2 hX) ?_
    simp (disch := omega) only [sw_ite, hW.1, ni_le, sw_some]
    rw [if_pos (by omega)]
    exact hok E hfr (by unfold md_pts; rw [List.append_nil]; exact hS)
  | succ m ih =>
    intro i pts E hm hi hW h59 hS hb hfr hok
    unfold md_pts at hok
    by_cases hil : i < l.length
    · rw [if_pos hil] at hok
      obtain ⟨bn, hbn, eb⟩ := hby _ (List.getElem_mem hil)
      rw [← md_nth_get hil] at eb
      -- a point, and on
      have go : ∀ (v : Int32) (d : Nat), 1 ≤ d → i + d ≤ l.length + 3 → (∀ E', fr (sSb X) D0 E' → SUB X (pts ++ (v :: md_pts cs l m (i + d))) E' → Q (.inl none) E') → ∀ Q', (∀ E', sw (sm_fx C 222 2 [.ref (X + 49), .int (ni (i + d)), sm_junk, sm_junk, sm_junk, sm_junk, sm_junk] [] E') Q → Q' (.inl none) E') → sw (sm_fe C 221 [.ref (X + 49), .int v] E) Q' := by
        intro v d hd hd2 hok2 Q' hQ'
        refine r221 hX hS (by omega) (fun E2 fr2 S2 => hQ' E2 ?_)
        refine ih (i + d) _ E2 (by omega) hd2 (hW.fr fr2 sSb_W) (by rw [fr2.2 _ _ (by unfold sSb; omega), h59]) S2 (by rw [List.length_append, List.length_singleton]; omega) (hfr.trans fr2) (fun E' hE' hS' => hok2 E' hE' ?_)
        rw [List.append_assoc, List.singleton_append] at hS'
        exact hS'
      refine sw_ge (n222_2 hX) ?_
      simp (disch := omega) only [sw_ite, hW.1, ni_le, sw_gu, ni_in, ni_nat, hW.2 i hil, h59, eb, ni_inj]
      rw [if_neg (by omega)]
      refine ⟨decide_eq_true (by omega), ?_⟩
      by_cases hc2 : cs = 2
      · rw [if_pos hc2] at hok
        rw [if_pos (by omega)]
        have n356 : ∀ (v : Int32) (d : Nat), md_u8 (md_nth l i) (md_nth l (i + 1)) (md_nth l (i + 2)) (md_nth l (i + 3)) = (v, d) → d ≤ 3 → sw (sm_fx C 222 356 [.ref (X + 49), .int (ni i), sm_junk, .int (ni (d + 1)), .int v, sm_junk, sm_junk] [] E) Q := by
          intro v d hu hd
          refine sw_ge (n222_356 hX) ?_
          simp only [sw_bv]
          refine go v (d + 1) (by omega) (by omega) (fun E' hE' hS' => hok E' hE' ?_) _ (fun E' g => ?_)
          · rw [hu, show i + 1 + d = i + (d + 1) from by omega]; exact hS'
          · simp only [sb_v, ni_add]; exact g
        have in1 := md_in_ni (n := bn) (a := 194) (b := 223) (by omega) (by omega) (by omega)
        have in2 := md_in_ni (n := bn) (a := 224) (b := 239) (by omega) (by omega) (by omega)
        have in3 := md_in_ni (n := bn) (a := 240) (b := 244) (by omega) (by omega) (by omega)
        have lt128 : (ni bn < ni 128) = (bn < 128) := ni_lt (by omega) (by omega)
        have nb : md_nat (ni bn) = bn := md_nat_ni (by omega)
        have n71 : ∀ s0 : Int32, (bn < 128 → s0 = ni bn) → (¬ bn < 128 → s0 = ni 65533) → sw (sm_fx C 222 71 [.ref (X + 49), .int (ni i), .int (ni bn), .int (ni 1), sm_junk, sm_junk, sm_junk] [.int s0] E) Q := by
          intro s0 hs1 hs2
          unfold md_u8 at n356
          simp only [eb, lt128, in1, in2, in3, nb] at n356
          have n118 : ¬ ((decide (194 ≤ bn) && decide (bn ≤ 223)) && md_mr (md_nth l (i + 1))) = true → sw (sm_fx C 222 118 [.ref (X + 49), .int (ni i), .int (ni bn), .int (ni 1), .int s0, sm_junk, sm_junk] [] E) Q := by
            intro c1
            have n236 : ¬ ((decide (224 ≤ bn) && decide (bn ≤ 239)) && md_mr (md_nth l (i + 1)) && md_mr (md_nth l (i + 2))) = true → sw (sm_fx C 222 236 [.ref (X + 49), .int (ni i), .int (ni bn), .int (ni 1), .int s0, sm_junk, sm_junk] [] E) Q := by
              intro c2
              have fin : ¬ ((decide (240 ≤ bn) && decide (bn ≤ 244)) && md_mr (md_nth l (i + 1)) && md_mr (md_nth l (i + 2)) && md_mr (md_nth l (i + 3))) = true → sw (sm_fx C 222 356 [.ref (X + 49), .int (ni i), sm_junk, .int (ni 1), .int s0, sm_junk, sm_junk] [] E) Q := by
                intro c4
                refine n356 s0 0 ?_ (by omega)
                by_cases g : bn < 128
                · rw [if_pos g, hs1 g]
                · rw [if_neg g, if_neg c1, if_neg c2, if_neg c4, hs2 g]
              refine sw_ge (n222_236 hX) ?_
              simp (disch := omega) only [sw_bi, r157, in3, sw_some, sb_i, sw_ite, md_b_0, ni_add, r223 hX hW (show l.length ≤ 80 by omega) (show i + 1 < 1000 by omega), r223 hX hW (show l.length ≤ 80 by omega) (show i + 2 < 1000 by omega), r223 hX hW (show l.length ≤ 80 by omega) (show i + 3 < 1000 by omega)]
              cases q1 : (decide (240 ≤ bn) && decide (bn ≤ 244))
              · rw [if_pos rfl]; exact fin (by rw [q1]; exact fun g => nomatch g)
              rw [if_neg (fun g => nomatch g)]
              cases q2 : md_mr (md_nth l (i + 1))
              · rw [if_pos rfl]; exact fin (by rw [q1, q2]; exact fun g => nomatch g)
              rw [if_neg (fun g => nomatch g)]
              cases q3 : md_mr (md_nth l (i + 2))
              · rw [if_pos rfl]; exact fin (by rw [q1, q2, q3]; exact fun g => nomatch g)
              rw [if_neg (fun g => nomatch g)]
              cases q4 : md_mr (md_nth l (i + 3))
              · rw [if_pos rfl]; exact fin (by rw [q1, q2, q3, q4]; exact fun g => nomatch g)
              rw [if_neg (fun g => nomatch g)]
              have l3 := md_mr_lt q4
              simp only [r224 hX hW (show l.length ≤ 80 by omega) hby (show i + 1 < l.length by omega), r224 hX hW (show l.length ≤ 80 by omega) hby (show i + 2 < l.length by omega), r224 hX hW (show l.length ≤ 80 by omega) hby l3, sw_some, sb_i, s31_18, s31_12, s31_6, sw_bi, show (65536 : Int32) = ni 65536 from rfl, show (1114111 : Int32) = ni 1114111 from rfl, r157, sw_ite, md_b_0]
              have x1 : md_nat (md_nth l (i + 1)) % 64 < 64 := Nat.mod_lt _ (by omega)
              have x2 : md_nat (md_nth l (i + 2)) % 64 < 64 := Nat.mod_lt _ (by omega)
              have x3 : md_nat (md_nth l (i + 3)) % 64 < 64 := Nat.mod_lt _ (by omega)
              have hb1 : ¬ bn < 128 := by simp only [Bool.and_eq_true, decide_eq_true_eq] at q1; omega
              rw [q1, q2, q3, q4] at n356
              rw [q2] at c1
              rw [q2, q3] at c2
              simp only [hb1, if_false] at n356
              generalize md_nat (md_nth l (i + 1)) % 64 = y1 at x1 n356 ⊢
              generalize md_nat (md_nth l (i + 2)) % 64 = y2 at x2 n356 ⊢
              generalize md_nat (md_nth l (i + 3)) % 64 = y3 at x3 n356 ⊢
              have hw : ((ni bn &&& ni 7) <<< ni 18 ||| ni y1 <<< ni 12 ||| ni y2 <<< ni 6) ||| ni y3 = ni (((bn % 8 * 64 + y1) * 64 + y2) * 64 + y3) := by
                have hm8 : bn % 8 < 8 := Nat.mod_lt _ (by omega)
                rw [ni_m7, ni_shl _ 18 (by decide) (by omega), ni_shl y1 12 (by decide) (by omega), ni_shl y2 6 (by decide) (by omega)]
                rw [ni_orp (k := 18) (show y1 * 2 ^ 12 < 2 ^ 18 by omega)]
                rw [show bn % 8 * 2 ^ 18 + y1 * 2 ^ 12 = (bn % 8 * 64 + y1) * 2 ^ 12 by omega, ni_orp (k := 12) (show y2 * 2 ^ 6 < 2 ^ 12 by omega)]
                rw [show (bn % 8 * 64 + y1) * 2 ^ 12 + y2 * 2 ^ 6 = ((bn % 8 * 64 + y1) * 64 + y2) * 2 ^ 6 by omega, ni_orp (k := 6) (show y3 < 2 ^ 6 by omega)]
              rw [hw]
              have c1' : ¬ (decide (194 ≤ bn) && decide (bn ≤ 223) && true) = true := c1
              have c2' : ¬ (decide (224 ≤ bn) && decide (bn ≤ 239) && true && true) = true := c2
              rw [if_neg c1', if_neg c2'] at n356
              simp only [Bool.and_true, if_true] at n356
              rw [md_in_ni (by omega) (by omega) (by omega)]
              by_cases c5 : 65536 ≤ ((bn % 8 * 64 + y1) * 64 + y2) * 64 + y3 ∧ ((bn % 8 * 64 + y1) * 64 + y2) * 64 + y3 ≤ 1114111
              · rw [if_pos c5] at n356
                rw [decide_eq_true c5.1, decide_eq_true c5.2, if_neg (fun g => nomatch g)]
                refine sw_ge (n222_343 hX) ?_
                simp only [sw_ite, show md_b (true && true) = ni 1 from rfl, ni_10, if_false]
                refine sw_ge (n222_355 hX) ?_
                exact n356 _ 3 rfl (by omega)
              · rw [if_neg c5] at n356
                have hf : (decide (65536 ≤ ((bn % 8 * 64 + y1) * 64 + y2) * 64 + y3) && decide (((bn % 8 * 64 + y1) * 64 + y2) * 64 + y3 ≤ 1114111)) = false := by
                  cases hh : (decide (65536 ≤ ((bn % 8 * 64 + y1) * 64 + y2) * 64 + y3) && decide (((bn % 8 * 64 + y1) * 64 + y2) * 64 + y3 ≤ 1114111))
                  · rfl
                  · rw [Bool.and_eq_true, decide_eq_true_eq, decide_eq_true_eq] at hh; exact absurd hh c5
                rw [hf, if_pos rfl]
                refine sw_ge (n222_343 hX) ?_
                simp only [sw_ite, show md_b false = ni 0 from rfl, if_true]
                refine sw_ge (n222_355 hX) ?_
                exact n356 _ 0 (by rw [hs2 hb1]) (by omega)
            refine sw_ge (n222_118 hX) ?_
            simp (disch := omega) only [sw_bi, r157, in2, sw_some, sb_i, sw_ite, md_b_0, ni_add, r223 hX hW (show l.length ≤ 80 by omega) (show i + 1 < 1000 by omega), r223 hX hW (show l.length ≤ 80 by omega) (show i + 2 < 1000 by omega)]
            cases q1 : (decide (224 ≤ bn) && decide (bn ≤ 239))
            · rw [if_pos rfl]; exact n236 (by rw [q1]; exact fun g => nomatch g)
            rw [if_neg (fun g => nomatch g)]
            cases q2 : md_mr (md_nth l (i + 1))
            · rw [if_pos rfl]; exact n236 (by rw [q1, q2]; exact fun g => nomatch g)
            rw [if_neg (fun g => nomatch g)]
            cases q3 : md_mr (md_nth l (i + 2))
            · rw [if_pos rfl]; exact n236 (by rw [q1, q2, q3]; exact fun g => nomatch g)
            rw [if_neg (fun g => nomatch g)]
            have l2 := md_mr_lt q3
            simp only [r224 hX hW (show l.length ≤ 80 by omega) hby (show i + 1 < l.length by omega), r224 hX hW (show l.length ≤ 80 by omega) hby l2, sw_some, sb_i, s31_12, s31_6, sw_bi, sw_ite, show (55296 : Int32) = ni 55296 from rfl, show (57343 : Int32) = ni 57343 from rfl, r157, md_b_0]
            have x1 : md_nat (md_nth l (i + 1)) % 64 < 64 := Nat.mod_lt _ (by omega)
            have x2 : md_nat (md_nth l (i + 2)) % 64 < 64 := Nat.mod_lt _ (by omega)
            have hb1 : ¬ bn < 128 := by simp only [Bool.and_eq_true, decide_eq_true_eq] at q1; omega
            rw [q1, q2, q3] at n356
            rw [q2] at c1
            simp only [hb1, if_false] at n356
            generalize md_nat (md_nth l (i + 1)) % 64 = y1 at x1 n356 ⊢
            generalize md_nat (md_nth l (i + 2)) % 64 = y2 at x2 n356 ⊢
            have hw : (ni bn &&& ni 15) <<< ni 12 ||| ni y1 <<< ni 6 ||| ni y2 = ni ((bn % 16 * 64 + y1) * 64 + y2) := by
              have hm8 : bn % 16 < 16 := Nat.mod_lt _ (by omega)
              rw [ni_m15, ni_shl _ 12 (by decide) (by omega), ni_shl y1 6 (by decide) (by omega)]
              rw [ni_orp (k := 12) (show y1 * 2 ^ 6 < 2 ^ 12 by omega)]
              rw [show bn % 16 * 2 ^ 12 + y1 * 2 ^ 6 = (bn % 16 * 64 + y1) * 2 ^ 6 by omega, ni_orp (k := 6) (show y2 < 2 ^ 6 by omega)]
            rw [hw]
            have c1' : ¬ (decide (194 ≤ bn) && decide (bn ≤ 223) && true) = true := c1
            rw [if_neg c1'] at n356
            simp only [Bool.and_true, if_true] at n356
            rw [md_in_ni (by omega) (by omega) (by omega)]
            have hlt2 : (ni ((bn % 16 * 64 + y1) * 64 + y2) < ni 2048) = ((bn % 16 * 64 + y1) * 64 + y2 < 2048) := ni_lt (by omega) (by omega)
            simp only [hlt2]
            have bad : ¬ (2048 ≤ (bn % 16 * 64 + y1) * 64 + y2 ∧ ¬ (55296 ≤ (bn % 16 * 64 + y1) * 64 + y2 ∧ (bn % 16 * 64 + y1) * 64 + y2 ≤ 57343)) → sw (sm_fx C 222 205 [.ref (X + 49), .int (ni i), sm_junk, sm_junk, .int s0, .int (ni ((bn % 16 * 64 + y1) * 64 + y2)), sm_junk] [] E) Q := by
              intro g
              rw [if_neg g] at n356
              refine sw_ge (n222_205 hX) ?_
              refine sw_ge (n222_206 hX) ?_
              simp only [sw_ite, if_true]
              refine sw_ge (n222_220 hX) ?_
              simp only [sw_ite, if_true]
              exact n356 _ 0 (by rw [hs2 hb1]) (by omega)
            by_cases d1 : (bn % 16 * 64 + y1) * 64 + y2 < 2048
            · rw [if_pos d1]; exact bad (fun g => by omega)
            · rw [if_neg d1]
              by_cases d2 : 55296 ≤ (bn % 16 * 64 + y1) * 64 + y2 ∧ (bn % 16 * 64 + y1) * 64 + y2 ≤ 57343
              · rw [decide_eq_true d2.1, decide_eq_true d2.2, if_neg (fun g => nomatch g)]
                exact bad (fun g => g.2 d2)
              · have hf : (decide (55296 ≤ (bn % 16 * 64 + y1) * 64 + y2) && decide ((bn % 16 * 64 + y1) * 64 + y2 ≤ 57343)) = false := by
                  cases hh : (decide (55296 ≤ (bn % 16 * 64 + y1) * 64 + y2) && decide ((bn % 16 * 64 + y1) * 64 + y2 ≤ 57343))
                  · rfl
                  · rw [Bool.and_eq_true, decide_eq_true_eq, decide_eq_true_eq] at hh; exact absurd hh d2
                rw [hf, if_pos rfl]
                rw [if_pos ⟨by omega, d2⟩] at n356
                refine sw_ge (n222_206 hX) ?_
                simp only [sw_ite, ni_10, if_false]
                refine sw_ge (n222_220 hX) ?_
                simp only [sw_ite, ni_10, if_false]
                exact n356 _ 2 rfl (by omega)
          refine sw_ge (n222_71 hX) ?_
          simp (disch := omega) only [sw_bi, r157, in1, sw_some, sb_i, sw_ite, md_b_0, ni_add, r223 hX hW (show l.length ≤ 80 by omega) (show i + 1 < 1000 by omega)]
          cases q1 : (decide (194 ≤ bn) && decide (bn ≤ 223))
          · rw [if_pos rfl]; exact n118 (by rw [q1]; exact fun g => nomatch g)
          rw [if_neg (fun g => nomatch g)]
          cases q2 : md_mr (md_nth l (i + 1))
          · rw [if_pos rfl]; exact n118 (by rw [q1, q2]; exact fun g => nomatch g)
          rw [if_neg (fun g => nomatch g)]
          have l1 := md_mr_lt q2
          have hb1 : ¬ bn < 128 := by simp only [Bool.and_eq_true, decide_eq_true_eq] at q1; omega
          simp only [r224 hX hW (show l.length ≤ 80 by omega) hby l1, sw_some, sb_i, s31_6]
          rw [q1, q2] at n356
          simp only [hb1, if_false] at n356
          have x1 : md_nat (md_nth l (i + 1)) % 64 < 64 := Nat.mod_lt _ (by omega)
          rw [ni_m31, ni_or6 x1]
          exact n356 _ 1 rfl (by omega)
        by_cases g128 : bn < 128
        · rw [if_neg (by omega)]
          exact n71 _ (fun _ => rfl) (fun g => absurd g128 g)
        · rw [if_pos (by omega)]
          exact n71 _ (fun g => absurd g g128) (fun _ => rfl)
      · rw [if_neg hc2] at hok
        rw [if_neg (by omega)]
        have n46 : ∀ v : Int32, v = (if cs = 0 ∧ ni 127 < md_nth l i then ni 65533 else md_nth l i) → sw (sm_fx C 222 46 [.ref (X + 49), .int (ni i), sm_junk, sm_junk, sm_junk, sm_junk, sm_junk] [.int v, .ref (X + 49)] E) Q := by
          intro v hv
          refine sw_ge (n222_46 hX) ?_
          simp only [sw_bv]
          refine go v 1 (by omega) (by omega) (fun E' hE' hS' => hok E' hE' (by rw [← hv]; exact hS')) _ (fun E' g => ?_)
          simp only [sb_v, ni_add]; exact g
        have n45 : ¬ (cs = 0 ∧ ni 127 < md_nth l i) → sw (sm_fx C 222 45 [.ref (X + 49), .int (ni i), .int (ni bn), sm_junk, sm_junk, sm_junk, sm_junk] [.ref (X + 49)] E) Q := by
          intro g
          refine sw_ge (n222_45 hX) ?_
          exact n46 _ (by rw [if_neg g, eb])
        by_cases hc0 : cs = 0
        · rw [if_pos hc0]
          by_cases h127 : bn ≤ 127
          · rw [if_pos h127]
            exact n45 (fun g => by rw [eb, ni_lt (by omega) (by omega)] at g; omega)
          · rw [if_neg h127]
            exact n46 _ (by rw [if_pos ⟨hc0, by rw [eb, ni_lt (by omega) (by omega)]; omega⟩]; rfl)
        · rw [if_neg hc0]
          exact n45 (fun g => hc0 g.1)
    · rw [if_neg hil, List.append_nil] at hok
      refine sw_ge (n222_2 hX) ?_
      simp (disch := omega) only [sw_ite, hW.1, ni_le, sw_some]
      rw [if_pos (by omega)]
      exact hok E hfr hS
end RGT
