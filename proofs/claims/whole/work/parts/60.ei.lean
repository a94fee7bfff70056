section CRG
variable {C : sm_K} {X t N e p : Nat} {T T0 : Nat → Int32} {Q : (Option Value ⊕ Nat) → sm_D → Prop}
theorem md_sl_len {P : Nat → Int32} {a b : Nat} : (md_sl P a b).length = b - a := by unfold md_sl; rw [List.length_map, List.length_range]
theorem md_sl_snoc {P : Nat → Int32} {a b : Nat} (h : a ≤ b) : md_sl P a (b + 1) = md_sl P a b ++ [P b] := by
  unfold md_sl
  rw [show b + 1 - a = (b - a) + 1 from by omega, List.range_succ, List.map_append]
  congr 1
  show [P (a + (b - a))] = _
  rw [show a + (b - a) = b from by omega]
theorem c53 {D : sm_D} (h : cH C X t T N D) {f g : Nat → Int32} {σ : Nat → List Int32} {i n tot a c : Nat} {fs : List md_F} {pl : List Int32} (hn : D.1 t 11 = ni n) (hn40 : n ≤ 40) (hi : i < n) (hF : FS t D i tot fs) (hF2 : tot + fs.length < 200) (hS : SL f g pl σ) (hac : a ≤ c) (hc : c ≤ N) (hpl : pl.length + (c - a) ≤ 16400)
    (hok : ¬ (0 < md_kd T i a (c - a) ∧ fs.any (fun g => g.1 == md_kd T i a (c - a)) = true) → Q (.inl none) (cs X t T0 e (ts t (sm_dI (sm_dI (sm_dI D (t + 11) (tot + fs.length) (ni (md_kd T i a (c - a)))) t 12 (ni (tot + fs.length + 1))) (t + 7) i (ni (fs.length + 1))) (up1 f (2 * (tot + fs.length)) (ni pl.length)) (up1 g (2 * (tot + fs.length)) (ni (md_sl T a c).length))) p (pl ++ md_sl T a c)))
    (her : (0 < md_kd T i a (c - a) ∧ fs.any (fun g => g.1 == md_kd T i a (c - a)) = true) → ∀ z D', cT X t D a z D' → Q (.inr z) D') :
    sw (sm_fe C 53 [.ref (X + 4), .ref t, .int (ni i), .int (ni a), .int (ni c)] (cs X t T0 e (ts t D f g) p pl)) Q := by
  have hX := h.1
  have ht := h.2.1
  have tr := (sm_tree_of hX ht).1
  have hN := h.2.2.2.1
  have hkd : md_kd T i a (c - a) ≤ 6 := md_kd_le
  have r : ∀ {pl : List Int32} (a j), a ≠ X + 1 → a ≠ t + 1 → a ≠ t + 2 → a ≠ t + 3 → a ≠ t + 4 → (cs X t T0 e (ts t D f g) p pl).1 a j = D.1 a j := fun a j h1 h2 h3 h4 h5 => by
    rw [cs_o h1 h2 h3, ts_o h4 h5]
  have hn' : ∀ {pl : List Int32}, (cs X t T0 e (ts t D f g) p pl).1 t 11 = ni n := by
    intro pl; rw [r _ _ (by omega) (by omega) (by omega) (by omega) (by omega), hn]
  have h55 : ¬ (0 < md_kd T i a (c - a) ∧ fs.any (fun g => g.1 == md_kd T i a (c - a)) = true) → ∀ (m q : Nat), q + m = c → a ≤ q → sw (sm_fx C 53 55 [.ref (X + 4), .ref t, .int (ni i), sm_junk, .int (ni c), .int (ni (md_kd T i a (c - a))), .int (ni pl.length), .int (ni q)] [] (cs X t T0 e (ts t D f g) p (pl ++ md_sl T a q))) Q := by
    intro hno m
    induction m with
    | zero =>
      intro q hq haq
      have hqc : q = c := by omega
      subst hqc
      have hq := hok hno
      refine sw_ge (n53_55 hX tr) ?_
      have e12 : ∀ {pl : List Int32}, (cs X t T0 e (ts t D f g) p pl).1 t 12 = ni (tot + fs.length) := by
        intro pl; rw [r _ _ (by omega) (by omega) (by omega) (by omega) (by omega), hF.2.2.1]
      simp (disch := omega) only [sw_ite, ni_le, sw_bi, e12, c130, Nat.add_zero, sw_some, sb_i, sw_bv]
      rw [if_pos (Nat.le_refl _), c131 h (by omega) (by rw [List.length_append]; omega), sw_some, List.length_append, Nat.add_sub_cancel_left]
      simp only [sb_v]
      rw [c132 tr (n := n) (F := tot + fs.length) (m := fs.length) (by rw [cs_o (by omega) (by omega) (by omega), ts_o (by omega) (by omega), hn]) hn40 hi (by rw [cs_o (by omega) (by omega) (by omega), ts_o (by omega) (by omega), hF.2.2.1]) hF2 (by rw [cs_o (by omega) (by omega) (by omega), ts_o (by omega) (by omega), hF.2.1]), sw_bv, sw_some]
      simp only [sb_v, sw_some]
      rw [dI_cs (by omega) (by omega) (by omega), dI_ts (by omega) (by omega), dI_cs (by omega) (by omega) (by omega), dI_ts (by omega) (by omega), dI_cs (by omega) (by omega) (by omega), dI_ts (by omega) (by omega)]
      exact hq
    | succ m ih =>
      intro q hq haq
      refine sw_ge (n53_55 hX tr) ?_
      simp (disch := omega) only [sw_ite, ni_le, sw_bi, c42b (cH_ts h) (show q < N by omega), sw_some, sb_i, sw_bv, c44 (cH_ts h) (show (pl ++ md_sl T a q).length < 16400 by rw [List.length_append, md_sl_len]; omega), sb_v, ni_add]
      rw [if_neg (by omega), List.append_assoc, ← md_sl_snoc haq]
      exact ih (q + 1) (by omega) (by omega)
  have h43 : ¬ (0 < md_kd T i a (c - a) ∧ fs.any (fun g => g.1 == md_kd T i a (c - a)) = true) → sw (sm_fx C 53 43 [.ref (X + 4), .ref t, .int (ni i), .int (ni a), .int (ni c), .int (ni (md_kd T i a (c - a))), sm_junk, sm_junk] [] (cs X t T0 e (ts t D f g) p pl)) Q := by
    intro hno
    refine sw_ge (n53_43 hX tr) ?_
    rw [cs_p ht]
    have := h55 hno (c - a) a (by omega) (Nat.le_refl _)
    have e0 : md_sl T a a = [] := by unfold md_sl; rw [Nat.sub_self]; rfl
    rw [e0, List.append_nil] at this
    exact this
  have h15 : sw (sm_fx C 53 15 [.ref (X + 4), .ref t, .int (ni i), .int (ni a), .int (ni c), sm_junk, sm_junk, sm_junk] [.int (md_b (decide (i = 0))), .int (ni (c - a)), .int (ni a), .ref (X + 4)] (cs X t T0 e (ts t D f g) p pl)) Q := by
    refine sw_ge (n53_15 hX tr) ?_
    simp (disch := omega) only [sw_bi, c54 (cH_ts h) (show a + (c - a) ≤ N by omega), sw_some, sb_i, sw_ite, ni_le]
    by_cases h0 : md_kd T i a (c - a) ≤ 0
    · rw [if_pos h0]
      exact h43 (fun z => by omega)
    · rw [if_neg h0, c127 tr hn' hn40 hi (FS_cs ht hF) hkd, sw_some]
      simp only [sb_i, sw_ite, md_b_0, sw_bv]
      cases hb : fs.any (fun g => g.1 == md_kd T i a (c - a))
      · rw [if_pos rfl]
        exact h43 (fun z => by rw [hb] at z; exact nomatch z.2)
      · rw [if_neg (fun z => nomatch z)]
        exact c29 hX (cF_ts.trans cF_cs) (fun z D' hT => ⟨hT.tw, her ⟨by omega, hb⟩ z D' hT⟩)
  refine sw_ge (f53 hX tr) ?_
  simp (disch := omega) only [sw_ite, ni_inj, ni_sub hac]
  by_cases hi0 : i = 0
  · rw [if_pos hi0]
    rw [decide_eq_true hi0] at h15
    exact h15
  · rw [if_neg hi0]
    rw [decide_eq_false hi0] at h15
    exact h15
/-- the places of the fields read latest -/
def CO (X : Nat) (D : sm_D) (fs : List md_F) : Prop := ∀ j h, fs[j]? = some h → D.1 (X + 5) j = ni h.2.2.1 ∧ D.1 (X + 6) j = ni h.2.2.2
/-- names and texts of fields in their slots -/
def NS (T : Nat → Int32) (tot : Nat) (fs : List md_F) (σ : Nat → List Int32) : Prop := ∀ j h, fs[j]? = some h → σ (2 * (tot + j)) = md_sl T h.2.1 h.2.2.1 ∧ σ (2 * (tot + j) + 1) = md_chs T h.2.2.2 (md_go T h.2.2.2 (h.2.2.1 + 1))
/-- a field's places stand right -/
def FW (T : Nat → Int32) (b : Nat) (h : md_F) : Prop := h.2.1 < h.2.2.1 ∧ h.2.2.1 < h.2.2.2 ∧ h.2.2.2 < b ∧ ∀ q, h.2.2.1 + 1 ≤ q → q < h.2.2.2 → T q = ni 13 → q + 2 < h.2.2.2 ∧ md_bl (T (q + 2)) = true
def cN (X t i tot : Nat) (D E : sm_D) : Prop := E.2 = D.2 ∧ ∀ a j, ¬ (a = X + 5 ∨ a = X + 6 ∨ (a = t + 7 ∧ j = i) ∨ (a = t + 11 ∧ tot ≤ j) ∨ (a = t ∧ j = 12)) → E.1 a j = D.1 a j
theorem cN.refl {i tot : Nat} (D : sm_D) : cN X t i tot D D := ⟨rfl, fun _ _ _ => rfl⟩
theorem cN.trans {i tot : Nat} {D E F : sm_D} (h : cN X t i tot D E) (g : cN X t i tot E F) : cN X t i tot D F := ⟨g.1.trans h.1, fun a j ha => (g.2 a j ha).trans (h.2 a j ha)⟩
theorem cN.dI {i tot a j : Nat} {v : Int32} {D E : sm_D} (h : cN X t i tot D E) (ha : a = X + 5 ∨ a = X + 6 ∨ (a = t + 7 ∧ j = i) ∨ (a = t + 11 ∧ tot ≤ j) ∨ (a = t ∧ j = 12)) : cN X t i tot D (sm_dI E a j v) := ⟨h.1, fun b k hb => by rw [dI_ne (fun z => hb (by rw [z.1, z.2]; exact ha))]; exact h.2 b k hb⟩
theorem cN.cF {i tot : Nat} {D E : sm_D} (h : cN X t i tot D E) : cF X t D E := by
  refine ⟨by rw [h.1], fun a ha => ?_, fun a _ => by rw [h.1]⟩
  funext j
  unfold cR at ha
  exact h.2 a j (by omega)
theorem cN.cH {i tot : Nat} {D E : sm_D} (h : cN X t i tot D E) (g : cH C X t T N D) : cH C X t T N E := by
  obtain ⟨h1, h2, h3, h4, h5, h6, h7⟩ := g
  exact ⟨h1, h2, h3, h4, by rw [h.2 _ _ (by omega)]; exact h5, fun i hi => by rw [h.2 _ _ (by omega)]; exact h6 i hi, h7⟩
theorem c50_6 {D0 : sm_D} {σ0 : Nat → List Int32} (hL : LN T N) {i n tot b : Nat} (hn40 : n ≤ 40) (hi : i < n) (hb : b ≤ N) : ∀ (m : Nat) (D : sm_D) (f g : Nat → Int32) (σ : Nat → List Int32) (q : Nat) (pl : List Int32) (fs : List md_F), fs.length + m = 20 → cH C X t T N D → cN X t i tot D0 D → D.1 t 11 = ni n → FS t D i tot fs → CO X D fs → NS T tot fs σ → (∀ h ∈ fs, FW T b h) → (∀ k, ¬ (2 * tot ≤ k ∧ k < 2 * (tot + fs.length)) → σ k = σ0 k) → SL f g pl σ → q ≤ b + 2 → pl.length + (b + 2 - q) ≤ 16400 →
    (∀ fs' body, md_fs T i b tot fs q = .ok (fs', body) → ∀ D' f' g' pl' σ', cN X t i tot D0 D' → FS t D' i tot fs' → CO X D' fs' → NS T tot fs' σ' → (∀ h ∈ fs', FW T b h) → SL f' g' pl' σ' → (∀ k, ¬ (2 * tot ≤ k ∧ k < 2 * (tot + fs'.length)) → σ' k = σ0 k) → q ≤ body → body ≤ b + 1 → pl'.length + q ≤ pl.length + body → Q (.inl (some (.int (ni body)))) (cs X t T0 e (ts t D' f' g') p pl')) →
    (∀ x z D', md_fs T i b tot fs q = .error x → cT X t D0 x z D' → Q (.inr z) D') →
    sw (sm_fx C 50 6 [.ref (X + 4), .ref t, .int (ni i), sm_junk, .int (ni b), .int (ni q), .int (ni fs.length), sm_junk, sm_junk] [] (cs X t T0 e (ts t D f g) p pl)) Q := by
  intro m
  induction m with
  | zero =>
    intro D f g σ q pl fs hm h hcN hn hF hC hNS hW hoff hS hq hpl hok her
    have hX := h.1
    have ht := h.2.1
    have tr := (sm_tree_of hX ht).1
    have hN := h.2.2.2.1
    rw [md_fs] at hok her
    refine sw_ge (n50_6 hX tr) ?_
    simp (disch := omega) only [sw_ite, ni_lt, sw_bv]
    rw [if_neg (by omega)]
    by_cases hqb : q < b
    · rw [if_pos hqb] at hok her
      rw [if_pos hqb]
      refine sw_ge (n50_29 hX tr) ?_
      simp (disch := omega) only [sw_bi, c42b (cH_ts h) (show q < N by omega), sw_some, sb_i, sw_ite, ni_inj, ni_add]
      by_cases h13 : T q = ni 13
      · rw [if_pos h13]
        rw [if_pos h13] at hok
        exact hok fs (q + 2) rfl D f g pl σ hcN hF hC hNS hW hS hoff (by omega) (by omega) (by omega)
      · rw [if_neg h13, if_pos (by omega)]
        rw [if_neg h13, dif_pos (Or.inl (by omega))] at her
        refine sw_ge (n50_66 hX tr) ?_
        simp only [sw_bv]
        exact c29 hX ((hcN.cF.trans cF_ts).trans cF_cs) (fun z D' hT => ⟨hT.tw, her q z D' rfl hT⟩)
    · rw [if_neg hqb] at her
      rw [if_neg hqb]
      exact c29 hX ((hcN.cF.trans cF_ts).trans cF_cs) (fun z D' hT => ⟨hT.tw, her b z D' rfl hT⟩)
  | succ m ih =>
    intro D f g σ q pl fs hm h hcN hn hF hC hNS hW hoff hS hq hpl hok her
    have hX := h.1
    have ht := h.2.1
    have tr := (sm_tree_of hX ht).1
    have hN := h.2.2.2.1
    rw [md_fs] at hok her
    refine sw_ge (n50_6 hX tr) ?_
    simp (disch := omega) only [sw_ite, ni_lt, sw_bv]
    rw [if_neg (by omega)]
    by_cases hqb : q < b
    · rw [if_pos hqb] at hok her
      rw [if_pos hqb]
      have e12 : (cs X t T0 e (ts t D f g) p pl).1 t 12 = ni (tot + fs.length) := by
        rw [cs_o (by omega) (by omega) (by omega), ts_o (by omega) (by omega), hF.2.2.1]
      have hF4 := hF.2.2.2.1
      refine sw_ge (n50_29 hX tr) ?_
      simp (disch := omega) only [sw_bi, c42b (cH_ts h) (show q < N by omega), sw_some, sb_i, sw_ite, ni_inj, ni_add, e12, ni_lt]
      by_cases h13 : T q = ni 13
      · rw [if_pos h13]
        rw [if_pos h13] at hok
        exact hok fs (q + 2) rfl D f g pl σ hcN hF hC hNS hW hS hoff (by omega) (by omega) (by omega)
      · rw [if_neg h13, if_neg (by omega)]
        rw [if_neg h13] at hok her
        by_cases h200 : tot + fs.length < 200
        · rw [if_pos h200]
          rw [dif_neg (by omega)] at hok her
          refine sw_ge (n50_75 hX tr) ?_
          simp only [sw_bi]
          refine c51 (cH_ts h) hb hqb (fun c h1 => ?_) (fun x z D' h1 hT => ⟨hT.tw, her x z D' (by rw [h1]) ((hT.of cF_ts).of hcN.cF)⟩)
          rw [h1] at hok her
          dsimp only at hok her
          obtain ⟨c1, c2, c3, c4, c5⟩ := (md_nm_ok (Nat.le_refl _) h1).resolve_right (by omega)
          simp only [sb_i, sw_bv]
          refine c53 h hn hn40 hi hF h200 hS (by omega) (by omega) (by omega) (fun hno => ?_) (fun hyes z D' hT => ⟨hT.tw, her q z D' (by rw [if_pos hyes]) (hT.of hcN.cF)⟩)
          rw [if_neg hno] at hok her
          have n3 : cN X t i tot D0 (sm_dI (sm_dI (sm_dI D (t + 11) (tot + fs.length) (ni (md_kd T i q (c - q)))) t 12 (ni (tot + fs.length + 1))) (t + 7) i (ni (fs.length + 1))) := ((hcN.dI (by omega)).dI (by omega)).dI (by omega)
          have n3' : cN X t i tot D (sm_dI (sm_dI (sm_dI D (t + 11) (tot + fs.length) (ni (md_kd T i q (c - q)))) t 12 (ni (tot + fs.length + 1))) (t + 7) i (ni (fs.length + 1))) := (((cN.refl D).dI (by omega)).dI (by omega)).dI (by omega)
          have hS1 := hS.set (ys := md_sl T q c) (2 * (tot + fs.length))
          have hl1 : (pl ++ md_sl T q c).length = pl.length + (c - q) := by rw [List.length_append, md_sl_len]
          simp only [sb_v, sw_bi, ni_add]
          refine c55 (n3'.cH h) hL (F := tot + fs.length + 1) (by rw [dI_ne (by omega), dI_eq]) (by omega) (by omega) hb (by omega) (by rw [hl1]; omega) (fun z h2 => ?_) (fun x z D' h2 hT => ⟨hT.tw, her x z D' (by rw [h2]) (hT.of n3.cF)⟩)
          rw [h2] at hok her
          dsimp only at hok her
          obtain ⟨z1, z2, z3, z4⟩ := md_tx_ok hL hb h2
          have hS2 := hS1.set (ys := md_chs T z (md_go T z (c + 1))) (2 * (tot + fs.length + 1 - 1) + 1)
          rw [Nat.add_sub_cancel] at hS2
          have hcl := md_chs_len (T := T) (z := z) (q := md_go T z (c + 1))
          have hgo : c + 1 ≤ md_go T z (c + 1) := by unfold md_go; split <;> omega
          simp (disch := omega) only [sb_i, sw_gu, ni_in, ni_nat, ni_add, Nat.add_sub_cancel]
          refine ⟨decide_eq_true (by omega), decide_eq_true (by omega), ?_⟩
          rw [dI_cs (by omega) (by omega) (by omega), dI_ts (by omega) (by omega), dI_cs (by omega) (by omega) (by omega), dI_ts (by omega) (by omega)]
          have n5' := (n3'.dI (a := X + 5) (j := fs.length) (v := ni c) (by omega)).dI (a := X + 6) (j := fs.length) (v := ni z) (by omega)
          have hlen : (fs ++ [(md_kd T i q (c - q), q, c, z)]).length = fs.length + 1 := by rw [List.length_append]; rfl
          have get : ∀ j hh, (fs ++ [(md_kd T i q (c - q), q, c, z)])[j]? = some hh → (j < fs.length ∧ fs[j]? = some hh) ∨ (j = fs.length ∧ hh = (md_kd T i q (c - q), q, c, z)) := by
            intro j hh hj
            rcases Nat.lt_or_ge j fs.length with hlt | hge
            · rw [List.getElem?_append_left hlt] at hj
              exact Or.inl ⟨hlt, hj⟩
            · rw [List.getElem?_append_right hge] at hj
              have h0 : j - fs.length = 0 := by
                rcases Nat.eq_zero_or_pos (j - fs.length) with h0 | h0
                · exact h0
                · rw [List.getElem?_eq_none (by rw [List.length_singleton]; omega)] at hj; cases hj
              rw [h0] at hj
              cases hj
              exact Or.inr ⟨by omega, rfl⟩
          obtain ⟨a1, a2, a3, a4, a5, a6⟩ := hF
          have hkd : md_kd T i q (c - q) ≤ 6 := md_kd_le
          have := ih _ _ _ _ (z + 2) _ (fs ++ [(md_kd T i q (c - q), q, c, z)]) (by rw [hlen]; omega) (n5'.cH h) (hcN.trans n5') (by rw [n5'.2 _ _ (by omega), hn]) ⟨by rw [n5'.2 _ _ (by omega), a1], by rw [dI_ne (by omega), dI_ne (by omega), dI_eq, hlen], by rw [dI_ne (by omega), dI_ne (by omega), dI_ne (by omega), dI_eq, hlen]; rfl, by rw [hlen]; omega, by rw [hlen]; omega, fun j hh hj => ?_⟩ (fun j hh hj => ?_) (fun j hh hj => ?_) (fun hh hm2 => ?_) (fun k hk => ?_) hS2 (by omega) ?_ (fun fs' body h3 D' f' g' pl' σ' w1 w2 w3 w4 w5 w6 w7 w8 w9 w10 => hok fs' body h3 D' f' g' pl' σ' w1 w2 w3 w4 w5 w6 w7 (by omega) w9 ?_) her
          · rw [hlen] at this
            exact this
          · rcases get j hh hj with ⟨g1, g2⟩ | ⟨g1, g2⟩
            · rw [dI_ne (by omega), dI_ne (by omega), dI_ne (by omega), dI_ne (by omega), dI_ne (by omega)]
              exact a6 j hh g2
            · rw [dI_ne (by omega), dI_ne (by omega), dI_ne (by omega), dI_ne (by omega), g1, dI_eq, g2]
              exact ⟨rfl, hkd⟩
          · rcases get j hh hj with ⟨g1, g2⟩ | ⟨g1, g2⟩
            · rw [dI_ne (by omega), dI_ne (by omega), dI_ne (by omega), dI_ne (by omega), dI_ne (by omega), dI_ne (by omega), dI_ne (by omega), dI_ne (by omega), dI_ne (by omega), dI_ne (by omega)]
              exact hC j hh g2
            · rw [g1, dI_ne (by omega), dI_eq, dI_eq, g2]
              exact ⟨rfl, rfl⟩
          · rcases get j hh hj with ⟨g1, g2⟩ | ⟨g1, g2⟩
            · unfold up1
              rw [if_neg (by omega), if_neg (by omega), if_neg (by omega), if_neg (by omega)]
              exact hNS j hh g2
            · rw [g1, g2]
              unfold up1
              rw [if_neg (by omega), if_pos rfl, if_pos rfl]
              exact ⟨rfl, rfl⟩
          · rcases List.mem_append.mp hm2 with g1 | g1
            · exact hW hh g1
            · rw [List.mem_singleton] at g1
              rw [g1]
              exact ⟨c2, by dsimp only; omega, z2, fun r h4 h5 h6 => z4 r h4 h5 h6⟩
          · rw [hlen] at hk
            unfold up1
            rw [if_neg (by omega), if_neg (by omega)]
            exact hoff k (by omega)
          · rw [List.length_append, hl1]; omega
          · rw [List.length_append, hl1] at w10
            omega
        · rw [if_neg h200]
          rw [dif_pos (Or.inr (by omega))] at her
          refine sw_ge (n50_66 hX tr) ?_
          simp only [sw_bv]
          exact c29 hX ((hcN.cF.trans cF_ts).trans cF_cs) (fun z D' hT => ⟨hT.tw, her q z D' rfl hT⟩)
    · rw [if_neg hqb] at her
      rw [if_neg hqb]
      exact c29 hX ((hcN.cF.trans cF_ts).trans cF_cs) (fun z D' hT => ⟨hT.tw, her b z D' rfl hT⟩)
end CRG
