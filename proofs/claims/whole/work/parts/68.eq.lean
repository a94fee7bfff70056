section CTU
variable {C : sm_K} {W : List Int32 × List Int32} {X t N : Nat} {T T0 : Nat → Int32} {Q : (Option Value ⊕ Nat) → sm_D → Prop}
def md_W (fs : List md_F) : Nat := (fs.map (fun h => h.2.2.2 - h.2.2.1)).sum
/-- kinds stand once -/
def KD (fs : List md_F) : Prop := fs.Pairwise (fun a b => a.1 = b.1 → a.1 = 0)
theorem sXi {i k : Nat} (hi : i < 40) (h : sX i k) : 400 ≤ k := by unfold sX at h; omega
theorem c56_11 (hM : sm_mv C) {i n dep tot : Nat} {fs0 : List md_F} (hn40 : n ≤ 40) (hi : i < n) (hd : dep < 2147483648) : ∀ (fs : List md_F) (j : Nat) (D : sm_D) (f g : Nat → Int32) (σ : Nat → List Int32) (pl : List Int32) (x : md_X) (T0 : Nat → Int32) (e p : Nat), fs = fs0.drop j → j ≤ fs0.length → cH C X t T N D → D.1 t 11 = ni n → D.1 (X + 14) 6 = ni dep → FS t D i tot fs0 → CO X D fs0 → NS T tot fs0 σ → (∀ h ∈ fs0, FW T N h) → KD fs → SL f g pl σ → TX X t i W D σ x → (∀ h ∈ fs, h.1 = 5 → x.2.2.2.2 false = []) → (∀ h ∈ fs, h.1 = 6 → x.2.2.2.2 true = []) → pl.length + md_W fs + 10 ≤ 16400 →
    (∀ y, md_txts T dep fs x = .ok y → ∀ D' f' g' pl' σ' T0' e' p', cX X t i D D' → SL f' g' pl' σ' → TX X t i W D' σ' y → (∀ k, ¬ sX i k → σ' k = σ k) → pl'.length ≤ pl.length + md_W fs → sw (sm_fx C 56 180 [.ref (X + 4), .ref t, .int (ni i), sm_junk, sm_junk] [] (cs X t T0' e' (ts t D' f' g') p' pl')) Q) →
    (∀ x0 z D', md_txts T dep fs x = .error x0 → cT X t D x0 z D' → Q (.inr z) D') →
    sw (sm_fx C 56 11 [.ref (X + 4), .ref t, .int (ni i), .int (ni j), sm_junk] [] (cs X t T0 e (ts t D f g) p pl)) Q := by
  intro fs
  induction fs with
  | nil =>
    intro j D f g σ pl x T0 e p hfs hj hH hn hdep hF hC hNS hW hKD hS hT h5 h6 hpl hok her
    have hX := hH.1
    have ht := hH.2.1
    have tr := (sm_tree_of hX ht).1
    have hjl : fs0.length ≤ j := by
      have := congrArg List.length hfs
      rw [List.length_drop, List.length_nil] at this
      omega
    have e7 : (cs X t T0 e (ts t D f g) p pl).1 (t + 7) i = ni fs0.length := by rw [cs_o (by omega) (by omega) (by omega), ts_o (by omega) (by omega), hF.2.1]
    have f20 := hF.2.2.2.2.1
    have fin := hok x rfl D f g pl σ T0 e p (cX.refl D) hS hT (fun _ _ => rfl) (by omega)
    refine sw_ge (n56_11 hX tr) ?_
    simp (disch := omega) only [sw_ite, ni_le, sw_gu, ni_in, ni_nat, e7]
    by_cases h20 : 20 ≤ j
    · rw [if_pos h20]; exact fin
    · rw [if_neg h20]
      refine ⟨decide_eq_true (by omega), ?_⟩
      rw [if_pos (by omega)]
      exact fin
  | cons h fs ih =>
    intro j D f g σ pl x T0 e p hfs hj hH hn hdep hF hC hNS hW hKD hS hT h5 h6 hpl hok her
    have hX := hH.1
    have ht := hH.2.1
    have tr := (sm_tree_of hX ht).1
    have hN := hH.2.2.2.1
    have hjl : j < fs0.length := by
      rcases Nat.lt_or_ge j fs0.length with z | z
      · exact z
      · rw [List.drop_of_length_le z] at hfs; cases hfs
    have hcons := List.drop_eq_getElem_cons hjl
    rw [← hfs] at hcons
    injection hcons with hh htl
    have hget : fs0[j]? = some h := by rw [List.getElem?_eq_getElem hjl, hh]
    have hmem : h ∈ fs0 := by rw [hh]; exact List.getElem_mem hjl
    have f20 := hF.2.2.2.2.1
    have f200 := hF.2.2.2.1
    have e7 : (cs X t T0 e (ts t D f g) p pl).1 (t + 7) i = ni fs0.length := by rw [cs_o (by omega) (by omega) (by omega), ts_o (by omega) (by omega), hF.2.1]
    have e5 : (cs X t T0 e (ts t D f g) p pl).1 (X + 5) j = ni h.2.2.1 := by rw [cs_o (by omega) (by omega) (by omega), ts_o (by omega) (by omega), (hC j h hget).1]
    have e6 : (cs X t T0 e (ts t D f g) p pl).1 (X + 6) j = ni h.2.2.2 := by rw [cs_o (by omega) (by omega) (by omega), ts_o (by omega) (by omega), (hC j h hget).2]
    have hn' : (cs X t T0 e (ts t D f g) p pl).1 t 11 = ni n := by rw [cs_o (by omega) (by omega) (by omega), ts_o (by omega) (by omega), hn]
    have hFW := hW h hmem
    obtain ⟨w1, w2, w3, w4⟩ := id hFW
    have hWl : md_W (h :: fs) = (h.2.2.2 - h.2.2.1) + md_W fs := by unfold md_W; rw [List.map_cons, List.sum_cons]
    have hk6 : h.1 ≤ 6 := (hF.2.2.2.2.2 j h hget).2
    unfold md_txts at hok her
    refine sw_ge (n56_11 hX tr) ?_
    simp (disch := omega) only [sw_ite, ni_le, sw_gu, ni_in, ni_nat, e7, sw_bi, c129 tr hn' hn40 hi (FS_cs ht hF) hget, sw_some, sb_i, e5, e6, sw_bv]
    rw [if_neg (by omega)]
    refine ⟨decide_eq_true (by omega), ?_⟩
    rw [if_neg (by omega)]
    refine ⟨decide_eq_true (by omega), decide_eq_true (by omega), ?_⟩
    rw [c30 (cH_ts hH) w2 (by omega) w4, dI_ts (by omega) (by omega), sw_some]
    simp only [sb_v]
    have e66 : (cs X t T h.2.2.2 (ts t (sm_dI D (X + 1) 3 (ni h.2.2.2)) f g) (md_go T h.2.2.2 (h.2.2.1 + 1)) pl).1 (t + 6) i = ni tot := by rw [cs_o (by omega) (by omega) (by omega), ts_o (by omega) (by omega), dI_ne (by omega), hF.1]
    -- the rest
    have rest : ∀ y, md_txt1 T dep h x = .ok y → ∀ D' f' g' pl' σ' e' p', cX X t i D D' → SL f' g' pl' σ' → TX X t i W D' σ' y → (∀ k, ¬ sX i k → σ' k = σ k) → pl'.length ≤ pl.length + (h.2.2.2 - h.2.2.1) → sw (sm_fx C 56 11 [.ref (X + 4), .ref t, .int (ni i), .int (ni j + ni 1), sm_junk] [] (cs X t T e' (ts t D' f' g') p' pl')) Q := by
      intro y hy D' f' g' pl' σ' e' p' a1 a2 a3 a4 a5
      have dd : ∀ a q, ¬ (a = X + 1 ∨ a = X + 7 ∨ a = X + 10 ∨ a = X + 12 ∨ a = X + 13 ∨ ((a = t + 8 ∨ a = t + 9 ∨ a = t + 10) ∧ q = i) ∨ a = t + 12 ∨ (a = t ∧ q = 14)) → D'.1 a q = D.1 a q := a1.2.2
      simp only [hy, bind, Except.bind] at hok her
      rw [ni_add]
      obtain ⟨b1, b2, b3, b4, b5, b6⟩ := hF
      refine ih (j + 1) D' f' g' σ' pl' y T e' p' htl (by omega) (a1.cH hH) (by rw [dd _ _ (by omega)]; exact hn) (by rw [dd _ _ (by omega)]; exact hdep) ⟨by rw [dd _ _ (by omega)]; exact b1, by rw [dd _ _ (by omega)]; exact b2, by rw [dd _ _ (by omega)]; exact b3, b4, b5, fun q hh hq => by rw [dd _ _ (by omega)]; exact b6 q hh hq⟩ (fun q hh hq => by rw [dd _ _ (by omega), dd _ _ (by omega)]; exact hC q hh hq) (fun q hh hq => ?_) hW (List.Pairwise.tail hKD) a2 a3 (fun h' hm h5' => ?_) (fun h' hm h6' => ?_) (by omega) (fun y2 hy2 D2 f2 g2 pl2 σ2 T2 e2 p2 q1 q2 q3 q4 q5 => hok y2 hy2 D2 f2 g2 pl2 σ2 T2 e2 p2 (a1.trans q1) q2 q3 (fun k hk => (q4 k hk).trans (a4 k hk)) (by omega)) (fun x0 z D2 hx hTT => her x0 z D2 hx (hTT.of a1.cF))
      · have hq2 : q < fs0.length := by
          rcases Nat.lt_or_ge q fs0.length with z | z
          · exact z
          · rw [List.getElem?_eq_none z] at hq; cases hq
        obtain ⟨c1, c2⟩ := hNS q hh hq
        exact ⟨(a4 _ (fun z => by have := sXi (by omega) z; omega)).trans c1, (a4 _ (fun z => by have := sXi (by omega) z; omega)).trans c2⟩
      · have hne : h.1 ≠ 5 := fun z => by
          have := (List.pairwise_cons.mp hKD).1 h' hm (by rw [z, h5'])
          omega
        have hx0 := h5 h' (List.mem_cons_of_mem _ hm) h5'
        unfold md_txt1 at hy
        by_cases k1 : h.1 = 1
        · rw [if_pos k1] at hy
          cases g1 : md_type T h.2.2.2 dep (md_go T h.2.2.2 (h.2.2.1 + 1)) with
          | error q => rw [g1] at hy; cases hy
          | ok q => rw [g1] at hy; cases hy; exact hx0
        · rw [if_neg k1] at hy
          by_cases k2 : h.1 = 2
          · rw [if_pos k2] at hy
            cases g1 : md_code T h.2.2.2 (md_go T h.2.2.2 (h.2.2.1 + 1)) with
            | error q => rw [g1] at hy; cases hy
            | ok q => rw [g1] at hy; cases hy; exact hx0
          · rw [if_neg k2] at hy
            by_cases k3 : h.1 = 3
            · rw [if_pos k3] at hy; cases hy; exact hx0
            · rw [if_neg k3] at hy
              by_cases k4 : h.1 = 4
              · rw [if_pos k4] at hy
                cases g1 : md_date T h.2.2.2 (md_go T h.2.2.2 (h.2.2.1 + 1)) with
                | error q => rw [g1] at hy; cases hy
                | ok q => rw [g1] at hy; cases hy; exact hx0
              · rw [if_neg k4] at hy
                by_cases k5 : h.1 = 5 ∨ h.1 = 6
                · rw [if_pos k5] at hy
                  cases g1 : md_adrs T h.2.2.2 10 [] (md_go T h.2.2.2 (h.2.2.1 + 1)) with
                  | error q => rw [g1] at hy; cases hy
                  | ok q =>
                    rw [g1] at hy
                    cases hy
                    have : h.1 = 6 := k5.resolve_left hne
                    show (if false = decide (h.1 = 6) then q else x.2.2.2.2 false) = []
                    rw [if_neg (by rw [decide_eq_true this]; exact fun z => nomatch z)]
                    exact hx0
                · rw [if_neg k5] at hy; cases hy; exact hx0
      · have hne : h.1 ≠ 6 := fun z => by
          have := (List.pairwise_cons.mp hKD).1 h' hm (by rw [z, h6'])
          omega
        have hx0 := h6 h' (List.mem_cons_of_mem _ hm) h6'
        unfold md_txt1 at hy
        by_cases k1 : h.1 = 1
        · rw [if_pos k1] at hy
          cases g1 : md_type T h.2.2.2 dep (md_go T h.2.2.2 (h.2.2.1 + 1)) with
          | error q => rw [g1] at hy; cases hy
          | ok q => rw [g1] at hy; cases hy; exact hx0
        · rw [if_neg k1] at hy
          by_cases k2 : h.1 = 2
          · rw [if_pos k2] at hy
            cases g1 : md_code T h.2.2.2 (md_go T h.2.2.2 (h.2.2.1 + 1)) with
            | error q => rw [g1] at hy; cases hy
            | ok q => rw [g1] at hy; cases hy; exact hx0
          · rw [if_neg k2] at hy
            by_cases k3 : h.1 = 3
            · rw [if_pos k3] at hy; cases hy; exact hx0
            · rw [if_neg k3] at hy
              by_cases k4 : h.1 = 4
              · rw [if_pos k4] at hy
                cases g1 : md_date T h.2.2.2 (md_go T h.2.2.2 (h.2.2.1 + 1)) with
                | error q => rw [g1] at hy; cases hy
                | ok q => rw [g1] at hy; cases hy; exact hx0
              · rw [if_neg k4] at hy
                by_cases k5 : h.1 = 5 ∨ h.1 = 6
                · rw [if_pos k5] at hy
                  cases g1 : md_adrs T h.2.2.2 10 [] (md_go T h.2.2.2 (h.2.2.1 + 1)) with
                  | error q => rw [g1] at hy; cases hy
                  | ok q =>
                    rw [g1] at hy
                    cases hy
                    show (if true = decide (h.1 = 6) then q else x.2.2.2.2 true) = []
                    rw [if_neg (by rw [decide_eq_false hne]; exact fun z => nomatch z)]
                    exact hx0
                · rw [if_neg k5] at hy; cases hy; exact hx0
    have hslot : 2 * (tot + j) + 1 < 400 := by omega
    refine c56_1 hM hH hn hn40 hi hdep hd hS hT hFW (by omega) hk6 (h5 h List.mem_cons_self) (h6 h List.mem_cons_self) hslot (hNS j h hget).2 rfl ?_ (K := fun D3 => sm_fx C 56 11 [.ref (X + 4), .ref t, .int (ni i), .int (ni j + ni 1), sm_junk] [] D3) rest (fun x0 z D' hx hTT => her x0 z D' (by rw [hx]; rfl) hTT)
    rw [e66, ni_add tot j, c130, decide_eq_true (show i < 40 by omega)]
    rfl
theorem c56 (hM : sm_mv C) {i n dep tot : Nat} {fs : List md_F} {D : sm_D} {f g : Nat → Int32} {σ : Nat → List Int32} {pl : List Int32} {x : md_X} {e p : Nat} (hn40 : n ≤ 40) (hi : i < n) (hd : dep < 2147483648) (hH : cH C X t T N D) (hn : D.1 t 11 = ni n) (hdep : D.1 (X + 14) 6 = ni dep) (hF : FS t D i tot fs) (hC : CO X D fs) (hNS : NS T tot fs σ) (hW : ∀ h ∈ fs, FW T N h) (hKD : KD fs) (hS : SL f g pl σ) (hx0 : x.1 = none) (hT : D.1 (t + 8) i = ni 0 ∧ D.1 (t + 10) i = md_b false) (hT9 : D.1 (t + 9) i = ni 0 ∧ x.2.1 = (0, 0)) (hTs : σ 1060 = x.2.2.1) (hTd : D.2.1 t 13 = Int64.ofInt x.2.2.2.1.1 ∧ D.1 t 14 = Int32.ofInt x.2.2.2.1.2) (h5' : TXa t 5 D σ (x.2.2.2.2 false)) (h6' : TXa t 6 D σ (x.2.2.2.2 true)) (h5 : ∀ h ∈ fs, h.1 = 5 → x.2.2.2.2 false = []) (h6 : ∀ h ∈ fs, h.1 = 6 → x.2.2.2.2 true = []) (hpl : pl.length + md_W fs + 19 ≤ 16400)
    (hok : ∀ y, md_txts T dep fs x = .ok y → ¬ (md_Ty.multi (y.1.getD md_plain) = true ∧ 2 < y.2.1.1) → ∀ D' f' g' pl' σ' T0' e' p', cX X t i D D' → SL f' g' pl' σ' → TX X t i ([], []) D' σ' (some (y.1.getD md_plain), y.2) → (∀ k, ¬ sX i k → σ' k = σ k) → pl'.length ≤ pl.length + md_W fs + 9 → Q (.inl none) (cs X t T0' e' (ts t D' f' g') p' pl'))
    (her : ∀ x0 z D', md_txts T dep fs x = .error x0 ∨ (∃ y, md_txts T dep fs x = .ok y ∧ md_Ty.multi (y.1.getD md_plain) = true ∧ 2 < y.2.1.1 ∧ x0 = y.2.1.2) → cT X t D x0 z D' → Q (.inr z) D') :
    sw (sm_fe C 56 [.ref (X + 4), .ref t, .int (ni i)] (cs X t T0 e (ts t D f g) p pl)) Q := by
  have hX := hH.1
  have ht := hH.2.1
  have tr := (sm_tree_of hX ht).1
  obtain ⟨f1, g1, pl1, σ1, b1, b2, b3, b4, b5⟩ := c58 (T0 := T0) (e := e) (p := p) hH hn hn40 hi hF hS (by omega)
  have x1 : cX X t i D (sm_dI D (X + 7) 1 (ni 0)) := (cX.refl D).dI (by omega)
  refine sw_ge (f56 hX tr) ?_
  rw [sw_bv, b5, sw_some]
  simp only [sb_v]
  have hTX : TX X t i (σ1 (400 + 2 * i), σ1 (400 + 2 * i + 1)) (sm_dI D (X + 7) 1 (ni 0)) σ1 x := by
    refine ⟨by rw [hx0]; exact ⟨by rw [dI_ne (by omega)]; exact hT.1, by rw [dI_ne (by omega)]; exact hT.2, rfl, rfl⟩, ⟨by rw [dI_ne (by omega), hT9.1, hT9.2], by rw [hT9.2]; exact Nat.zero_le _, by rw [dI_eq, hT9.2]⟩, by rw [b3 1060 (by omega) (by omega)]; exact hTs, ⟨hTd.1, by rw [dI_ne (by omega)]; exact hTd.2⟩, ?_, ?_⟩
    · obtain ⟨a1, a2, a3, a4⟩ := h5'
      refine ⟨by rw [dI_ne (by omega)]; exact a1, a2, fun m q hq => ?_, fun hl m hm => by rw [b3 _ (by omega) (by omega)]; exact a4 hl m hm⟩
      obtain ⟨c1, c2, c3⟩ := a3 m q hq
      exact ⟨by rw [b3 _ (by omega) (by omega)]; exact c1, by rw [b3 _ (by omega) (by omega)]; exact c2, by rw [b3 _ (by omega) (by omega)]; exact c3⟩
    · obtain ⟨a1, a2, a3, a4⟩ := h6'
      refine ⟨by rw [dI_ne (by omega)]; exact a1, a2, fun m q hq => ?_, fun hl m hm => by rw [b3 _ (by omega) (by omega)]; exact a4 hl m hm⟩
      obtain ⟨c1, c2, c3⟩ := a3 m q hq
      exact ⟨by rw [b3 _ (by omega) (by omega)]; exact c1, by rw [b3 _ (by omega) (by omega)]; exact c2, by rw [b3 _ (by omega) (by omega)]; exact c3⟩
  have hF1 : FS t (sm_dI D (X + 7) 1 (ni 0)) i tot fs := by
    obtain ⟨a1, a2, a3, a4, a5, a6⟩ := hF
    exact ⟨by rw [dI_ne (by omega), a1], by rw [dI_ne (by omega), a2], by rw [dI_ne (by omega), a3], a4, a5, fun j h hj => by rw [dI_ne (by omega)]; exact a6 j h hj⟩
  have f200 := hF.2.2.2.1
  refine c56_11 hM hn40 hi hd fs 0 _ f1 g1 σ1 pl1 x T0 e p List.drop_zero.symm (Nat.zero_le _) (x1.cH hH) (by rw [dI_ne (by omega), hn]) (by rw [dI_ne (by omega), hdep]) hF1 (fun j h hj => by rw [dI_ne (by omega), dI_ne (by omega)]; exact hC j h hj) (fun j h hj => ?_) hW hKD b1 hTX h5 h6 (by omega) (fun y hy D' f' g' pl' σ' T0' e' p' a1 a2 a3 a4 a5 => ?_) (fun x0 z D' hx hTT => her x0 z D' (Or.inl hx) (hTT.of x1.cF))
  · have hj2 : j < fs.length := by
      rcases Nat.lt_or_ge j fs.length with z | z
      · exact z
      · rw [List.getElem?_eq_none z] at hj; cases hj
    obtain ⟨c1, c2⟩ := hNS j h hj
    exact ⟨by rw [b3 _ (by omega) (by omega)]; exact c1, by rw [b3 _ (by omega) (by omega)]; exact c2⟩
  · -- the type is told or it is text/plain
    have hty : TXty t i ([], []) D' σ' (some (y.1.getD md_plain)) := by
      cases hy1 : y.1 with
      | some τ => have := a3.1; rw [hy1] at this; exact this
      | none =>
        have h0 := a3.1
        rw [hy1] at h0
        have hno1 : fs.any (fun h => h.1 == 1) = false := by
          cases hb : fs.any (fun h => h.1 == 1)
          · rfl
          · exfalso
            rw [List.any_eq_true] at hb
            obtain ⟨h, hm, hb2⟩ := hb
            have hk1 : h.1 = 1 := beq_iff_eq.mp hb2
            have key : ∀ (fs : List md_F) (x y : md_X), md_txts T dep fs x = .ok y → y.1 = none → (∀ h ∈ fs, h.1 ≠ 1) ∧ x.1 = none := by
              intro fs
              induction fs with
              | nil => intro x y hxy hy; unfold md_txts at hxy; cases hxy; exact ⟨fun h hm => (by cases hm), hy⟩
              | cons h fs ih =>
                intro x y hxy hy
                unfold md_txts at hxy
                cases g1 : md_txt1 T dep h x with
                | error q => rw [g1] at hxy; cases hxy
                | ok w =>
                  rw [g1] at hxy
                  obtain ⟨i1, i2⟩ := ih w y hxy hy
                  unfold md_txt1 at g1
                  by_cases k1 : h.1 = 1
                  · exfalso
                    rw [if_pos k1] at g1
                    cases g2 : md_type T h.2.2.2 dep (md_go T h.2.2.2 (h.2.2.1 + 1)) with
                    | error q => rw [g2] at g1; cases g1
                    | ok q => rw [g2] at g1; cases g1; cases i2
                  · rw [if_neg k1] at g1
                    have hx1 : x.1 = none := by
                      by_cases k2 : h.1 = 2
                      · rw [if_pos k2] at g1
                        cases g2 : md_code T h.2.2.2 (md_go T h.2.2.2 (h.2.2.1 + 1)) with
                        | error q => rw [g2] at g1; cases g1
                        | ok q => rw [g2] at g1; cases g1; exact i2
                      · rw [if_neg k2] at g1
                        by_cases k3 : h.1 = 3
                        · rw [if_pos k3] at g1; cases g1; exact i2
                        · rw [if_neg k3] at g1
                          by_cases k4 : h.1 = 4
                          · rw [if_pos k4] at g1
                            cases g2 : md_date T h.2.2.2 (md_go T h.2.2.2 (h.2.2.1 + 1)) with
                            | error q => rw [g2] at g1; cases g1
                            | ok q => rw [g2] at g1; cases g1; exact i2
                          · rw [if_neg k4] at g1
                            by_cases k5 : h.1 = 5 ∨ h.1 = 6
                            · rw [if_pos k5] at g1
                              cases g2 : md_adrs T h.2.2.2 10 [] (md_go T h.2.2.2 (h.2.2.1 + 1)) with
                              | error q => rw [g2] at g1; cases g1
                              | ok q => rw [g2] at g1; cases g1; exact i2
                            · rw [if_neg k5] at g1; cases g1; exact i2
                    refine ⟨fun h' hm' => ?_, hx1⟩
                    rcases List.mem_cons.mp hm' with q | q
                    · rw [q]; exact k1
                    · exact i1 h' q
            exact (key fs x y hy hy1).1 h hm hk1
        obtain ⟨p1, p2⟩ := b4 hno1
        refine ⟨h0.2.2.1.trans p1, h0.2.2.2.trans p2, (fun m q hq => by cases hq), Nat.zero_le _, h0.1, h0.2.1⟩
    obtain ⟨-, ⟨k1, k2, k3⟩, k4, k5, k6, k7⟩ := a3
    have hmul : D'.1 (t + 10) i = md_b (md_Ty.multi (y.1.getD md_plain)) := hty.2.2.2.2.2
    have hx2 := x1.trans a1
    refine sw_ge (n56_180 hX tr) ?_
    rw [sw_bv]
    refine c65 (hx2.cH hH) (by rw [hx2.2.2 _ _ (by omega)]; exact hn) hn40 hi hmul k1 k2 (fun _ _ => k3) (fun hno => ?_) (fun z D2 hyes hTT => ⟨hTT.tw, her _ z D2 (Or.inr ⟨y, hy, hyes.1, hyes.2, rfl⟩) (hTT.of hx2.cF)⟩)
    simp only [sb_v, sw_some]
    refine hok y hy hno D' f' g' pl' σ' T0' e' p' hx2 a2 ⟨hty, ⟨k1, k2, k3⟩, k4, k5, k6, k7⟩ (fun k hk => ?_) (by omega)
    rw [a4 k hk, b3 k (fun z => hk (Or.inl z)) (fun z => hk (Or.inr (Or.inl z)))]
end CTU
