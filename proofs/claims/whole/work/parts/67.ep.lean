/-! ===== the texts of an entity's fields ===== -/
def cX (X t i : Nat) (D E : sm_D) : Prop := E.2.2 = D.2.2 ∧ (∀ a j, ¬ (a = t ∧ j = 13) → E.2.1 a j = D.2.1 a j) ∧ ∀ a j, ¬ (a = X + 1 ∨ a = X + 7 ∨ a = X + 10 ∨ a = X + 12 ∨ a = X + 13 ∨ ((a = t + 8 ∨ a = t + 9 ∨ a = t + 10) ∧ j = i) ∨ a = t + 12 ∨ (a = t ∧ j = 14)) → E.1 a j = D.1 a j
/-- slots that the texts of an entity may change -/
def sX (i k : Nat) : Prop := k = 400 + 2 * i ∨ k = 400 + 2 * i + 1 ∨ (480 + 12 * i ≤ k ∧ k < 492 + 12 * i) ∨ (960 ≤ k ∧ k < 1020) ∨ k = 1060
def TXty (t i : Nat) (W : List Int32 × List Int32) (D : sm_D) (σ : Nat → List Int32) : Option md_Ty → Prop
  | none => D.1 (t + 8) i = ni 0 ∧ D.1 (t + 10) i = md_b false ∧ σ (400 + 2 * i) = W.1 ∧ σ (400 + 2 * i + 1) = W.2
  | some τ => σ (400 + 2 * i) = τ.1 ∧ σ (400 + 2 * i + 1) = τ.2.1 ∧ PS i τ.2.2 σ ∧ τ.2.2.length ≤ 6 ∧ D.1 (t + 8) i = ni τ.2.2.length ∧ D.1 (t + 10) i = md_b (md_Ty.multi τ)
def TXa (t kd : Nat) (D : sm_D) (σ : Nat → List Int32) (l : List (List Int32 × List Int32 × List Int32)) : Prop := D.1 (t + 12) (kd - 5) = ni l.length ∧ l.length ≤ 10 ∧ AD kd l σ ∧ (l = [] → ∀ n, n < 10 → σ (960 + 3 * (10 * (kd - 5) + n)) = [])
def TX (X t i : Nat) (W : List Int32 × List Int32) (D : sm_D) (σ : Nat → List Int32) (x : md_X) : Prop := TXty t i W D σ x.1 ∧ (D.1 (t + 9) i = ni x.2.1.1 ∧ x.2.1.1 ≤ 4 ∧ D.1 (X + 7) 1 = ni x.2.1.2) ∧ σ 1060 = x.2.2.1 ∧ (D.2.1 t 13 = Int64.ofInt x.2.2.2.1.1 ∧ D.1 t 14 = Int32.ofInt x.2.2.2.1.2) ∧ TXa t 5 D σ (x.2.2.2.2 false) ∧ TXa t 6 D σ (x.2.2.2.2 true)
section CTT
variable {C : sm_K} {W : List Int32 × List Int32} {X t N : Nat} {T T0 : Nat → Int32} {Q : (Option Value ⊕ Nat) → sm_D → Prop}
theorem cX.refl {i : Nat} (D : sm_D) : cX X t i D D := ⟨rfl, fun _ _ _ => rfl, fun _ _ _ => rfl⟩
theorem cX.trans {i : Nat} {D E F : sm_D} (h : cX X t i D E) (g : cX X t i E F) : cX X t i D F := ⟨g.1.trans h.1, fun a j ha => (g.2.1 a j ha).trans (h.2.1 a j ha), fun a j ha => (g.2.2 a j ha).trans (h.2.2 a j ha)⟩
theorem cX.dI {i a j : Nat} {v : Int32} {D E : sm_D} (h : cX X t i D E) (ha : a = X + 1 ∨ a = X + 7 ∨ a = X + 10 ∨ a = X + 12 ∨ a = X + 13 ∨ ((a = t + 8 ∨ a = t + 9 ∨ a = t + 10) ∧ j = i) ∨ a = t + 12 ∨ (a = t ∧ j = 14)) : cX X t i D (sm_dI E a j v) := ⟨h.1, h.2.1, fun b k hb => by rw [dI_ne (fun z => hb (by rw [z.1, z.2]; exact ha))]; exact h.2.2 b k hb⟩
theorem cX.dJ {i : Nat} {v : Int64} {D E : sm_D} (h : cX X t i D E) : cX X t i D (sm_dJ E t 13 v) := ⟨h.1, fun a j ha => by
  rw [← h.2.1 a j ha]; exact if_neg ha, h.2.2⟩
theorem cX.cM {i : Nat} {D E F : sm_D} (h : cX X t i D E) (g : cM X E F) : cX X t i D F := ⟨by rw [g.1]; exact h.1, fun a j ha => by rw [g.1]; exact h.2.1 a j ha, fun a j ha => by rw [g.2 a j (by omega) (by omega) (by omega)]; exact h.2.2 a j ha⟩
theorem cX.cF {i : Nat} {D E : sm_D} (h : cX X t i D E) : cF X t D E := by
  refine ⟨h.1, fun a ha => ?_, fun a ha => ?_⟩
  · funext j
    unfold cR at ha
    exact h.2.2 a j (by omega)
  · funext j
    exact h.2.1 a j (by omega)
theorem cX.cH {i : Nat} {D E : sm_D} (h : cX X t i D E) (g : cH C X t T N D) : cH C X t T N E := by
  obtain ⟨h1, h2, h3, h4, h5, h6, h7⟩ := g
  exact ⟨h1, h2, h3, h4, by rw [h.2.2 _ _ (by omega)]; exact h5, fun i hi => by rw [h.2.2 _ _ (by omega)]; exact h6 i hi, h7⟩
/-- one field's text -/
theorem c56_1 (hM : sm_mv C) {D : sm_D} {i n dep : Nat} {f g : Nat → Int32} {σ : Nat → List Int32} {pl : List Int32} {x : md_X} {h : md_F} {K : sm_D → Option sm_o} {slot : Nat} (hH : cH C X t T N D) (hn : D.1 t 11 = ni n) (hn40 : n ≤ 40) (hi : i < n) (hdep : D.1 (X + 14) 6 = ni dep) (hd : dep < 2147483648) (hS : SL f g pl σ) (hT : TX X t i W D σ x) (hW : FW T N h) (hpl : pl.length + (h.2.2.2 - h.2.2.1) + 10 ≤ 16400) (hk6 : h.1 ≤ 6) (h5 : h.1 = 5 → x.2.2.2.2 false = []) (h6 : h.1 = 6 → x.2.2.2.2 true = []) (hslot : slot < 400) (hs : σ slot = md_chs T h.2.2.2 (md_go T h.2.2.2 (h.2.2.1 + 1)))
    {v2 : Int32} (hv2 : v2 = ni i) {R : Option sm_o}
    (hR : R = sm_sw (ni h.1) 1 [(sm_bv (sm_fe C 59 [.ref (X + 7), .ref t, .int v2, .int ((cs X t T h.2.2.2 (ts t (sm_dI D (X + 1) 3 (ni h.2.2.2)) f g) (md_go T h.2.2.2 (h.2.2.1 + 1)) pl).1 (X + 14) 6)] (cs X t T h.2.2.2 (ts t (sm_dI D (X + 1) 3 (ni h.2.2.2)) f g) (md_go T h.2.2.2 (h.2.2.1 + 1)) pl)) K), (sm_bv (sm_fe C 63 [.ref (X + 7), .ref t, .int v2] (cs X t T h.2.2.2 (ts t (sm_dI D (X + 1) 3 (ni h.2.2.2)) f g) (md_go T h.2.2.2 (h.2.2.1 + 1)) pl)) K), (sm_bv (sm_fe C 91 [.ref (X + 11), .ref t, .int (ni slot)] (cs X t T h.2.2.2 (ts t (sm_dI D (X + 1) 3 (ni h.2.2.2)) f g) (md_go T h.2.2.2 (h.2.2.1 + 1)) pl)) K), (sm_bv (sm_fe C 67 [.ref (X + 8), .ref t] (cs X t T h.2.2.2 (ts t (sm_dI D (X + 1) 3 (ni h.2.2.2)) f g) (md_go T h.2.2.2 (h.2.2.1 + 1)) pl)) K), (sm_bv (sm_fe C 77 [.ref (X + 9), .ref t, .int (ni h.1)] (cs X t T h.2.2.2 (ts t (sm_dI D (X + 1) 3 (ni h.2.2.2)) f g) (md_go T h.2.2.2 (h.2.2.1 + 1)) pl)) K), (sm_bv (sm_fe C 77 [.ref (X + 9), .ref t, .int (ni h.1)] (cs X t T h.2.2.2 (ts t (sm_dI D (X + 1) 3 (ni h.2.2.2)) f g) (md_go T h.2.2.2 (h.2.2.1 + 1)) pl)) K)] (K (cs X t T h.2.2.2 (ts t (sm_dI D (X + 1) 3 (ni h.2.2.2)) f g) (md_go T h.2.2.2 (h.2.2.1 + 1)) pl)))
    (hok : ∀ y, md_txt1 T dep h x = .ok y → ∀ D' f' g' pl' σ' e' p', cX X t i D D' → SL f' g' pl' σ' → TX X t i W D' σ' y → (∀ k, ¬ sX i k → σ' k = σ k) → pl'.length ≤ pl.length + (h.2.2.2 - h.2.2.1) → sw (K (cs X t T e' (ts t D' f' g') p' pl')) Q)
    (her : ∀ x0 z D', md_txt1 T dep h x = .error x0 → cT X t D x0 z D' → Q (.inr z) D') : sw R Q := by
  subst hv2
  subst hR
  have hX := hH.1
  have ht := hH.2.1
  obtain ⟨w1, w2, w3, w4⟩ := hW
  have hgo1 : h.2.2.1 + 1 ≤ md_go T h.2.2.2 (h.2.2.1 + 1) := by unfold md_go; split <;> omega
  have hp : md_ok T h.2.2.2 (md_go T h.2.2.2 (h.2.2.1 + 1)) := md_go_ok (by omega) w4
  have hW1 : cW C X t T N h.2.2.2 (sm_dI D (X + 1) 3 (ni h.2.2.2)) := ⟨cH_dI hH (Or.inl (by omega)), by omega, dI_eq⟩
  have x1 : cX X t i D (sm_dI D (X + 1) 3 (ni h.2.2.2)) := (cX.refl D).dI (Or.inl rfl)
  obtain ⟨tt, ⟨tc1, tc2, tc3⟩, ts', ⟨td1, td2⟩, ta5, ta6⟩ := hT
  have hn1 : (sm_dI D (X + 1) 3 (ni h.2.2.2)).1 t 11 = ni n := by rw [dI_ne (by omega), hn]
  have tyk : ∀ {E : sm_D} {σ' : Nat → List Int32}, E.1 (t + 8) i = D.1 (t + 8) i → E.1 (t + 10) i = D.1 (t + 10) i → (∀ k, k = 400 + 2 * i ∨ k = 400 + 2 * i + 1 ∨ (480 + 12 * i ≤ k ∧ k < 492 + 12 * i) → σ' k = σ k) → TXty t i W E σ' x.1 := by
    intro E σ' e1 e2 e3
    cases hx : x.1 with
    | none =>
      rw [hx] at tt
      exact ⟨e1.trans tt.1, e2.trans tt.2.1, (e3 _ (by omega)).trans tt.2.2.1, (e3 _ (by omega)).trans tt.2.2.2⟩
    | some τ =>
      rw [hx] at tt
      obtain ⟨a1, a2, a3, a4, a5, a6⟩ := tt
      refine ⟨(e3 _ (by omega)).trans a1, (e3 _ (by omega)).trans a2, fun m q hq => ?_, a4, e1.trans a5, e2.trans a6⟩
      have hm6 : m < 6 := by
        rcases Nat.lt_or_ge m τ.2.2.length with z | z
        · omega
        · rw [List.getElem?_eq_none z] at hq; cases hq
      obtain ⟨b1, b2, b3, b4⟩ := a3 m q hq
      exact ⟨(e3 _ (by omega)).trans b1, (e3 _ (by omega)).trans b2, b3, b4⟩
  have tak : ∀ {E : sm_D} {σ' : Nat → List Int32} {kd : Nat} {l}, (kd = 5 ∨ kd = 6) → TXa t kd D σ l → E.1 (t + 12) (kd - 5) = D.1 (t + 12) (kd - 5) → (∀ k, 960 + 30 * (kd - 5) ≤ k ∧ k < 990 + 30 * (kd - 5) → σ' k = σ k) → TXa t kd E σ' l := by
    intro E σ' kd l hkd ⟨a1, a2, a3, a4⟩ e1 e2
    refine ⟨e1.trans a1, a2, fun m q hq => ?_, fun hl m hm => (e2 _ (by omega)).trans (a4 hl m hm)⟩
    have hm10 : m < 10 := by
      rcases Nat.lt_or_ge m l.length with z | z
      · omega
      · rw [List.getElem?_eq_none z] at hq; cases hq
    obtain ⟨b1, b2, b3⟩ := a3 m q hq
    exact ⟨(e2 _ (by omega)).trans b1, (e2 _ (by omega)).trans b2, (e2 _ (by omega)).trans b3⟩
  unfold md_txt1 at hok her
  simp (disch := omega) only [sm_sw, ni_inj, sw_ite, Nat.reduceAdd]
  by_cases c1 : h.1 = 1
  · rw [if_pos c1]
    rw [if_pos c1] at hok her
    rw [cs_o (by omega) (by omega) (by omega), ts_o (by omega) (by omega), dI_ne (by omega), hdep, sw_bv]
    refine c59 hW1 hn1 hn40 hi hd hS (by omega) hp (fun τ h1 f' g' pl' σ' r a1 a2 a3 a4 a5 a6 a7 a8 => ?_) (fun x0 z D' h1 hTT => ⟨hTT.tw, her x0 z D' (by rw [h1]; rfl) (hTT.of x1.cF)⟩)
    have ar := a7.1
    simp only [h1, bind, Except.bind] at hok
    simp only [sb_v]
    refine hok _ rfl _ f' g' pl' σ' _ r ((x1.dI (by omega)).dI (by omega)) a1 ⟨⟨a2, a3, a4, a5, by rw [dI_ne (by omega), dI_eq], by rw [dI_eq]⟩, ⟨by rw [dI_ne (by omega), dI_ne (by omega), dI_ne (by omega)]; exact tc1, tc2, by rw [dI_ne (by omega), dI_ne (by omega), dI_ne (by omega)]; exact tc3⟩, by rw [a6 1060 (by omega)]; exact ts', ⟨td1, by rw [dI_ne (by omega), dI_ne (by omega), dI_ne (by omega)]; exact td2⟩, tak (Or.inl rfl) ta5 (by rw [dI_ne (by omega), dI_ne (by omega), dI_ne (by omega)]) (fun k hk => a6 k (by omega)), tak (Or.inr rfl) ta6 (by rw [dI_ne (by omega), dI_ne (by omega), dI_ne (by omega)]) (fun k hk => a6 k (by omega))⟩ (fun k hk => a6 k (fun z => hk (by unfold sX; omega))) (by omega)
  · rw [if_neg c1]
    rw [if_neg c1] at hok her
    by_cases c2 : h.1 = 2
    · rw [if_pos c2]
      rw [if_pos c2] at hok her
      rw [sw_bv]
      refine c63 hW1 hn1 hn40 hi hS (by omega) hp (fun k p1 h1 pl' r a1 a2 a3 => ?_) (fun x0 z D' h1 hTT => ⟨hTT.tw, her x0 z D' (by rw [h1]; rfl) (hTT.of x1.cF)⟩)
      have ar := a2.1
      simp only [h1, bind, Except.bind] at hok
      simp only [sb_v]
      have hk4 : k ≤ 4 := by
        unfold md_code at h1
        cases g1 : md_space T h.2.2.2 0 (md_go T h.2.2.2 (h.2.2.1 + 1)) with
        | error q => rw [g1] at h1; cases h1
        | ok q1 =>
          simp only [g1, bind, Except.bind] at h1
          cases g2 : md_word T h.2.2.2 md_tok 0 q1 with
          | error q => simp only [g2] at h1; cases h1
          | ok q2 =>
            simp only [g2] at h1
            cases g3 : md_codeOf (q2.1.map md_sm) with
            | none => simp only [g3] at h1; cases h1
            | some k' =>
              simp only [g3] at h1
              cases g4 : md_space T h.2.2.2 0 q2.2 with
              | error q => simp only [g4] at h1; cases h1
              | ok q4 =>
                simp only [g4] at h1
                cases g5 : md_end h.2.2.2 q4 with
                | error q => simp only [g5] at h1; cases h1
                | ok q5 =>
                  simp only [g5] at h1
                  cases h1
                  exact md_code_k g3
      refine hok _ rfl _ f g pl' σ _ r ((x1.dI (by omega)).dI (by omega)) a1 ⟨tyk (by rw [dI_ne (by omega), dI_ne (by omega), dI_ne (by omega)]) (by rw [dI_ne (by omega), dI_ne (by omega), dI_ne (by omega)]) (fun _ _ => rfl), ⟨by rw [dI_eq], hk4, by rw [dI_ne (by omega), dI_eq]⟩, ts', ⟨td1, by rw [dI_ne (by omega), dI_ne (by omega), dI_ne (by omega)]; exact td2⟩, tak (Or.inl rfl) ta5 (by rw [dI_ne (by omega), dI_ne (by omega), dI_ne (by omega)]) (fun _ _ => rfl), tak (Or.inr rfl) ta6 (by rw [dI_ne (by omega), dI_ne (by omega), dI_ne (by omega)]) (fun _ _ => rfl)⟩ (fun _ _ => rfl) (by omega)
    · rw [if_neg c2]
      rw [if_neg c2] at hok her
      by_cases c3 : h.1 = 3
      · rw [if_pos c3]
        rw [if_pos c3] at hok her
        rw [sw_bv]
        have hbyt : md_by (σ slot) := by
          rw [hs]
          have key : ∀ (m q : Nat), h.2.2.2 - q ≤ m → md_by (md_chs T h.2.2.2 q) := by
            intro m
            induction m with
            | zero => intro q hq; rw [md_chs, dif_neg (by omega)]; intro y hy; cases hy
            | succ m ih =>
              intro q hq
              rw [md_chs]
              split
              · next gq =>
                have := md_nx_lt (T := T) gq
                intro y hy
                rcases List.mem_cons.mp hy with r | r
                · rw [r]; exact hH.2.2.2.2.2.2 q (by omega)
                · exact ih _ (by omega) y r
              · intro y hy; cases hy
          exact key _ _ (Nat.le_refl _)
        have hlen : (σ slot).length ≤ h.2.2.2 - (h.2.2.1 + 1) := by
          rw [hs]
          have := md_chs_len (T := T) (z := h.2.2.2) (q := md_go T h.2.2.2 (h.2.2.1 + 1))
          omega
        have hsub : (md_subj (σ slot)).length ≤ (σ slot).length := by
          have hby2 : ∀ j, j < md_rt (md_nth (σ slot)) 0 (σ slot).length → ∃ n, n < 256 ∧ md_nth (σ slot) j = ni n := fun j hj => by
            have := md_rt_le (P := md_nth (σ slot)) (a := 0) (σ slot).length
            rw [md_nth_get (by omega)]; exact hbyt _ (List.getElem_mem _)
          have := md_sub_len hby2 (σ slot).length (md_run (md_nth (σ slot)) true (σ slot).length 0) false
          have := md_rt_le (P := md_nth (σ slot)) (a := 0) (σ slot).length
          unfold md_subj
          omega
        refine c91 hW1.1 (by omega) hS hbyt (by omega) (fun D' f' g' a1 a2 => ?_)
        simp only [sb_v]
        rw [hs] at a2 hsub ⊢
        have oo : ∀ k, k ≠ 1060 → up1 σ 1060 (md_subj (md_chs T h.2.2.2 (md_go T h.2.2.2 (h.2.2.1 + 1)))) k = σ k := fun k hk => by unfold up1; rw [if_neg hk]
        have dd : ∀ a j, a ≠ X + 1 → a ≠ X + 10 → a ≠ X + 12 → a ≠ X + 13 → D'.1 a j = D.1 a j := fun a j q1 q2 q3 q4 => by rw [a1.2 a j q2 q3 q4, dI_ne (fun z => q1 z.1)]
        refine hok _ rfl D' f' g' _ _ _ _ (x1.cM a1) a2 ⟨tyk (dd _ _ (by omega) (by omega) (by omega) (by omega)) (dd _ _ (by omega) (by omega) (by omega) (by omega)) (fun k hk => oo k (by omega)), ⟨by rw [dd _ _ (by omega) (by omega) (by omega) (by omega)]; exact tc1, tc2, by rw [dd _ _ (by omega) (by omega) (by omega) (by omega)]; exact tc3⟩, by unfold up1; rw [if_pos rfl], ⟨by rw [a1.1]; exact td1, by rw [dd _ _ (by omega) (by omega) (by omega) (by omega)]; exact td2⟩, tak (Or.inl rfl) ta5 (dd _ _ (by omega) (by omega) (by omega) (by omega)) (fun k hk => oo k (by omega)), tak (Or.inr rfl) ta6 (dd _ _ (by omega) (by omega) (by omega) (by omega)) (fun k hk => oo k (by omega))⟩ (fun k hk => oo k (fun z => hk (by unfold sX; omega))) (by rw [List.length_append]; rw [hs] at hlen; omega)
      · rw [if_neg c3]
        rw [if_neg c3] at hok her
        by_cases c4 : h.1 = 4
        · rw [if_pos c4]
          rw [if_pos c4] at hok her
          rw [sw_bv]
          refine c67 hM (cW_ts hW1) hp (fun s z r h1 a1 => ?_) (fun x0 z D' h1 hTT => ⟨hTT.tw, her x0 z D' (by rw [h1]; rfl) ((hTT.of cF_ts).of x1.cF)⟩)
          simp only [h1, bind, Except.bind] at hok
          simp only [sb_v]
          have ee : sm_dI (sm_dJ (ts t (sm_dI D (X + 1) 3 (ni h.2.2.2)) f g) t 13 (Int64.ofInt s)) t 14 (Int32.ofInt z) = ts t (sm_dI (sm_dJ (sm_dI D (X + 1) 3 (ni h.2.2.2)) t 13 (Int64.ofInt s)) t 14 (Int32.ofInt z)) f g := by
            have e1 : sm_dJ (ts t (sm_dI D (X + 1) 3 (ni h.2.2.2)) f g) t 13 (Int64.ofInt s) = ts t (sm_dJ (sm_dI D (X + 1) 3 (ni h.2.2.2)) t 13 (Int64.ofInt s)) f g := rfl
            rw [e1, dI_ts (by omega) (by omega)]
          rw [ee]
          refine hok _ rfl _ f g pl σ _ r ((x1.dJ).dI (by omega)) hS ⟨tyk (by rw [dI_ne (by omega)]; exact dI_ne (by omega)) (by rw [dI_ne (by omega)]; exact dI_ne (by omega)) (fun _ _ => rfl), ⟨by rw [dI_ne (by omega)]; exact (dI_ne (by omega)).trans tc1, tc2, by rw [dI_ne (by omega)]; exact (dI_ne (by omega)).trans tc3⟩, ts', ⟨up_eq, dI_eq⟩, tak (Or.inl rfl) ta5 (by rw [dI_ne (by omega)]; exact dI_ne (by omega)) (fun _ _ => rfl), tak (Or.inr rfl) ta6 (by rw [dI_ne (by omega)]; exact dI_ne (by omega)) (fun _ _ => rfl)⟩ (fun _ _ => rfl) (by omega)
        · rw [if_neg c4]
          rw [if_neg c4] at hok her
          by_cases c56 : h.1 = 5 ∨ h.1 = 6
          · rw [if_pos c56] at hok her
            have h77 : sw (sm_bv (sm_fe C 77 [.ref (X + 9), .ref t, .int (ni h.1)] (cs X t T h.2.2.2 (ts t (sm_dI D (X + 1) 3 (ni h.2.2.2)) f g) (md_go T h.2.2.2 (h.2.2.1 + 1)) pl)) K) Q := by
              rw [sw_bv]
              have hz : ∀ n, n < 10 → σ (960 + 3 * (10 * (h.1 - 5) + n)) = [] := by
                rcases c56 with c | c
                · rw [c]; exact ta5.2.2.2 (h5 c)
                · rw [c]; exact ta6.2.2.2 (h6 c)
              refine c77 hW1 c56 hS hz (by omega) hp (by omega) (fun l h1 f' g' pl' σ' r a1 a2 a3 a4 a5 a6 => ?_) (fun x0 z D' h1 hTT => ⟨hTT.tw, her x0 z D' (by rw [h1]; rfl) (hTT.of x1.cF)⟩)
              have ar := a5.1
              simp only [h1, bind, Except.bind] at hok
              simp only [sb_v]
              have lne : l ≠ [] := by
                intro hl
                subst hl
                have key : ∀ (m : Nat) (l0 : List (List Int32 × List Int32 × List Int32)) (q : Nat), md_adrs T h.2.2.2 m l0 q ≠ .ok [] := by
                  intro m
                  induction m with
                  | zero =>
                    intro l0 q hq
                    unfold md_adrs at hq
                    cases g1 : md_space T h.2.2.2 0 q with
                    | error y => rw [g1] at hq; cases hq
                    | ok y => rw [g1] at hq; cases hq
                  | succ m ih =>
                    intro l0 q hq
                    unfold md_adrs at hq
                    cases g1 : md_space T h.2.2.2 0 q with
                    | error y => rw [g1] at hq; cases hq
                    | ok y =>
                      simp only [g1, bind, Except.bind] at hq
                      cases g2 : md_adr T h.2.2.2 y with
                      | error w => simp only [g2] at hq; cases hq
                      | ok w =>
                        simp only [g2] at hq
                        split at hq
                        · cases g3 : md_eat T h.2.2.2 (ni 44) w.2 with
                          | error u => simp only [g3] at hq; cases hq
                          | ok u => simp only [g3] at hq; exact ih _ _ hq
                        · have := congrArg (fun r : Except Nat (List (List Int32 × List Int32 × List Int32)) => match r with | .ok l => l.length | .error _ => 0) hq
                          simp at this
                exact key _ _ _ h1
              rcases c56 with c | c
              · rw [c] at a2 a4 ⊢
                simp only [c] at hok
                refine hok _ rfl _ f' g' pl' σ' _ r (x1.dI (by omega)) a1 ⟨tyk (by rw [dI_ne (by omega), dI_ne (by omega)]) (by rw [dI_ne (by omega), dI_ne (by omega)]) (fun k hk => a4 k (by omega)), ⟨by rw [dI_ne (by omega), dI_ne (by omega)]; exact tc1, tc2, by rw [dI_ne (by omega), dI_ne (by omega)]; exact tc3⟩, by rw [a4 1060 (by omega)]; exact ts', ⟨td1, by rw [dI_ne (by omega), dI_ne (by omega)]; exact td2⟩, ?_, ?_⟩ (fun k hk => a4 k (fun z => hk (by unfold sX; omega))) (by omega)
                · exact ⟨by rw [dI_eq]; rfl, a3, a2, fun z => absurd z lne⟩
                · exact tak (Or.inr rfl) ta6 (by rw [dI_ne (by omega), dI_ne (by omega)]) (fun k hk => a4 k (by omega))
              · rw [c] at a2 a4 ⊢
                simp only [c] at hok
                refine hok _ rfl _ f' g' pl' σ' _ r (x1.dI (by omega)) a1 ⟨tyk (by rw [dI_ne (by omega), dI_ne (by omega)]) (by rw [dI_ne (by omega), dI_ne (by omega)]) (fun k hk => a4 k (by omega)), ⟨by rw [dI_ne (by omega), dI_ne (by omega)]; exact tc1, tc2, by rw [dI_ne (by omega), dI_ne (by omega)]; exact tc3⟩, by rw [a4 1060 (by omega)]; exact ts', ⟨td1, by rw [dI_ne (by omega), dI_ne (by omega)]; exact td2⟩, ?_, ?_⟩ (fun k hk => a4 k (fun z => hk (by unfold sX; omega))) (by omega)
                · exact tak (Or.inl rfl) ta5 (by rw [dI_ne (by omega), dI_ne (by omega)]) (fun k hk => a4 k (by omega))
                · exact ⟨by rw [dI_eq]; rfl, a3, a2, fun z => absurd z lne⟩
            rcases c56 with c | c
            · rw [if_pos c]; exact h77
            · rw [if_neg (by omega), if_pos c]; exact h77
          · rw [if_neg (fun z => c56 (Or.inl z)), if_neg (fun z => c56 (Or.inr z))]
            rw [if_neg c56] at hok
            refine hok _ rfl _ f g pl σ _ _ x1 hS ⟨tyk (dI_ne (by omega)) (dI_ne (by omega)) (fun _ _ => rfl), ⟨(dI_ne (by omega)).trans tc1, tc2, (dI_ne (by omega)).trans tc3⟩, ts', ⟨td1, (dI_ne (by omega)).trans td2⟩, tak (Or.inl rfl) ta5 (dI_ne (by omega)) (fun _ _ => rfl), tak (Or.inr rfl) ta6 (dI_ne (by omega)) (fun _ _ => rfl)⟩ (fun _ _ => rfl) (by omega)
end CTT
