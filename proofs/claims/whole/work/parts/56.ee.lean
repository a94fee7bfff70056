section CPB
variable {C : sm_K} {X t N e p : Nat} {T T0 : Nat → Int32} {pl : List Int32} {Q : (Option Value ⊕ Nat) → sm_D → Prop}
theorem md_del_ok {v : List Int32} {b q : Nat} {d : md_D} (h : md_del T v b q = some d) : q ≤ d.1 ∧ d.1 < d.2.1 ∧ d.2.1 ≤ b := by
  rw [md_del] at h
  split at h
  · next g =>
    have h1 := md_eol_ge T b q
    dsimp only at h
    generalize (if md_dash T (q + 2 + v.length) (md_eol T b q) = true then q + 2 + v.length + 2 else q + 2 + v.length) = w at h
    split at h
    · next g2 =>
      cases h
      dsimp only
      refine ⟨Nat.le_refl _, ?_, ?_⟩
      · have := g2.1; omega
      · omega
    · have := md_del_ok h
      exact ⟨by omega, this.2⟩
  · cases h
termination_by b - q
decreasing_by omega
/-- only cells of the parts have changed -/
def cQ (X : Nat) (D E : sm_D) : Prop := E.2 = D.2 ∧ ∀ a j, ¬ (X + 14 ≤ a ∧ a ≤ X + 19) → E.1 a j = D.1 a j
theorem cQ.refl (X : Nat) (D : sm_D) : cQ X D D := ⟨rfl, fun _ _ _ => rfl⟩
theorem cQ.dI {D E : sm_D} {a i : Nat} {v : Int32} (h : cQ X D E) (ha : X + 14 ≤ a ∧ a ≤ X + 19) : cQ X D (sm_dI E a i v) := ⟨h.1, fun b j hb => by rw [dI_ne (fun z => hb (by omega))]; exact h.2 b j hb⟩
theorem cQ.cF {D E : sm_D} (h : cQ X D E) : cF X t D E := by
  refine ⟨by rw [h.1], fun a ha => ?_, fun a _ => by rw [h.1]⟩
  funext j
  exact h.2 a j (fun z => ha (Or.inl (by omega)))
theorem cQ.cH {D E : sm_D} (h : cQ X D E) (g : cH C X t T N D) : cH C X t T N E := by
  obtain ⟨h1, h2, h3, h4, h5, h6, h7⟩ := g
  exact ⟨h1, h2, h3, h4, by rw [h.2 _ _ (by omega)]; exact h5, fun i hi => by rw [h.2 _ _ (by omega)]; exact h6 i hi, h7⟩
def STK (X : Nat) (D : sm_D) (st : List md_O) : Prop := D.1 (X + 14) 6 = ni st.length ∧ ∀ j o, st.reverse[j]? = some o → D.1 (X + 15) j = ni o.1 ∧ D.1 (X + 16) j = ni o.2.1 ∧ D.1 (X + 17) j = ni o.2.2.1 ∧ D.1 (X + 18) j = ni o.2.2.2.1 ∧ D.1 (X + 19) j = md_b o.2.2.2.2
theorem STK_top {D : sm_D} {o : md_O} {st : List md_O} (h : STK X D (o :: st)) : D.1 (X + 15) st.length = ni o.1 ∧ D.1 (X + 16) st.length = ni o.2.1 ∧ D.1 (X + 17) st.length = ni o.2.2.1 ∧ D.1 (X + 18) st.length = ni o.2.2.2.1 ∧ D.1 (X + 19) st.length = md_b o.2.2.2.2 := by
  refine h.2 st.length o ?_
  rw [List.reverse_cons, List.getElem?_append_right (by rw [List.length_reverse]; exact Nat.le_refl _), List.length_reverse, Nat.sub_self]
  rfl
/-- the same levels below, a new top -/
theorem STK_new {D E : sm_D} {st : List md_O} {o : md_O} (h : ∀ j o, st.reverse[j]? = some o → D.1 (X + 15) j = ni o.1 ∧ D.1 (X + 16) j = ni o.2.1 ∧ D.1 (X + 17) j = ni o.2.2.1 ∧ D.1 (X + 18) j = ni o.2.2.2.1 ∧ D.1 (X + 19) j = md_b o.2.2.2.2) (h6 : E.1 (X + 14) 6 = ni (st.length + 1)) (hlow : ∀ a j, X + 15 ≤ a → a ≤ X + 19 → j < st.length → E.1 a j = D.1 a j) (htop : E.1 (X + 15) st.length = ni o.1 ∧ E.1 (X + 16) st.length = ni o.2.1 ∧ E.1 (X + 17) st.length = ni o.2.2.1 ∧ E.1 (X + 18) st.length = ni o.2.2.2.1 ∧ E.1 (X + 19) st.length = md_b o.2.2.2.2) : STK X E (o :: st) := by
  refine ⟨h6, fun j o' hj => ?_⟩
  rw [List.reverse_cons] at hj
  rcases Nat.lt_or_ge j st.length with hlt | hge
  · rw [List.getElem?_append_left (by rw [List.length_reverse]; exact hlt)] at hj
    obtain ⟨a1, a2, a3, a4, a5⟩ := h j o' hj
    exact ⟨(hlow _ _ (by omega) (by omega) hlt).trans a1, (hlow _ _ (by omega) (by omega) hlt).trans a2, (hlow _ _ (by omega) (by omega) hlt).trans a3, (hlow _ _ (by omega) (by omega) hlt).trans a4, (hlow _ _ (by omega) (by omega) hlt).trans a5⟩
  · rw [List.getElem?_append_right (by rw [List.length_reverse]; exact hge), List.length_reverse] at hj
    have h0 : j - st.length = 0 := by
      rcases Nat.eq_zero_or_pos (j - st.length) with h0 | h0
      · exact h0
      · rw [List.getElem?_eq_none (by rw [List.length_singleton]; omega)] at hj; cases hj
    rw [h0] at hj
    cases hj
    have : j = st.length := by omega
    subst this
    exact htop
theorem c103 {D : sm_D} (h : cH C X t T N D) {f g : Nat → Int32} {σ : Nat → List Int32} {i n b body : Nat} {ps : List (List Int32 × List Int32)} {v : List Int32} {st : List md_O} (hst : STK X D st) (hlv : st.length < 6) (h9 : D.1 (X + 14) 9 = ni b) (hn : D.1 t 11 = ni n) (hn40 : n ≤ 40) (hi : i < n) (hS : SL f g pl σ) (hl : pl.length ≤ 16400) (hP : PS i ps σ) (h6 : ps.length ≤ 6) (h8 : D.1 (t + 8) i = ni ps.length) (hv : md_bv ps = some v) (hb : b ≤ N) (hbody : body ≤ b + 2)
    (hok : ∀ d, md_del T v b body = some d → d.2.2 = false → ∀ D', STK X D' ((i, b, d) :: st) → cQ X D D' → Q (.inl none) (cs X t T0 e (ts t D' f g) p pl))
    (her : ∀ x z D', (md_del T v b body = none ∧ x = b) ∨ (∃ d, md_del T v b body = some d ∧ d.2.2 = true ∧ x = d.1) → cT X t D x z D' → Q (.inr z) D') :
    sw (sm_fe C 103 [.ref (X + 14), .ref t, .int (ni i), .int (ni body)] (cs X t T0 e (ts t D f g) p pl)) Q := by
  have hN := h.2.2.2.1
  have ht := h.2.1
  have hX := h.1
  have tr := (sm_tree_of hX ht).1
  have r : ∀ {D : sm_D} (a j), a ≠ X + 1 → a ≠ t + 1 → a ≠ t + 2 → a ≠ t + 3 → a ≠ t + 4 → (cs X t T0 e (ts t D f g) p pl).1 a j = D.1 a j := fun a j h1 h2 h3 h4 h5 => by
    rw [cs_o h1 h2 h3, ts_o h4 h5]
  refine sw_ge (f103 hX tr) ?_
  have e6 : (cs X t T0 e (ts t D f g) p pl).1 (X + 14) 6 = ni st.length := by rw [r _ _ (by omega) (by omega) (by omega) (by omega) (by omega), hst.1]
  have e9 : sm_up (cs X t T0 e (ts t D f g) p pl).1 (X + 15) st.length (ni i) (X + 14) 9 = ni b := by rw [up_ne (by omega), r _ _ (by omega) (by omega) (by omega) (by omega) (by omega), h9]
  have e62 : sm_up (sm_up (cs X t T0 e (ts t D f g) p pl).1 (X + 15) st.length (ni i)) (X + 16) st.length (ni b) (X + 14) 6 = ni st.length := by rw [up_ne (by omega), up_ne (by omega), e6]
  simp (disch := omega) only [e6, ni_lt, sw_ite, sw_some, sw_gu, ni_in, ni_nat, e9, e62, ni_add, sw_bv]
  rw [if_neg (by omega), if_pos hlv]
  refine ⟨decide_eq_true hlv, decide_eq_true hlv, ?_⟩
  rw [dI_cs (by omega) (by omega) (by omega), dI_ts (by omega) (by omega), dI_cs (by omega) (by omega) (by omega), dI_ts (by omega) (by omega), dI_cs (by omega) (by omega) (by omega), dI_ts (by omega) (by omega)]
  have q3 : cQ X D (sm_dI (sm_dI (sm_dI D (X + 15) st.length (ni i)) (X + 16) st.length (ni b)) (X + 14) 6 (ni (st.length + 1))) := (((cQ.refl X D).dI (by omega)).dI (by omega)).dI (by omega)
  refine c104 (q3.cH h) hlv (by rw [dI_ne (by omega), dI_ne (by omega), dI_eq]) (by rw [dI_ne (by omega), dI_eq]) (by rw [q3.2 _ _ (by omega), hn]) hn40 hi hS hl hP h6 (by rw [q3.2 _ _ (by omega), h8]) hv hb hbody (fun d hd => ?_) (fun hd z D' hT => ⟨hT.tw, her b z D' (Or.inl ⟨hd, rfl⟩) (hT.of q3.cF)⟩)
  have q6 := ((q3.dI (a := X + 17) (i := st.length) (v := ni d.1) (by omega)).dI (a := X + 18) (i := st.length) (v := ni d.2.1) (by omega)).dI (a := X + 19) (i := st.length) (v := md_b d.2.2) (by omega)
  simp (disch := omega) only [sb_v, sw_gu, sw_ite, sw_some, sw_bv]
  refine ⟨decide_eq_true hlv, ?_⟩
  rw [r _ _ (by omega) (by omega) (by omega) (by omega) (by omega), dI_eq, r _ _ (by omega) (by omega) (by omega) (by omega) (by omega), dI_ne (by omega), dI_ne (by omega), dI_eq]
  simp only [md_b_0]
  cases hc : d.2.2
  · rw [if_pos rfl]
    rw [hc] at q6
    refine hok d hd hc _ (STK_new hst.2 ?_ (fun a j h1 h2 hj => ?_) ⟨?_, ?_, ?_, ?_, ?_⟩) q6
    · rw [dI_ne (by omega), dI_ne (by omega), dI_ne (by omega), dI_eq]
    · rw [dI_ne (by omega), dI_ne (by omega), dI_ne (by omega), dI_ne (by omega), dI_ne (by omega), dI_ne (by omega)]
    · rw [dI_ne (by omega), dI_ne (by omega), dI_ne (by omega), dI_ne (by omega), dI_ne (by omega), dI_eq]
    · rw [dI_ne (by omega), dI_ne (by omega), dI_ne (by omega), dI_ne (by omega), dI_eq]
    · rw [dI_ne (by omega), dI_ne (by omega), dI_eq]
    · rw [dI_ne (by omega), dI_eq]
    · rw [dI_eq]; exact congrArg md_b hc.symm
  · rw [if_neg (fun z => nomatch z)]
    rw [hc] at q6
    refine ⟨decide_eq_true hlv, ?_⟩
    exact c29 hX ((q6.cF.trans cF_ts).trans cF_cs) (fun z D' hT => ⟨hT.tw, her d.1 z D' (Or.inr ⟨d, hd, hc, rfl⟩) hT⟩)
end CPB
