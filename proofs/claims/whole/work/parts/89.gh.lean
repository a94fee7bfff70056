section RGH
variable {C : sm_K} {X N e q i : Nat} {T : Nat → Int32} {D E F : sm_D} {Q : (Option Value ⊕ Nat) → sm_D → Prop} {l : List Int32} {b a z : Int32}
theorem RS.back {m : List Int32} (h : RS X D q (l ++ m) b a z E) : RS X D q l b a z (sm_dI E (X + 49) 20 (ni l.length)) := by
  obtain ⟨h1, h2, h3, h4, ⟨h5, h6, h7⟩, h8⟩ := h
  exact ⟨h1, by rw [dI_ne (by omega), h2], dI_eq, fun i hi => by rw [dI_ne (by omega), h4 i (by rw [List.length_append]; omega), md_nth_app hi], ⟨by rw [dI_ne (by omega), h5], by rw [dI_ne (by omega), h6], by rw [dI_ne (by omega), h7]⟩, fun c j hc => by rw [dI_ne (fun z => hc (by unfold rsc; omega)), h8 c j hc]⟩
theorem md_smsm {xs : List Int32} : (xs.map md_sm).map md_sm = xs.map md_sm := by rw [List.map_map]; exact List.map_congr_left (fun c _ => md_sm_sm c)
/-- a code -/
theorem r195 (h : rH C X T N D) (h8 : D.1 (X + 49) 8 = sm_k (-1)) (hT : RT X l D) {f c y : Nat} (hf : FT X T N f c y D) (hi : i < 40) (hl : l.length + (y - c) ≤ 24000)
    (hok : ∀ k p1, md_code T y (md_go T y (c + 1)) = .ok (k, p1) → ∀ E', fr (sCo X i) D E' → RT X l E' → E'.1 (X + 57) i = ni k → E'.1 (X + 58) i = ni p1 → k ≤ 4 → p1 ≤ y → Q (.inl none) E')
    (her : ∀ f, md_code T y (md_go T y (c + 1)) = .error f → ∀ E', rE X D f E' → Q (.inl none) E') :
    sw (sm_fe C 195 [.ref (X + 49), .int (ni i), .int (ni f)] D) Q := by
  have hX := h.1
  have hx := h.2.1
  have hN := h.2.2.1
  have hyN := hf.2.2.2.2.1
  have hcy := hf.2.2.2.1
  have hro := hf.ro
  have hle := md_go_le (T := T) (show c + 1 ≤ y by omega)
  have sub : ∀ c j, sCo X i c j → rRR X c j := by intro c j; unfold sCo rsc rRR; omega
  have x23 : ∀ {E : sm_D} {f : Nat}, rX X D f E → Q (.inl none) E → sw (sm_fx C 195 23 [.ref (X + 49), .int (ni i), sm_junk] [] E) Q := by
    intro E f hE hQ
    refine sw_ge (n195_23 hX) ?_
    simp only [sw_ite, hE.ne, if_false, sw_some]
    exact hQ
  have x197 : ∀ {E : sm_D} {f : Nat}, rX X D f E → Q (.inl none) E → sw (sm_fx C 195 197 [.ref (X + 49), sm_junk, sm_junk] [] E) Q := by
    intro E f hE hQ
    refine sw_ge (n195_197 hX) ?_
    simp only [sw_bv, r191x hX hE.ne, sw_some, sb_v]
    exact hQ
  unfold md_code at hok her
  refine sw_ge (f195 hX) ?_
  simp only [sw_bv]
  refine r176' h h8 hT hf (fun E1 hW hE1 => ?_)
  have hF1 : rF X D (sm_dI D (X + 49) 47 (ni y)) := rF.refl.dI (Or.inl (by omega))
  simp only [sb_v, sw_bv]
  refine r178 hW hE1 hro.1 (fun p1 h1 E2 hE2 => ?_) (fun f h1 E2 hE2 => ?_)
  rotate_left
  · simp only [sb_v, sw_ite, hE2.ne, if_false]
    exact x23 (hE2.of hF1) (her f (by rw [h1]; rfl) _ (hE2.of hF1).1)
  obtain ⟨o1, l1⟩ := md_space_ok hro.1 h1
  have o1e := o1.1
  simp only [h1, bind, Except.bind] at hok her
  simp only [sb_v, sw_ite, (hE2.W hW).2.2.2, if_true, sw_bv]
  refine r182 hW true true hE2 o1 (by omega) (fun xs p2 h2 E3 hE3 => ?_) (fun f h2 E3 hE3 => ?_)
  rotate_left
  · have h2' : md_word T y md_tok 0 p1 = .error f := h2
    simp only [sb_v]
    exact x23 (hE3.of hF1) (her f (by rw [h2']) _ (hE3.of hF1).1)
  have h2' : md_word T y md_tok 0 p1 = .ok (xs, p2) := h2
  obtain ⟨o2, l2⟩ := md_word_ok o1 h2
  have o2e := o2.1
  simp only [h2'] at hok her
  simp only [sb_v]
  have hsx : md_sx true xs = xs.map md_sm := rfl
  rw [hsx] at hE3
  have hxl : (xs.map md_sm).length = xs.length := List.length_map ..
  have told : ∀ j, j < xs.length → E3.1 (X + 63) (l.length + j) = md_nth (xs.map md_sm) j := fun j hj => by rw [hE3.2.2.2.1 _ (by rw [List.length_append, hxl]; omega), md_nth_app2]
  have n148 : ∀ v : Int32, (v = match md_codeOf (xs.map md_sm) with | some k => ni k | none => sm_k (-1)) → sw (sm_fx C 195 148 [.ref (X + 49), .int (ni i), sm_junk] [.int v, .int (ni i), .ref (X + 57)] E3) Q := by
    intro v hv
    refine sw_ge (n195_148 hX) ?_
    have hS4 := (hE3.dI (c := X + 57) (j := i) v (by unfold rsc; omega)).dI (c := X + 58) (j := i) (ni p1) (by unfold rsc; omega)
    have hP4 : fr (sCo X i) D (sm_dI (sm_dI (sm_dI D (X + 49) 47 (ni y)) (X + 57) i v) (X + 58) i (ni p1)) := ((fr.refl.dI (by unfold sCo; omega)).dI (by unfold sCo; omega)).dI (by unfold sCo; omega)
    have hW4 : rW C X T N y (sm_dI (sm_dI (sm_dI D (X + 49) 47 (ni y)) (X + 57) i v) (X + 58) i (ni p1)) :=
      ⟨⟨hX, hx, hN, fun k hk => by rw [dI_ne (by omega), dI_ne (by omega), dI_ne (by omega)]; exact h.2.2.2.1 k hk, h.2.2.2.2⟩, hyN, by rw [dI_ne (by omega), dI_ne (by omega), dI_eq], by rw [dI_ne (by omega), dI_ne (by omega), dI_ne (by omega)]; exact h8⟩
    have e50 : sm_up E3.1 (X + 57) i v (X + 49) 50 = ni p1 := by rw [up_ne (by omega)]; exact hE3.2.2.2.2.1.1
    simp (disch := omega) only [sw_gu, ni_in, ni_nat, e50]
    refine ⟨decide_eq_true hi, decide_eq_true hi, decide_eq_true hi, ?_⟩
    have e57 : sm_up (sm_up E3.1 (X + 57) i v) (X + 58) i (ni p1) (X + 57) i = v := by rw [up_ne (by omega), up_eq]
    have e50' : sm_up (sm_up E3.1 (X + 57) i v) (X + 58) i (ni p1) (X + 49) 50 = ni p1 := by rw [up_ne (by omega), e50]
    simp only [sw_ite, e57, e50', sw_bv]
    cases hk : md_codeOf (xs.map md_sm) with
    | none =>
      rw [hk] at hv
      simp only [hk] at her
      have hv' : v = sm_k (-1) := hv
      rw [if_pos hv', r162 hX (hS4.W hW4).2.2.2, sw_some]
      have hbad := (hS4.bad hW4 o2e (f := p1) (by omega)).of (hP4.Fr sub)
      simp only [sb_v]
      refine sw_ge (n195_177 hX) ?_
      have hb2 := hbad.dI (c := X + 49) (j := 20) (v := (sm_dI (sm_dI (sm_dI E3 (X + 57) i v) (X + 58) i (ni p1)) (X + 49) 8 (ni p1)).1 (X + 49) 48) (Or.inl (by omega)) (by omega)
      simp only [sw_ite]
      rw [if_neg (cast hb2.ne)]
      exact x197 hb2 (her p1 rfl _ hb2.1)
    | some k =>
      rw [hk] at hv
      simp only [hk] at her hok
      have hk4 := md_code_k hk
      have hv' : v = ni k := hv
      rw [if_neg (by rw [hv', ni_ne_k (by omega)]; exact id)]
      refine sw_ge (n195_177 hX) ?_
      have e48 : sm_up (sm_up E3.1 (X + 57) i v) (X + 58) i (ni p1) (X + 49) 48 = ni l.length := by rw [up_ne (by omega), up_ne (by omega)]; exact hE3.2.2.2.2.1.2.1
      have hS5 := hS4.back
      simp only [e48, sw_ite, sw_bv]
      rw [if_pos (hS5.W hW4).2.2.2]
      refine r178 hW4 hS5 o2 (fun p3 h3 E6 hE6 => ?_) (fun f h3 E6 hE6 => ?_)
      rotate_left
      · simp only [sb_v]
        exact x197 (hE6.of (hP4.Fr sub)) (her f (by rw [h3]) _ (hE6.of (hP4.Fr sub)).1)
      obtain ⟨o3, l3⟩ := md_space_ok o2 h3
      simp only [h3] at hok her
      simp only [sb_v]
      refine sw_ge (n195_197 hX) ?_
      simp only [sw_bv]
      refine r191 hW4 hE6 o3 (fun h4 => ?_) (fun f h4 E7 hE7 => ?_)
      · simp only [h4] at hok
        simp only [sb_v, sw_some]
        refine hok k p1 rfl E6 (hP4.trans (hE6.fr (fun c j hc => Or.inl hc))) hE6.RT ?_ ?_ hk4 o1e
        · rw [hE6.o (by unfold rsc; omega), dI_ne (by omega), dI_eq, hv']
        · rw [hE6.o (by unfold rsc; omega), dI_eq]
      · simp only [sb_v, sw_some]
        exact her f (by rw [h4]) E7 (hE7.of (hP4.Fr sub)).1
  refine sw_ge (n195_23 hX) ?_
  have tt : ∀ {s : Nat} {w : List Int32}, st C s w → sm_fe C 192 [.ref (X + 49), .int (ni l.length), .int (ni xs.length), .ref s] E3 = some (.inl (some (.int (md_b (decide (xs.map md_sm = w))))), E3) := fun hs => by
    rw [r192 hX hs hxl (by omega) told, md_smsm]
  simp only [sw_ite, (hE3.W hW).2.2.2, if_true, hE3.2.2.2.2.1.2.1, hE3.2.2.2.2.1.2.2, sw_bi, tt (st_tx hx 54 (s := "7bit") rfl rfl (by decide) (by decide)), tt (st_tx hx 55 (s := "8bit") rfl rfl (by decide) (by decide)), tt (st_tx hx 56 (s := "binary") rfl rfl (by decide) (by decide)), tt (st_tx hx 57 (s := "base64") rfl rfl (by decide) (by decide)), tt (st_tx hx 58 (s := "quoted-printable") rfl rfl (by decide) (by decide)), sw_some, sb_i, md_b_0, decide_eq_false_iff_not]
  unfold md_codeOf at n148
  by_cases c1 : xs.map md_sm = md_w "7bit"
  · rw [if_neg (fun z => z c1)]
    exact n148 _ (by rw [if_pos c1])
  rw [if_pos c1]
  by_cases c2 : xs.map md_sm = md_w "8bit"
  · rw [if_neg (fun z => z c2)]
    exact n148 _ (by rw [if_neg c1, if_pos c2])
  rw [if_pos c2]
  by_cases c3 : xs.map md_sm = md_w "binary"
  · rw [if_neg (fun z => z c3)]
    exact n148 _ (by rw [if_neg c1, if_neg c2, if_pos c3])
  rw [if_pos c3]
  by_cases c4 : xs.map md_sm = md_w "base64"
  · rw [if_neg (fun z => z c4)]
    exact n148 _ (by rw [if_neg c1, if_neg c2, if_neg c3, if_pos c4])
  rw [if_pos c4]
  by_cases c5 : xs.map md_sm = md_w "quoted-printable"
  · rw [if_neg (fun z => z c5)]
    exact n148 _ (by rw [if_neg c1, if_neg c2, if_neg c3, if_neg c4, if_pos c5])
  · rw [if_pos c5]
    exact n148 _ (by rw [if_neg c1, if_neg c2, if_neg c3, if_neg c4, if_neg c5])
end RGH
