/-- heaps that agree but for some cells -/
def fr (S : Nat → Nat → Prop) (D E : sm_D) : Prop := E.2 = D.2 ∧ ∀ c j, ¬ S c j → E.1 c j = D.1 c j
def sTy (X i c j : Nat) : Prop := rsc X c j ∨ (c = X + 49 ∧ j = 47) ∨ ((c = X + 64 ∨ c = X + 65) ∧ (j = 2 * i ∨ j = 2 * i + 1)) ∨ (X + 66 ≤ c ∧ c ≤ X + 69 ∧ 6 * i ≤ j ∧ j < 6 * i + 6) ∨ ((c = X + 56 ∨ c = X + 61) ∧ j = i)
def sCo (X i c j : Nat) : Prop := rsc X c j ∨ (c = X + 49 ∧ j = 47) ∨ ((c = X + 57 ∨ c = X + 58) ∧ j = i)
/-- where a field's text stands -/
def FT (X : Nat) (T : Nat → Int32) (N f c y : Nat) (D : sm_D) : Prop := f < 200 ∧ D.1 (X + 73) f = ni (c + 1) ∧ D.1 (X + 74) f = ni y ∧ c < y ∧ y ≤ N ∧ (∀ p, c + 1 ≤ p → p < y → T p = ni 13 → p + 2 < y ∧ md_bl (T (p + 2)) = true) ∧ ∀ k, c + 1 ≤ k → k < y → ∃ n, n < 128 ∧ T k = ni n
section RGG
variable {C : sm_K} {X N e q i : Nat} {T : Nat → Int32} {D E F : sm_D} {Q : (Option Value ⊕ Nat) → sm_D → Prop} {l : List Int32} {b a z : Int32} {ps : List (List Int32 × List Int32)}
theorem fr.refl {S : Nat → Nat → Prop} : fr S D D := ⟨rfl, fun _ _ _ => rfl⟩
theorem fr.trans {S : Nat → Nat → Prop} (h : fr S D E) (g : fr S E F) : fr S D F := ⟨g.1.trans h.1, fun c j hc => (g.2 c j hc).trans (h.2 c j hc)⟩
theorem fr.dI {S : Nat → Nat → Prop} {c j : Nat} {v : Int32} (h : fr S D E) (hc : S c j) : fr S D (sm_dI E c j v) := ⟨h.1, fun c' j' hc' => by rw [dI_ne (fun z => hc' (by rw [z.1, z.2]; exact hc))]; exact h.2 c' j' hc'⟩
theorem fr.Fr {S : Nat → Nat → Prop} (h : fr S D E) (hS : ∀ c j, S c j → rRR X c j) : rF X D E := ⟨by rw [h.1], fun c j hc => h.2 c j (fun g => hc (hS c j g)), fun c j _ => by rw [h.1]⟩
theorem fr.Fr2 {S : Nat → Nat → Prop} (h : fr S D E) (hS : ∀ c j, S c j → rR2 X c j) : rF2 X D E := ⟨by rw [h.1], fun c j hc => h.2 c j (fun g => hc (hS c j g)), fun c j _ => by rw [h.1]⟩
theorem RS.fr {S : Nat → Nat → Prop} (h : RS X D q l b a z E) (hS : ∀ c j, rsc X c j → S c j) : fr S D E := ⟨h.1, fun c j hc => h.o (fun g => hc (hS c j g))⟩
theorem FT.ro {f c y : Nat} (h : FT X T N f c y D) : ro T y (md_go T y (c + 1)) := by
  obtain ⟨h1, h2, h3, h4, h5, h6, h7⟩ := h
  refine ⟨md_go_ok (by omega) h6, fun k hk => h7 k ?_⟩
  have : c + 1 ≤ md_go T y (c + 1) := by unfold md_go; split <;> omega
  omega
theorem r176' (h : rH C X T N D) (h8 : D.1 (X + 49) 8 = sm_k (-1)) (hT : RT X l D) {f c y : Nat} (hf : FT X T N f c y D)
    (hq : ∀ E', rW C X T N y (sm_dI D (X + 49) 47 (ni y)) → RS X (sm_dI D (X + 49) 47 (ni y)) (md_go T y (c + 1)) l (D.1 (X + 49) 50) (D.1 (X + 49) 48) (D.1 (X + 49) 49) E' → Q (.inl none) E') : sw (sm_fe C 176 [.ref (X + 49), .int (ni f)] D) Q := by
  obtain ⟨h1, h2, h3, h4, h5, h6, h7⟩ := hf
  have hW : rW C X T N y (sm_dI D (X + 49) 47 (ni y)) := ⟨⟨h.1, h.2.1, h.2.2.1, fun i hi => by rw [dI_ne (by omega)]; exact h.2.2.2.1 i hi, h.2.2.2.2⟩, h5, dI_eq, by rw [dI_ne (by omega)]; exact h8⟩
  exact r176 h h8 hT h1 h2 h3 h4 h5 h6 (fun E' hE => hq E' hW hE)
theorem md_go_le {y p : Nat} (h : p ≤ y) : p ≤ md_go T y p := by unfold md_go; split <;> omega
theorem st_m52 (h : tx C) : st C (C.1.1 52) (md_w "multipart") := st_tx h 52 rfl rfl (by decide) (by decide)
/-- a type -/
theorem r175 (h : rH C X T N D) (h8 : D.1 (X + 49) 8 = sm_k (-1)) (hT : RT X l D) {f c y dep : Nat} (hf : FT X T N f c y D) (hi : i < 40) (h61 : D.1 (X + 61) i = ni 0) (h62 : D.1 (X + 62) i = ni dep) (hdep : dep < 1000) (hl : l.length + (y - c) ≤ 24000)
    (hok : ∀ t, md_type T y dep (md_go T y (c + 1)) = .ok t → ∀ E' m, fr (sTy X i) D E' → RT X (l ++ m) E' → SLT (l ++ m) (E'.1 (X + 64) (2 * i)) (E'.1 (X + 65) (2 * i)) t.1 → SLT (l ++ m) (E'.1 (X + 64) (2 * i + 1)) (E'.1 (X + 65) (2 * i + 1)) t.2.1 → RP X i t.2.2 (l ++ m) E' → E'.1 (X + 56) i = md_b (md_Ty.multi t) → (l ++ m).length ≤ l.length + (y - c) → Q (.inl none) E')
    (her : ∀ f, md_type T y dep (md_go T y (c + 1)) = .error f → ∀ E', rE X D f E' → Q (.inl none) E') :
    sw (sm_fe C 175 [.ref (X + 49), .int (ni i), .int (ni f)] D) Q := by
  have hX := h.1
  have hx := h.2.1
  have hN := h.2.2.1
  have hyN := hf.2.2.2.2.1
  have hcy := hf.2.2.2.1
  have hro := hf.ro
  have hle := md_go_le (T := T) (show c + 1 ≤ y by omega)
  have sub : ∀ c j, sTy X i c j → rRR X c j := by intro c j; unfold sTy rsc rRR; omega
  -- with a fault
  have x172 : ∀ {E : sm_D} {f : Nat} {v3 : Int32}, rX X D f E → (∀ E', rX X D f E' → Q (.inl none) E') → sw (sm_fx C 175 172 [.ref (X + 49), .int (ni i), sm_junk, .int v3] [] E) Q := by
    intro E f v3 hE hQ
    refine sw_ge (n175_172 hX) ?_
    simp only [sw_bv, r191x hX hE.ne, sw_some, sb_v, sw_ite, hE.ne, if_false]
    exact hQ E hE
  have x136 : ∀ {E : sm_D} {f : Nat} {v3 : Int32}, rX X D f E → (∀ E', rX X D f E' → Q (.inl none) E') → sw (sm_fx C 175 136 [.ref (X + 49), .int (ni i), sm_junk, .int v3] [] E) Q := by
    intro E f v3 hE hQ
    refine sw_ge (n175_136 hX) ?_
    simp only [sw_ite, hE.ne, if_false]
    exact x172 hE hQ
  have x96 : ∀ {E : sm_D} {f : Nat} {v3 : Int32}, rX X D f E → (∀ E', rX X D f E' → Q (.inl none) E') → sw (sm_fx C 175 96 [.ref (X + 49), .int (ni i), sm_junk, .int v3] [] E) Q := by
    intro E f v3 hE hQ
    refine sw_ge (n175_96 hX) ?_
    simp (disch := omega) only [sw_gu, ni_mul, ni_add, ni_in, ni_nat, sw_ite, sw_bv]
    refine ⟨decide_eq_true (by omega), decide_eq_true (by omega), ?_⟩
    have h3 := (hE.dI (c := X + 64) (j := 2 * i + 1) (v := E.1 (X + 49) 48) (Or.inr (by omega)) (by omega)).dI (c := X + 65) (j := 2 * i + 1) (v := (sm_dI E (X + 64) (2 * i + 1) (E.1 (X + 49) 48)).1 (X + 49) 49) (Or.inr (by omega)) (by omega)
    rw [if_neg (cast h3.ne)]
    exact x136 h3 hQ
  have x82 : ∀ {E : sm_D} {f : Nat} {v3 : Int32}, rX X D f E → (∀ E', rX X D f E' → Q (.inl none) E') → sw (sm_fx C 175 82 [.ref (X + 49), .int (ni i), sm_junk, .int v3] [] E) Q := by
    intro E f v3 hE hQ
    refine sw_ge (n175_82 hX) ?_
    simp only [sw_ite, hE.ne, if_false]
    exact x96 hE hQ
  have x64 : ∀ {E : sm_D} {f : Nat} {v3 : Int32}, rX X D f E → (∀ E', rX X D f E' → Q (.inl none) E') → sw (sm_fx C 175 64 [.ref (X + 49), .int (ni i), sm_junk, .int v3] [] E) Q := by
    intro E f v3 hE hQ
    refine sw_ge (n175_64 hX) ?_
    simp only [sw_bv, r187x hX hE.ne, sw_some, sb_v, sw_ite, hE.ne, if_false]
    exact x82 hE hQ
  have x23 : ∀ {E : sm_D} {f : Nat}, rX X D f E → (∀ E', rX X D f E' → Q (.inl none) E') → sw (sm_fx C 175 23 [.ref (X + 49), .int (ni i), sm_junk, sm_junk] [] E) Q := by
    intro E f hE hQ
    refine sw_ge (n175_23 hX) ?_
    simp (disch := omega) only [sw_gu, ni_mul, ni_in, ni_nat, sw_ite, sw_bv]
    refine ⟨decide_eq_true (by omega), decide_eq_true (by omega), ?_⟩
    have h3 := (hE.dI (c := X + 64) (j := 2 * i) (v := E.1 (X + 49) 48) (Or.inr (by omega)) (by omega)).dI (c := X + 65) (j := 2 * i) (v := (sm_dI E (X + 64) (2 * i) (E.1 (X + 49) 48)).1 (X + 49) 49) (Or.inr (by omega)) (by omega)
    rw [if_neg (cast h3.ne)]
    exact x64 h3 hQ
  have herx : ∀ {f : Nat}, md_type T y dep (md_go T y (c + 1)) = .error f → ∀ E', rX X D f E' → Q (.inl none) E' := fun hf E' hE => her _ hf E' hE.1
  unfold md_type at hok herx
  refine sw_ge (f175 hX) ?_
  simp only [sw_bv]
  refine r176' h h8 hT hf (fun E1 hW hE1 => ?_)
  have hF1 : rF X D (sm_dI D (X + 49) 47 (ni y)) := rF.refl.dI (Or.inl (by omega))
  simp only [sb_v, sw_bv]
  refine r178 hW hE1 hro.1 (fun p1 h1 E2 hE2 => ?_) (fun f h1 E2 hE2 => ?_)
  rotate_left
  · simp only [sb_v, sw_ite, hE2.ne, if_false]
    exact x23 (hE2.of hF1) (herx (by rw [h1]; rfl))
  obtain ⟨o1, l1⟩ := md_space_ok hro.1 h1
  have o1e := o1.1
  have q1 := hro.le o1 l1
  simp only [h1, bind, Except.bind] at hok herx
  simp only [sb_v, sw_ite, (hE2.W hW).2.2.2, if_true, sw_bv]
  refine r182 hW true true hE2 o1 (by omega) (fun xa p2 h2 E3 hE3 => ?_) (fun f h2 E3 hE3 => ?_)
  rotate_left
  · have h2' : md_word T y md_tok 0 p1 = .error f := h2
    simp only [sb_v]
    exact x23 (hE3.of hF1) (herx (by rw [h2']))
  have h2' : md_word T y md_tok 0 p1 = .ok (xa, p2) := h2
  obtain ⟨o2, l2⟩ := md_word_ok o1 h2
  have o2e := o2.1
  have q2 := q1.le o2 (by omega)
  simp only [h2'] at hok herx
  simp only [sb_v]
  have hsx : md_sx true xa = xa.map md_sm := rfl
  rw [hsx] at hE3
  have hxl : (xa.map md_sm).length = xa.length := List.length_map ..
  refine sw_ge (n175_23 hX) ?_
  simp (disch := omega) only [sw_gu, ni_mul, ni_in, ni_nat, hE3.2.2.2.2.1.2.1, hE3.2.2.2.2.1.1]
  refine ⟨decide_eq_true (by omega), decide_eq_true (by omega), ?_⟩
  rw [show sm_up E3.1 (X + 64) (2 * i) (ni l.length) (X + 49) 49 = ni xa.length by rw [up_ne (by omega)]; exact hE3.2.2.2.2.1.2.2]
  have hS4 := (hE3.dI (c := X + 64) (j := 2 * i) (ni l.length) (by unfold rsc; omega)).dI (c := X + 65) (j := 2 * i) (ni xa.length) (by unfold rsc; omega)
  have hP4 : fr (sTy X i) D (sm_dI (sm_dI (sm_dI D (X + 49) 47 (ni y)) (X + 64) (2 * i) (ni l.length)) (X + 65) (2 * i) (ni xa.length)) := ((fr.refl.dI (by unfold sTy; omega)).dI (by unfold sTy; omega)).dI (by unfold sTy; omega)
  have hW4 : rW C X T N y (sm_dI (sm_dI (sm_dI D (X + 49) 47 (ni y)) (X + 64) (2 * i) (ni l.length)) (X + 65) (2 * i) (ni xa.length)) :=
    ⟨⟨hX, hx, hN, fun k hk => by rw [dI_ne (by omega), dI_ne (by omega), dI_ne (by omega)]; exact h.2.2.2.1 k hk, h.2.2.2.2⟩, hyN, by rw [dI_ne (by omega), dI_ne (by omega), dI_eq], by rw [dI_ne (by omega), dI_ne (by omega), dI_ne (by omega)]; exact h8⟩
  simp only [sw_ite, sw_bv]
  rw [if_pos (hS4.W hW4).2.2.2]
  generalize hD4 : sm_dI (sm_dI (sm_dI D (X + 49) 47 (ni y)) (X + 64) (2 * i) (ni l.length)) (X + 65) (2 * i) (ni xa.length) = D4 at hS4 hP4 hW4
  generalize sm_dI (sm_dI E3 (X + 64) (2 * i) (ni l.length)) (X + 65) (2 * i) (ni xa.length) = E4 at hS4
  have hF4 := hP4.Fr sub
  have d64 : D4.1 (X + 64) (2 * i) = ni l.length := by rw [← hD4, dI_ne (by omega), dI_eq]
  have d65 : D4.1 (X + 65) (2 * i) = ni xa.length := by rw [← hD4, dI_eq]
  have d61 : D4.1 (X + 61) i = ni 0 := by rw [← hD4, dI_ne (by omega), dI_ne (by omega), dI_ne (by omega), h61]
  have d62 : D4.1 (X + 62) i = ni dep := by rw [← hD4, dI_ne (by omega), dI_ne (by omega), dI_ne (by omega), h62]
  refine r178 hW4 hS4 o2 (fun p3 h3 E5 hE5 => ?_) (fun f h3 E5 hE5 => ?_)
  rotate_left
  · simp only [sb_v]
    exact x64 (hE5.of hF4) (herx (by rw [h3]))
  obtain ⟨o3, l3⟩ := md_space_ok o2 h3
  have o3e := o3.1
  have q3 := q2.le o3 l3
  simp only [h3] at hok herx
  simp only [sb_v]
  refine sw_ge (n175_64 hX) ?_
  simp only [sw_bv]
  refine r187 hW4 hE5 o3 (by omega) (fun p4 h4 E6 hE6 => ?_) (fun f h4 E6 hE6 => ?_)
  rotate_left
  · simp only [sb_v, sw_ite, hE6.ne, if_false]
    exact x82 (hE6.of hF4) (herx (by rw [h4]))
  obtain ⟨o4, l4⟩ := md_eat_ok o3 h4
  have o4e := o4.1
  have q4 := q3.le o4 l4
  simp only [h4] at hok herx
  simp only [sb_v, sw_ite, (hE6.W hW4).2.2.2, if_true, sw_bv]
  refine r178 hW4 hE6 o4 (fun p5 h5 E7 hE7 => ?_) (fun f h5 E7 hE7 => ?_)
  rotate_left
  · simp only [sb_v]
    exact x82 (hE7.of hF4) (herx (by rw [h5]))
  obtain ⟨o5, l5⟩ := md_space_ok o4 h5
  have o5e := o5.1
  have q5 := q4.le o5 l5
  simp only [h5] at hok herx
  simp only [sb_v]
  refine sw_ge (n175_82 hX) ?_
  simp only [sw_ite, (hE7.W hW4).2.2.2, if_true, sw_bv]
  refine r182 hW4 true true hE7 o5 (by rw [List.length_append, hxl]; omega) (fun xb p6 h6 E8 hE8 => ?_) (fun f h6 E8 hE8 => ?_)
  rotate_left
  · have h6' : md_word T y md_tok 0 p5 = .error f := h6
    simp only [sb_v]
    exact x96 (hE8.of hF4) (herx (by rw [h6']))
  have h6' : md_word T y md_tok 0 p5 = .ok (xb, p6) := h6
  obtain ⟨o6, l6⟩ := md_word_ok o5 h6
  have o6e := o6.1
  have q6 := q5.le o6 (by omega)
  simp only [h6'] at hok herx
  simp only [sb_v]
  have hsx2 : md_sx true xb = xb.map md_sm := rfl
  rw [hsx2] at hE8
  have hxl2 : (xb.map md_sm).length = xb.length := List.length_map ..
  refine sw_ge (n175_96 hX) ?_
  simp (disch := omega) only [sw_gu, ni_mul, ni_add, ni_in, ni_nat, hE8.2.2.2.2.1.2.1]
  refine ⟨decide_eq_true (by omega), decide_eq_true (by omega), ?_⟩
  rw [show sm_up E8.1 (X + 64) (2 * i + 1) (ni (l ++ xa.map md_sm).length) (X + 49) 49 = ni xb.length by rw [up_ne (by omega)]; exact hE8.2.2.2.2.1.2.2]
  have hS9 := (hE8.dI (c := X + 64) (j := 2 * i + 1) (ni (l ++ xa.map md_sm).length) (by unfold rsc; omega)).dI (c := X + 65) (j := 2 * i + 1) (ni xb.length) (by unfold rsc; omega)
  have hP9 : fr (sTy X i) D (sm_dI (sm_dI D4 (X + 64) (2 * i + 1) (ni (l ++ xa.map md_sm).length)) (X + 65) (2 * i + 1) (ni xb.length)) := (hP4.dI (by unfold sTy; omega)).dI (by unfold sTy; omega)
  have hW9 : rW C X T N y (sm_dI (sm_dI D4 (X + 64) (2 * i + 1) (ni (l ++ xa.map md_sm).length)) (X + 65) (2 * i + 1) (ni xb.length)) :=
    ⟨⟨hX, hx, hN, fun k hk => by rw [dI_ne (by omega), dI_ne (by omega)]; exact hW4.1.2.2.2.1 k hk, h.2.2.2.2⟩, hyN, by rw [dI_ne (by omega), dI_ne (by omega)]; exact hW4.2.2.1, by rw [dI_ne (by omega), dI_ne (by omega)]; exact hW4.2.2.2⟩
  simp only [sw_ite, sw_bv]
  rw [if_pos (hS9.W hW9).2.2.2]
  generalize hD9 : sm_dI (sm_dI D4 (X + 64) (2 * i + 1) (ni (l ++ xa.map md_sm).length)) (X + 65) (2 * i + 1) (ni xb.length) = D9 at hS9 hP9 hW9
  generalize sm_dI (sm_dI E8 (X + 64) (2 * i + 1) (ni (l ++ xa.map md_sm).length)) (X + 65) (2 * i + 1) (ni xb.length) = E9 at hS9
  have hF9 := hP9.Fr sub
  have g64 : D9.1 (X + 64) (2 * i) = ni l.length := by rw [← hD9, dI_ne (by omega), dI_ne (by omega), d64]
  have g65 : D9.1 (X + 65) (2 * i) = ni xa.length := by rw [← hD9, dI_ne (by omega), dI_ne (by omega), d65]
  have g64' : D9.1 (X + 64) (2 * i + 1) = ni (l ++ xa.map md_sm).length := by rw [← hD9, dI_ne (by omega), dI_eq]
  have g65' : D9.1 (X + 65) (2 * i + 1) = ni xb.length := by rw [← hD9, dI_eq]
  have g61 : D9.1 (X + 61) i = ni 0 := by rw [← hD9, dI_ne (by omega), dI_ne (by omega), d61]
  have g62 : D9.1 (X + 62) i = ni dep := by rw [← hD9, dI_ne (by omega), dI_ne (by omega), d62]
  refine r178 hW9 hS9 o6 (fun p7 h7 Ea hEa => ?_) (fun f h7 Ea hEa => ?_)
  rotate_left
  · simp only [sb_v]
    exact x136 (hEa.of hF9) (herx (by rw [h7]))
  obtain ⟨o7, l7⟩ := md_space_ok o6 h7
  have o7e := o7.1
  have q7 := q6.le o7 l7
  simp only [h7] at hok herx
  simp only [sb_v]
  have sP : ∀ {A B : sm_D}, rP X i A B → (∀ c j, c = X + 64 ∨ c = X + 65 ∨ c = X + 56 ∨ c = X + 57 ∨ c = X + 58 → B.1 c j = A.1 c j) → fr (sTy X i) A B := fun {A B} g1 g2 => ⟨g1.1, fun c j hc => by
    by_cases hh : c = X + 64 ∨ c = X + 65 ∨ c = X + 56 ∨ c = X + 57 ∨ c = X + 58
    · exact g2 c j hh
    · exact g1.2 c j (fun g => hc (by unfold rO at g; unfold sTy; omega))⟩
  -- the parameters
  have loop : ∀ (n p : Nat) (ps : List (List Int32 × List Int32)) (m : List Int32) (A B : sm_D) (b a z : Int32), ps.length + n = 6 → rW C X T N y A → RS X A p (((l ++ xa.map md_sm) ++ xb.map md_sm) ++ m) b a z B → fr (sTy X i) D A → (∀ c j, c = X + 64 ∨ c = X + 65 ∨ c = X + 56 ∨ c = X + 57 ∨ c = X + 58 → A.1 c j = D9.1 c j) → A.1 (X + 62) i = ni dep → RP X i ps (((l ++ xa.map md_sm) ++ xb.map md_sm) ++ m) A → ro T y p → (((l ++ xa.map md_sm) ++ xb.map md_sm) ++ m).length + (y - p) ≤ l.length + (y - c) →
      (∀ ps' p8, md_pars T y n ps p = .ok (ps', p8) → ∀ m' A' B' b' a' z', rW C X T N y A' → RS X A' p8 (((l ++ xa.map md_sm) ++ xb.map md_sm) ++ m') b' a' z' B' → fr (sTy X i) D A' → (∀ c j, c = X + 64 ∨ c = X + 65 ∨ c = X + 56 ∨ c = X + 57 ∨ c = X + 58 → A'.1 c j = D9.1 c j) → A'.1 (X + 62) i = ni dep → RP X i ps' (((l ++ xa.map md_sm) ++ xb.map md_sm) ++ m') A' → ro T y p8 → (((l ++ xa.map md_sm) ++ xb.map md_sm) ++ m').length + (y - p8) ≤ l.length + (y - c) → sw (sm_fx C 175 172 [.ref (X + 49), .int (ni i), sm_junk, .int (ni p1)] [] B') Q) →
      (∀ f, md_pars T y n ps p = .error f → ∀ E', rX X D f E' → Q (.inl none) E') →
      sw (sm_fx C 175 136 [.ref (X + 49), .int (ni i), sm_junk, .int (ni p1)] [] B) Q := by
    intro n
    induction n with
    | zero =>
      intro p ps m A B b a z hn hA hB hfr hsm h62 hRP hp hlen hok her
      rw [md_pars] at hok
      have := hok ps p rfl m A B b a z hA hB hfr hsm h62 hRP hp hlen
      refine sw_ge (n175_136 hX) ?_
      have e61 : B.1 (X + 61) i = ni ps.length := by rw [hB.o (by unfold rsc; omega)]; exact hRP.1
      simp (disch := omega) only [sw_ite, (hB.W hA).2.2.2, if_true, sw_bi, hB.cur hA hp.1.1, sw_some, sb_i, sw_gu, ni_in, ni_nat, e61, ni_le]
      split
      · rw [if_pos (by omega)]
        exact ⟨decide_eq_true hi, this⟩
      · exact this
    | succ n ih =>
      intro p ps m A B b a z hn hA hB hfr hsm h62 hRP hp hlen hok her
      refine sw_ge (n175_136 hX) ?_
      have e61 : B.1 (X + 61) i = ni ps.length := by rw [hB.o (by unfold rsc; omega)]; exact hRP.1
      simp (disch := omega) only [sw_ite, (hB.W hA).2.2.2, if_true, sw_bi, hB.cur hA hp.1.1, sw_some, sb_i, sw_gu, ni_in, ni_nat, e61, ni_le, md_cu_is (show 59 < 2147483648 by omega)]
      unfold md_pars at hok her
      by_cases h59 : p < y ∧ T p = ni 59
      · rw [if_pos h59, if_neg (by omega)]
        rw [if_pos h59] at hok her
        refine ⟨decide_eq_true hi, ?_⟩
        rw [sw_bv]
        refine r188 hA hB hp h59.1 hi (by omega) hRP (by omega) (fun w p6 p7 g1 g2 A' B' m' b' a' z' hB' hPA' hRP' hsm' hlen' hp' => ?_) (fun f hf E' hE => ?_)
        · simp only [sb_v]
          simp only [g1, g2, bind, Except.bind] at hok her
          rw [List.append_assoc] at hB' hRP' hlen'
          exact ih p7 (ps ++ [w]) (m ++ m') A' B' b' a' z' (by rw [List.length_append, List.length_singleton]; omega) (hPA'.W hA) hB' (hfr.trans (sP hPA' hsm')) (fun c j hc => by rw [hsm' c j hc, hsm c j hc]) (by rw [hPA'.2 _ _ (by unfold rO; omega), h62]) hRP' hp' (by omega) hok her
        · simp only [sb_v]
          refine x136 (hE.of (hfr.Fr sub)) (her f ?_)
          rcases hf with hf | ⟨w, p6, hf, hf2⟩
          · simp only [hf, bind, Except.bind]
          · simp only [hf, hf2, bind, Except.bind]
      · rw [if_neg h59]
        rw [if_neg h59] at hok
        exact hok ps p rfl m A B b a z hA hB hfr hsm h62 hRP hp hlen
  refine loop 6 p7 [] [] D9 Ea _ _ _ rfl hW9 (by rw [List.append_nil]; exact hEa) hP9 (fun _ _ _ => rfl) g62 ⟨g61, by decide, fun n w hw => by cases hw⟩ q7 (by rw [List.append_nil, List.length_append, List.length_append, hxl, hxl2]; omega) (fun ps' p8 h9 m' A' B' b' a' z' hA' hB' hfr' hsm' h62' hRP' hp8 hlen' => ?_) (fun f h9 => herx (by rw [h9]))
  simp only [h9] at hok herx
  refine sw_ge (n175_172 hX) ?_
  simp only [sw_bv]
  refine r191 hA' hB' hp8.1 (fun h10 => ?_) (fun f h10 E' hE => ?_)
  rotate_left
  · simp only [sb_v, sw_ite, hE.ne, if_false, sw_some]
    exact herx (by rw [h10]) E' (hE.of (hfr'.Fr sub))
  simp only [h10] at hok herx
  have B64 : B'.1 (X + 64) (2 * i) = ni l.length := by rw [hB'.o (by unfold rsc; omega), hsm' _ _ (by omega), g64]
  have B65 : B'.1 (X + 65) (2 * i) = ni xa.length := by rw [hB'.o (by unfold rsc; omega), hsm' _ _ (by omega), g65]
  have tx1 : SLT (((l ++ xa.map md_sm) ++ xb.map md_sm) ++ m') (ni l.length) (ni (xa.map md_sm).length) (xa.map md_sm) := (SLT.new (l := l) (xs := xa.map md_sm)).mono.mono
  have tx2 : SLT (((l ++ xa.map md_sm) ++ xb.map md_sm) ++ m') (ni (l ++ xa.map md_sm).length) (ni (xb.map md_sm).length) (xb.map md_sm) := (SLT.new (l := l ++ xa.map md_sm) (xs := xb.map md_sm)).mono
  rw [hxl] at tx1
  rw [hxl2] at tx2
  have smsm : (xa.map md_sm).map md_sm = xa.map md_sm := by rw [List.map_map]; exact List.map_congr_left (fun c _ => md_sm_sm c)
  obtain ⟨c1, v1, v2, v3, v4⟩ := tx1.at hB'.2.2.2.1
  have hc1 : c1 = l.length := by
    have hll : l.length ≤ 24000 := by omega
    have hcc : c1 ≤ 24000 := by omega
    rw [ni_inj (by omega) (by omega)] at v1
    exact v1.symm
  subst hc1
  simp (disch := omega) only [sb_v, sw_ite, (hB'.W hA').2.2.2, if_true, sw_gu, ni_mul, ni_in, ni_nat, B64, B65, sw_bi, r192 hX (st_m52 hx) hxl (show l.length + xa.length ≤ 24000 by omega) (fun j hj => v4 j (by omega)), sw_some, sb_i, smsm, nar_bb, up_eq, md_b_0]
  refine ⟨decide_eq_true (by omega), decide_eq_true (by omega), decide_eq_true (by omega), decide_eq_true (by omega), ?_⟩
  have hmul : md_Ty.multi ((xa.map md_sm, xb.map md_sm, ps') : md_Ty) = decide (xa.map md_sm = md_w "multipart") := by
    unfold md_Ty.multi
    rw [Bool.eq_iff_iff, beq_iff_eq, decide_eq_true_eq]
  have hQ : Except.ok ((xa.map md_sm, xb.map md_sm, ps') : md_Ty) = (if xa.map md_sm = md_w "multipart" ∧ ¬ (dep < 6 ∧ (md_bv ps').any md_rb = true) then (.error p1 : Except Nat md_Ty) else .ok (xa.map md_sm, xb.map md_sm, ps')) → Q (.inl none) (sm_dI B' (X + 56) i (md_b (decide (xa.map md_sm = md_w "multipart")))) := by
    intro hh
    have := hok (xa.map md_sm, xb.map md_sm, ps') hh.symm (sm_dI B' (X + 56) i (md_b (decide (xa.map md_sm = md_w "multipart")))) (xa.map md_sm ++ (xb.map md_sm ++ m'))
    simp only [← List.append_assoc] at this
    refine this ((hfr'.trans (hB'.fr (fun c j hc => Or.inl hc))).dI (by unfold sTy; omega)) ⟨by rw [dI_ne (by omega)]; exact hB'.2.2.1, fun k hk => by rw [dI_ne (by omega)]; exact hB'.2.2.2.1 k hk⟩ ?_ ?_ ?_ ?_ (by omega)
    · rw [up_ne (by omega), up_ne (by omega), B64, B65]; exact tx1
    · rw [up_ne (by omega), up_ne (by omega), hB'.o (by unfold rsc; omega), hB'.o (by unfold rsc; omega), hsm' _ _ (by omega), hsm' _ _ (by omega), g64', g65']; exact tx2
    · exact hRP'.of (fun c j hc => by rw [dI_ne (by omega), hB'.o (by unfold rsc; omega)])
    · rw [up_eq, hmul]
  have hS' := hB'.dI (c := X + 56) (j := i) (md_b (decide (xa.map md_sm = md_w "multipart"))) (by unfold rsc; omega)
  have hfr2 : fr (sTy X i) D (sm_dI A' (X + 56) i (md_b (decide (xa.map md_sm = md_w "multipart")))) := hfr'.dI (by unfold sTy; omega)
  have hW2 : rW C X T N y (sm_dI A' (X + 56) i (md_b (decide (xa.map md_sm = md_w "multipart")))) := ⟨⟨hX, hx, hN, fun k hk => by rw [dI_ne (by omega)]; exact hA'.1.2.2.2.1 k hk, h.2.2.2.2⟩, hyN, by rw [dI_ne (by omega)]; exact hA'.2.2.1, by rw [dI_ne (by omega)]; exact hA'.2.2.2⟩
  have n242 : Except.error p1 = (if xa.map md_sm = md_w "multipart" ∧ ¬ (dep < 6 ∧ (md_bv ps').any md_rb = true) then (.error p1 : Except Nat md_Ty) else .ok (xa.map md_sm, xb.map md_sm, ps')) → sw (sm_fx C 175 242 [.ref (X + 49), sm_junk, sm_junk, .int (ni p1)] [] (sm_dI B' (X + 56) i (md_b (decide (xa.map md_sm = md_w "multipart"))))) Q := by
    intro hh
    refine sw_ge (n175_242 hX) ?_
    simp only [sw_bv, r162 hX (hS'.W hW2).2.2.2, sw_some, sb_v]
    exact herx hh.symm _ ((hS'.bad hW2 hp8.1.1 (by omega)).of (hfr2.Fr sub))
  by_cases hm : xa.map md_sm = md_w "multipart"
  · rw [decide_eq_true hm]
    rw [decide_eq_true hm] at hQ n242 hS'
    rw [if_neg (fun z => nomatch z)]
    have hRT : RT X (((l ++ xa.map md_sm) ++ xb.map md_sm) ++ m') (sm_dI B' (X + 56) i (md_b true)) := hS'.RT
    have hRP2 : RP X i ps' (((l ++ xa.map md_sm) ++ xb.map md_sm) ++ m') (sm_dI B' (X + 56) i (md_b true)) := hRP'.of (fun c j hc => by rw [dI_ne (by omega), hB'.o (by unfold rsc; omega)])
    rw [r193 hX hx hi hRT (by omega) hRP2, sw_some]
    simp only [sb_i, sw_ite, md_bo_iff (show 6 * i + ps'.length < 2147483648 by have := hRP'.2.1; omega)]
    by_cases hb : (md_bv ps').any md_rb = true
    · rw [if_neg (fun z => z hb)]
      have e62 : sm_up B'.1 (X + 56) i (md_b true) (X + 62) i = ni dep := by rw [up_ne (by omega), hB'.o (by unfold rsc; omega), h62']
      simp (disch := omega) only [sw_gu, ni_in, ni_nat, e62, ni_le, sw_ite, sw_some]
      refine ⟨decide_eq_true hi, ?_⟩
      by_cases hd : dep ≤ 5
      · rw [if_pos hd]
        exact hQ (by rw [if_neg (fun z => z.2 ⟨by omega, hb⟩)])
      · rw [if_neg hd]
        exact n242 (by rw [if_pos ⟨hm, fun z => by omega⟩])
    · rw [if_pos hb]
      exact n242 (by rw [if_pos ⟨hm, fun z => hb z.2⟩])
  · rw [decide_eq_false hm]
    rw [decide_eq_false hm] at hQ
    rw [if_pos rfl]
    exact hQ (by rw [if_neg (fun z => hm z.1)])
end RGG
