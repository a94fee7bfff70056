/-! ===== the reference: its heap while it walks over a text ===== -/
theorem md_a255 : ∀ n, n < 256 → (ni n).toInt8.toInt32 &&& ni 255 = ni n := by decide +kernel
/-- what a walk may change: place, told, where it began, what it read -/
def rsc (X c j : Nat) : Prop := (c = X + 49 ∧ (j = 20 ∨ j = 46 ∨ j = 48 ∨ j = 49 ∨ j = 50)) ∨ c = X + 63
/-- what a reading may change -/
def rRR (X c j : Nat) : Prop := (c = X + 49 ∧ 8 ≤ j ∧ j ≠ 43 ∧ j ≠ 54 ∧ j ≠ 28) ∨ (X + 53 ≤ c ∧ c ≤ X + 88 ∧ c ≠ X + 80 ∧ c ≠ X + 54 ∧ c ≠ X + 55 ∧ ¬ (X + 70 ≤ c ∧ c ≤ X + 74))
/-- and with it the fields' places -/
def rR2 (X c j : Nat) : Prop := (c = X + 49 ∧ 8 ≤ j ∧ j ≠ 43 ∧ j ≠ 54) ∨ (X + 53 ≤ c ∧ c ≤ X + 88 ∧ c ≠ X + 80)
def rF2 (X : Nat) (D E : sm_D) : Prop := E.2.2 = D.2.2 ∧ (∀ c j, ¬ rR2 X c j → E.1 c j = D.1 c j) ∧ ∀ c j, ¬ (c = X + 49 ∧ j = 38) → E.2.1 c j = D.2.1 c j
def rE2 (X : Nat) (D : sm_D) (f : Nat) (E : sm_D) : Prop := f ≤ 8000 ∧ E.1 (X + 49) 8 = ni f ∧ rF2 X D E
def rF (X : Nat) (D E : sm_D) : Prop := E.2.2 = D.2.2 ∧ (∀ c j, ¬ rRR X c j → E.1 c j = D.1 c j) ∧ ∀ c j, ¬ (c = X + 49 ∧ j = 38) → E.2.1 c j = D.2.1 c j
/-- a fault stands at a place -/
def rE (X : Nat) (D : sm_D) (f : Nat) (E : sm_D) : Prop := f ≤ 8000 ∧ E.1 (X + 49) 8 = ni f ∧ rF X D E
/-- so does one within a text -/
def rX (X : Nat) (D : sm_D) (f : Nat) (E : sm_D) : Prop := rE X D f E ∧ ∃ q e, q ≤ 9000 ∧ e ≤ 8000 ∧ E.1 (X + 49) 46 = ni q ∧ E.1 (X + 49) 47 = ni e
/-- so does one that a walk found: nothing else has changed -/
def rS (X : Nat) (D : sm_D) (f : Nat) (E : sm_D) : Prop := f ≤ 8000 ∧ E.1 (X + 49) 8 = ni f ∧ (∃ q e, q ≤ 9000 ∧ e ≤ 8000 ∧ E.1 (X + 49) 46 = ni q ∧ E.1 (X + 49) 47 = ni e) ∧ E.2 = D.2 ∧ ∀ c j, ¬ rsc X c j → ¬ (c = X + 49 ∧ j = 8) → E.1 c j = D.1 c j
def RS (X : Nat) (D : sm_D) (q : Nat) (l : List Int32) (b a z : Int32) (E : sm_D) : Prop := E.2 = D.2 ∧ E.1 (X + 49) 46 = ni q ∧ E.1 (X + 49) 20 = ni l.length ∧ (∀ i, i < l.length → E.1 (X + 63) i = md_nth l i) ∧ (E.1 (X + 49) 50 = b ∧ E.1 (X + 49) 48 = a ∧ E.1 (X + 49) 49 = z) ∧ ∀ c j, ¬ rsc X c j → E.1 c j = D.1 c j
def rH (C : sm_K) (X : Nat) (T : Nat → Int32) (N : Nat) (D : sm_D) : Prop := sm_Lay C X ∧ tx C ∧ N ≤ 8000 ∧ (∀ i, i < N → D.1 (X + 51) i = (T i).toInt8.toInt32) ∧ ∀ i, i < N → ∃ n, n < 256 ∧ T i = ni n
def rW (C : sm_K) (X : Nat) (T : Nat → Int32) (N e : Nat) (D : sm_D) : Prop := rH C X T N D ∧ e ≤ N ∧ D.1 (X + 49) 47 = ni e ∧ D.1 (X + 49) 8 = sm_k (-1)
/-- a place from which all letters are of seven bits -/
def ro (T : Nat → Int32) (e p : Nat) : Prop := md_ok T e p ∧ ∀ i, p ≤ i → i < e → ∃ n, n < 128 ∧ T i = ni n
section RGB
variable {C : sm_K} {X N e q : Nat} {T : Nat → Int32} {D E F : sm_D} {Q : (Option Value ⊕ Nat) → sm_D → Prop} {l : List Int32} {b a z : Int32}
theorem ro.le {p p' : Nat} (h : ro T e p) (h1 : md_ok T e p') (h2 : p ≤ p') : ro T e p' := ⟨h1, fun i hi => h.2 i (by omega)⟩
theorem ro.nx {p : Nat} (h : ro T e p) : ro T e (md_nx T e p) := h.le h.1.nx (md_nx_le p)
theorem rF.refl : rF X D D := ⟨rfl, fun _ _ _ => rfl, fun _ _ _ => rfl⟩
theorem rF.trans (h : rF X D E) (g : rF X E F) : rF X D F := ⟨g.1.trans h.1, fun c j hc => (g.2.1 c j hc).trans (h.2.1 c j hc), fun c j hc => (g.2.2 c j hc).trans (h.2.2 c j hc)⟩
theorem rF.dI {c j : Nat} {v : Int32} (h : rF X D E) (hc : rRR X c j) : rF X D (sm_dI E c j v) := ⟨h.1, fun c' j' hc' => by rw [dI_ne (fun z => hc' (by rw [z.1, z.2]; exact hc))]; exact h.2.1 c' j' hc', h.2.2⟩
theorem rE.of {f : Nat} (h : rF X D E) (g : rE X E f F) : rE X D f F := ⟨g.1, g.2.1, h.trans g.2.2⟩
theorem rX.of {f : Nat} (h : rF X D E) (g : rX X E f F) : rX X D f F := ⟨g.1.of h, g.2⟩
theorem rE.dI {f c j : Nat} {v : Int32} (h : rE X D f E) (hc : rRR X c j) (h8 : ¬ (c = X + 49 ∧ j = 8)) : rE X D f (sm_dI E c j v) := ⟨h.1, by rw [dI_ne (by omega)]; exact h.2.1, h.2.2.dI hc⟩
theorem rX.dI {f c j : Nat} {v : Int32} (h : rX X D f E) (hc : rRR X c j) (h8 : ¬ (c = X + 49 ∧ (j = 8 ∨ j = 46 ∨ j = 47))) : rX X D f (sm_dI E c j v) := by
  obtain ⟨h1, p, e', a1, a2, a3, a4⟩ := h
  exact ⟨h1.dI hc (by omega), p, e', a1, a2, by rw [dI_ne (by omega)]; exact a3, by rw [dI_ne (by omega)]; exact a4⟩
theorem rE.ne {f : Nat} (h : rE X D f E) : (E.1 (X + 49) 8 = sm_k (-1)) = False := by
  rw [h.2.1]; exact ni_ne_k (by have := h.1; omega)
theorem rX.ne {f : Nat} (h : rX X D f E) : (E.1 (X + 49) 8 = sm_k (-1)) = False := h.1.ne
theorem rS.toX {f : Nat} (h : rS X D f E) : rX X D f E := ⟨⟨h.1, h.2.1, by rw [h.2.2.2.1], fun c j hc => h.2.2.2.2 c j (fun g => hc (by unfold rsc at g; unfold rRR; omega)) (fun g => hc (by unfold rRR; omega)), fun c j _ => by rw [h.2.2.2.1]⟩, h.2.2.1⟩
theorem rS.ne {f : Nat} (h : rS X D f E) : (E.1 (X + 49) 8 = sm_k (-1)) = False := h.toX.ne
theorem rS.of {f : Nat} (h : rF X D E) (g : rS X E f F) : rX X D f F := g.toX.of h
theorem rS.dI {f c j : Nat} {v : Int32} (h : rS X D f E) (hc : rsc X c j) (h8 : ¬ (c = X + 49 ∧ (j = 8 ∨ j = 46 ∨ j = 47))) : rS X D f (sm_dI E c j v) := by
  obtain ⟨h1, h2, ⟨p, e', a1, a2, a3, a4⟩, h4, h5⟩ := h
  exact ⟨h1, by rw [dI_ne (by omega)]; exact h2, ⟨p, e', a1, a2, by rw [dI_ne (by omega)]; exact a3, by rw [dI_ne (by omega)]; exact a4⟩, h4, fun c' j' hc' hj' => by rw [dI_ne (fun z => hc' (by rw [z.1, z.2]; exact hc))]; exact h5 c' j' hc' hj'⟩
theorem rF2.refl : rF2 X D D := ⟨rfl, fun _ _ _ => rfl, fun _ _ _ => rfl⟩
theorem rF2.trans (h : rF2 X D E) (g : rF2 X E F) : rF2 X D F := ⟨g.1.trans h.1, fun c j hc => (g.2.1 c j hc).trans (h.2.1 c j hc), fun c j hc => (g.2.2 c j hc).trans (h.2.2 c j hc)⟩
theorem rF2.dI {c j : Nat} {v : Int32} (h : rF2 X D E) (hc : rR2 X c j) : rF2 X D (sm_dI E c j v) := ⟨h.1, fun c' j' hc' => by rw [dI_ne (fun z => hc' (by rw [z.1, z.2]; exact hc))]; exact h.2.1 c' j' hc', h.2.2⟩
theorem rF.to2 (h : rF X D E) : rF2 X D E := ⟨h.1, fun c j hc => h.2.1 c j (fun g => hc (by unfold rRR at g; unfold rR2; omega)), h.2.2⟩
theorem rE.to2 {f : Nat} (h : rE X D f E) : rE2 X D f E := ⟨h.1, h.2.1, h.2.2.to2⟩
theorem rE2.of {f : Nat} (h : rF2 X D E) (g : rE2 X E f F) : rE2 X D f F := ⟨g.1, g.2.1, h.trans g.2.2⟩
theorem rE2.ne {f : Nat} (h : rE2 X D f E) : (E.1 (X + 49) 8 = sm_k (-1)) = False := by
  rw [h.2.1]; exact ni_ne_k (by have := h.1; omega)
theorem rE2.dI {f c j : Nat} {v : Int32} (h : rE2 X D f E) (hc : rR2 X c j) (h8 : ¬ (c = X + 49 ∧ j = 8)) : rE2 X D f (sm_dI E c j v) := ⟨h.1, by rw [dI_ne (by omega)]; exact h.2.1, h.2.2.dI hc⟩
theorem RS.o (h : RS X D q l b a z E) {c j : Nat} (hc : ¬ rsc X c j) : E.1 c j = D.1 c j := h.2.2.2.2.2 c j hc
theorem RS.H (h : RS X D q l b a z E) (g : rH C X T N D) : rH C X T N E := ⟨g.1, g.2.1, g.2.2.1, fun i hi => by rw [h.o (by unfold rsc; omega)]; exact g.2.2.2.1 i hi, g.2.2.2.2⟩
theorem RS.W (h : RS X D q l b a z E) (g : rW C X T N e D) : rW C X T N e E := ⟨h.H g.1, g.2.1, by rw [h.o (by unfold rsc; omega)]; exact g.2.2.1, by rw [h.o (by unfold rsc; omega)]; exact g.2.2.2⟩
theorem RS.Fr (h : RS X D q l b a z E) : rF X D E := ⟨by rw [h.1], fun c j hc => h.o (fun g => hc (by unfold rsc at g; unfold rRR; omega)), fun c j _ => by rw [h.1]⟩
theorem RS.sq (h : RS X D q l b a z E) (p : Nat) : RS X D p l b a z (sm_dI E (X + 49) 46 (ni p)) := by
  obtain ⟨h1, h2, h3, h4, ⟨h5, h6, h7⟩, h8⟩ := h
  exact ⟨h1, dI_eq, by rw [dI_ne (by omega), h3], fun i hi => by rw [dI_ne (by omega), h4 i hi], ⟨by rw [dI_ne (by omega), h5], by rw [dI_ne (by omega), h6], by rw [dI_ne (by omega), h7]⟩, fun c j hc => by rw [dI_ne (fun z => hc (by unfold rsc; omega)), h8 c j hc]⟩
theorem RS.wb (h : RS X D q l b a z E) (v : Int32) : RS X D q l v a z (sm_dI E (X + 49) 50 v) := by
  obtain ⟨h1, h2, h3, h4, ⟨h5, h6, h7⟩, h8⟩ := h
  exact ⟨h1, by rw [dI_ne (by omega), h2], by rw [dI_ne (by omega), h3], fun i hi => by rw [dI_ne (by omega), h4 i hi], ⟨dI_eq, by rw [dI_ne (by omega), h6], by rw [dI_ne (by omega), h7]⟩, fun c j hc => by rw [dI_ne (fun z => hc (by unfold rsc; omega)), h8 c j hc]⟩
theorem RS.wa (h : RS X D q l b a z E) (v : Int32) : RS X D q l b v z (sm_dI E (X + 49) 48 v) := by
  obtain ⟨h1, h2, h3, h4, ⟨h5, h6, h7⟩, h8⟩ := h
  exact ⟨h1, by rw [dI_ne (by omega), h2], by rw [dI_ne (by omega), h3], fun i hi => by rw [dI_ne (by omega), h4 i hi], ⟨by rw [dI_ne (by omega), h5], dI_eq, by rw [dI_ne (by omega), h7]⟩, fun c j hc => by rw [dI_ne (fun z => hc (by unfold rsc; omega)), h8 c j hc]⟩
theorem RS.wz (h : RS X D q l b a z E) (v : Int32) : RS X D q l b a v (sm_dI E (X + 49) 49 v) := by
  obtain ⟨h1, h2, h3, h4, ⟨h5, h6, h7⟩, h8⟩ := h
  exact ⟨h1, by rw [dI_ne (by omega), h2], by rw [dI_ne (by omega), h3], fun i hi => by rw [dI_ne (by omega), h4 i hi], ⟨by rw [dI_ne (by omega), h5], by rw [dI_ne (by omega), h6], dI_eq⟩, fun c j hc => by rw [dI_ne (fun z => hc (by unfold rsc; omega)), h8 c j hc]⟩
theorem md_nth_sn {l : List Int32} {c : Int32} {i : Nat} (hi : i < l.length + 1) : md_nth (l ++ [c]) i = if i = l.length then c else md_nth l i := by
  unfold md_nth
  rw [List.getD_eq_getElem?_getD, List.getD_eq_getElem?_getD]
  split
  · next h => subst h; rw [List.getElem?_append_right (Nat.le_refl _), Nat.sub_self]; rfl
  · next h => rw [List.getElem?_append_left (by omega)]
theorem RS.tell (h : RS X D q l b a z E) (c : Int32) : RS X D q (l ++ [c]) b a z (sm_dI (sm_dI E (X + 63) l.length c) (X + 49) 20 (ni (l.length + 1))) := by
  obtain ⟨h1, h2, h3, h4, ⟨h5, h6, h7⟩, h8⟩ := h
  refine ⟨h1, by rw [dI_ne (by omega), dI_ne (by omega), h2], by rw [dI_eq, List.length_append]; rfl, fun i hi => ?_, ⟨by rw [dI_ne (by omega), dI_ne (by omega), h5], by rw [dI_ne (by omega), dI_ne (by omega), h6], by rw [dI_ne (by omega), dI_ne (by omega), h7]⟩, fun c j hc => by rw [dI_ne (fun z => hc (by unfold rsc; omega)), dI_ne (fun z => hc (by unfold rsc; omega)), h8 c j hc]⟩
  rw [List.length_append, List.length_singleton] at hi
  rw [dI_ne (by omega), md_nth_sn hi]
  split
  · next g => subst g; rw [dI_eq]
  · next g => rw [dI_ne (by omega), h4 i (by omega)]
theorem r161 (hX : sm_Lay C X) {i : Nat} (hd : E.1 (X + 51) i = (T i).toInt8.toInt32) (hb : ∃ n, n < 256 ∧ T i = ni n) (hi : i < 8000) : sm_fe C 161 [.ref (X + 49), .int (ni i)] E = some (.inl (some (.int (T i))), E) := by
  obtain ⟨n, hn, hT⟩ := hb
  apply sw_eq
  refine sw_ge (f161 hX) ?_
  simp (disch := omega) only [sw_gu, ni_in, ni_nat, sw_some]
  refine ⟨decide_eq_true hi, ?_⟩
  rw [hd, hT, md_a255 n hn]
theorem rH.at (h : rH C X T N E) {i : Nat} (hi : i < N) : sm_fe C 161 [.ref (X + 49), .int (ni i)] E = some (.inl (some (.int (T i))), E) := r161 h.1 (h.2.2.2.1 i hi) (h.2.2.2.2 i hi) (by have := h.2.2.1; omega)
theorem r162 (hX : sm_Lay C X) {v : Int32} (h8 : E.1 (X + 49) 8 = sm_k (-1)) : sm_fe C 162 [.ref (X + 49), .int v] E = some (.inl none, sm_dI E (X + 49) 8 v) := by
  apply sw_eq
  refine sw_ge (f162 hX) ?_
  simp only [sw_ite, sw_some]
  rw [if_pos h8]
  trivial
theorem r162x (hX : sm_Lay C X) {v : Int32} {f : Nat} (h : rE X D f E) (hq : ∀ E', rE X D f E' → (∀ c j, E'.1 c j = E.1 c j) → Q (.inl none) E') : sw (sm_fe C 162 [.ref (X + 49), .int v] E) Q := by
  refine sw_ge (f162 hX) ?_
  simp only [sw_ite, sw_some, h.ne, if_false]
  refine hq _ ⟨h.1, by rw [dI_eq]; exact h.2.1, h.2.2.dI (Or.inl (by omega))⟩ (fun c j => ?_)
  by_cases hc : c = X + 49 ∧ j = 8
  · rw [hc.1, hc.2, dI_eq]
  · rw [dI_ne hc]
theorem r179 (h : rW C X T N e E) (hq : E.1 (X + 49) 46 = ni q) (hq2 : q ≤ 9000) : sm_fe C 179 [.ref (X + 49)] E = some (.inl (some (.int (md_cu T e q))), E) := by
  have hN := h.1.2.2.1
  have he := h.2.1
  apply sw_eq
  refine sw_ge (f179 h.1.1) ?_
  simp (disch := omega) only [sw_ite, sw_some, sw_bi, h.2.2.1, hq, ni_le]
  by_cases hqe : q < e
  · rw [if_neg (by omega), h.1.at (by omega), sw_some, md_cu_lt hqe]
    simp only [sb_i, sw_some]
  · rw [if_pos (by omega), md_cu_ge hqe]
theorem RS.cur (h : rW C X T N e D) (hs : RS X D q l b a z E) (hq : q ≤ e) : sm_fe C 179 [.ref (X + 49)] E = some (.inl (some (.int (md_cu T e q))), E) := r179 (hs.W h) hs.2.1 (by have := h.1.2.2.1; have := h.2.1; omega)
/-- a letter told -/
theorem r173 (hX : sm_Lay C X) (hs : RS X D q l b a z E) {c : Int32} (hc : ∃ n, n < 128 ∧ c = ni n) (hl : l.length < 24000) (hq : ∀ E', RS X D q (l ++ [c]) b a z E' → Q (.inl none) E') : sw (sm_fe C 173 [.ref (X + 49), .int c] E) Q := by
  obtain ⟨n, hn, rfl⟩ := hc
  refine sw_ge (f173 hX) ?_
  have e1 : sm_nar .byte ((ni n).toInt8.toInt32) = ni n := by
    show ((ni n).toInt8.toInt32).toInt8.toInt32 = ni n
    rw [md_i8 n hn, md_i8 n hn]
  simp (disch := omega) only [sw_gu, sw_some, hs.2.2.1, ni_in, ni_nat, e1]
  rw [up_ne (by omega), hs.2.2.1, ni_add]
  exact ⟨decide_eq_true hl, hq _ (hs.tell (ni n))⟩
theorem r177 (h : rW C X T N e D) (hs : RS X D q l b a z E) (hqe : q ≤ e) (h13 : q < e → T q = ni 13 → q + 2 ≤ e ∧ (q + 2 < e → T (q + 2) ≠ ni 13)) (hq : ∀ E', RS X D (md_go T e q) l b a z E' → Q (.inl none) E') : sw (sm_fe C 177 [.ref (X + 49)] E) Q := by
  have hX := h.1.1
  have hN := h.1.2.2.1
  have he := h.2.1
  have stop : ∀ {q : Nat} {E : sm_D}, q ≤ e → RS X D q l b a z E → (q < e → T q ≠ ni 13) → Q (.inl none) E → sw (sm_fx C 177 0 [.ref (X + 49)] [] E) Q := by
    intro q E hqe hs h1 hQ
    refine sw_ge (n177_0 hX) ?_
    simp (disch := omega) only [sw_ite, sw_some, sw_bi, (hs.W h).2.2.1, hs.2.1, ni_le]
    by_cases hqe : q < e
    · rw [if_neg (by omega), (hs.H h.1).at (by omega), sw_some]
      simp only [sb_i, sw_ite, sw_some]
      rw [if_neg (h1 hqe)]
      exact hQ
    · rw [if_pos (by omega)]
      exact hQ
  refine sw_ge (f177 hX) ?_
  by_cases h1 : q < e ∧ T q = ni 13
  · refine sw_ge (n177_0 hX) ?_
    simp (disch := omega) only [sw_ite, sw_some, sw_bi, (hs.W h).2.2.1, hs.2.1, ni_le]
    rw [if_neg (by omega), (hs.H h.1).at (by omega), sw_some]
    simp only [sb_i, sw_ite]
    rw [if_pos h1.2, hs.2.1, ni_add]
    rw [md_go, if_pos h1] at hq
    obtain ⟨a1, a2⟩ := h13 h1.1 h1.2
    exact stop a1 (hs.sq (q + 2)) a2 (hq _ (hs.sq (q + 2)))
  · rw [md_go, if_neg h1] at hq
    exact stop hqe hs (fun g1 g2 => h1 ⟨g1, g2⟩) (hq _ hs)
theorem md_bl_13 {c : Int32} (h : md_bl c = true) : c ≠ ni 13 := fun z => by rw [z] at h; revert h; decide
theorem r181 (h : rW C X T N e D) (hs : RS X D q l b a z E) (hq1 : md_ok T e q) (hq2 : q < e) (hq : ∀ E', RS X D (md_nx T e q) l b a z E' → Q (.inl none) E') : sw (sm_fe C 181 [.ref (X + 49)] E) Q := by
  refine sw_ge (f181 h.1.1) ?_
  simp only [sw_bv, hs.2.1, ni_add]
  rw [md_nx, if_pos hq2] at hq
  refine r177 h (hs.sq (q + 1)) (by omega) (fun g1 g2 => ?_) (fun E' hE => ?_)
  · obtain ⟨a1, a2⟩ := hq1.2.2 (q + 1) (by omega) g1 g2
    exact ⟨by omega, fun _ => md_bl_13 a2⟩
  · simp only [sb_v, sw_some]
    exact hq E' hE
theorem RS.bad (h : rW C X T N e D) (hs : RS X D q l b a z E) (hqe : q ≤ e) {f : Nat} (hf : f ≤ 8000) : rS X D f (sm_dI E (X + 49) 8 (ni f)) := by
  have hN := h.1.2.2.1
  have he := h.2.1
  exact ⟨hf, dI_eq, ⟨q, e, by omega, by omega, by rw [dI_ne (by omega)]; exact hs.2.1, by rw [dI_ne (by omega)]; exact (hs.W h).2.2.1⟩, hs.1, fun c j hc hj => by rw [dI_ne hj]; exact hs.o hc⟩
theorem r180 (h : rW C X T N e D) (hs : RS X D q l b a z E) (hqe : q ≤ e) (hq : Q (.inl none) (sm_dI E (X + 49) 8 (ni q))) : sw (sm_fe C 180 [.ref (X + 49)] E) Q := by
  have hN := h.1.2.2.1
  have he := h.2.1
  have h23 : sw (sm_fx C 180 23 [sm_junk] [.int (ni q), .ref (X + 49)] E) Q := by
    refine sw_ge (n180_23 h.1.1) ?_
    simp only [sw_bv, r162 h.1.1 (hs.W h).2.2.2, sw_some, sb_v]
    exact hq
  refine sw_ge (f180 h.1.1) ?_
  simp (disch := omega) only [sw_ite, (hs.W h).2.2.1, hs.2.1, ni_le]
  by_cases h1 : e ≤ q
  · rw [if_pos h1, show e = q from by omega]; exact h23
  · rw [if_neg h1]; exact h23
theorem r180b (h : rW C X T N e D) (hs : RS X D q l b a z E) (hqe : q ≤ e) (hq : ∀ E', rS X D q E' → Q (.inl none) E') : sw (sm_fe C 180 [.ref (X + 49)] E) Q :=
  r180 h hs hqe (hq _ (hs.bad h hqe (by have := h.1.2.2.1; have := h.2.1; omega)))
end RGB
