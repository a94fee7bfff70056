/-! ===== the reference: read ===== -/
def RKP (X : Nat) (T : Nat → Int32) (N : Nat) (m : md_M) (D : sm_D) : Prop := (m = md_0 ∧ D.1 (X + 49) 7 = ni 0 ∧ D.1 (X + 49) 6 = ni 0) ∨ (1 ≤ m.1.length ∧ D.1 (X + 49) 7 = ni 1 ∧ D.1 (X + 49) 6 = ni N ∧ N ≤ 8000 ∧ (∀ i, i < N → D.1 (X + 52) i = (T i).toInt8.toInt32) ∧ (∀ i, i < N → ∃ n, n < 256 ∧ T i = ni n) ∧ md_read T N = .ok m)
def sRd (X c j : Nat) : Prop := rR2 X c j ∨ (c = X + 49 ∧ (j = 0 ∨ j = 2 ∨ j = 4 ∨ j = 6 ∨ j = 7)) ∨ c = X + 51 ∨ c = X + 52
def frR (X : Nat) (D E : sm_D) : Prop := E.2.2 = D.2.2 ∧ (∀ c j, ¬ sRd X c j → E.1 c j = D.1 c j) ∧ ∀ c j, ¬ (c = X + 49 ∧ j = 38) → E.2.1 c j = D.2.1 c j
section RHN
variable {C : sm_K} {X N : Nat} {T : Nat → Int32} {D E G : sm_D} {Q : (Option Value ⊕ Nat) → sm_D → Prop} {m : md_M} {F : List Int32}
theorem frR.refl : frR X D D := ⟨rfl, fun _ _ _ => rfl, fun _ _ _ => rfl⟩
theorem frR.trans (h : frR X D E) (g : frR X E G) : frR X D G := ⟨g.1.trans h.1, fun c j hc => (g.2.1 c j hc).trans (h.2.1 c j hc), fun c j hc => (g.2.2 c j hc).trans (h.2.2 c j hc)⟩
theorem frR.dI {c j : Nat} {v : Int32} (h : frR X D E) (hc : sRd X c j) : frR X D (sm_dI E c j v) := ⟨h.1, fun c' j' hc' => by rw [dI_ne (fun z => hc' (by rw [z.1, z.2]; exact hc))]; exact h.2.1 c' j' hc', h.2.2⟩
theorem rF2.R (h : rF2 X D E) : frR X D E := ⟨h.1, fun c j hc => h.2.1 c j (fun g => hc (Or.inl g)), h.2.2⟩
theorem fr.R {S : Nat → Nat → Prop} (h : fr S D E) (hS : ∀ c j, S c j → sRd X c j) : frR X D E := ⟨by rw [h.1], fun c j hc => h.2 c j (fun g => hc (hS c j g)), fun c j _ => by rw [h.1]⟩
/-- an array is copied over: the loop's state -/
def cpd (X a b n : Nat) (D E : sm_D) : Prop := E.2 = D.2 ∧ (∀ i, i < n → E.1 b i = D.1 a i) ∧ ∀ c j, ¬ (c = b ∧ j < n) → E.1 c j = D.1 c j
theorem r158_166 (hX : sm_Lay C X) {n : Nat} (hn : n ≤ 8000) (hb : ∀ i, i < n → ∃ x : Int32, D.1 (X + 51) i = x.toInt8.toInt32) (h4 : D.1 (X + 49) 4 = ni n) (hq : ∀ E, cpd X (X + 51) (X + 52) n D E → Q (.inl (some (.int (D.1 (X + 49) 9)))) E) : sw (sm_fx C 158 166 [.ref (X + 49), .int (ni 0), sm_junk] [] D) Q := by
  have loop : ∀ (r k : Nat) (E : sm_D), k + r = n → cpd X (X + 51) (X + 52) k D E → sw (sm_fx C 158 166 [.ref (X + 49), .int (ni k), sm_junk] [] E) Q := by
    intro r
    induction r with
    | zero =>
      intro k E hk hc
      refine sw_ge (n158_166 hX) ?_
      have e4 : E.1 (X + 49) 4 = ni n := by rw [hc.2.2 _ _ (by omega)]; exact h4
      have e9 : E.1 (X + 49) 9 = D.1 (X + 49) 9 := hc.2.2 _ _ (by omega)
      simp (disch := omega) only [sw_ite, e4, ni_le, sw_some, e9]
      rw [if_pos (by omega)]
      rw [show n = k from by omega] at hq
      exact hq E hc
    | succ r ih =>
      intro k E hk hc
      refine sw_ge (n158_166 hX) ?_
      have e4 : E.1 (X + 49) 4 = ni n := by rw [hc.2.2 _ _ (by omega)]; exact h4
      obtain ⟨x, hx⟩ := hb k (by omega)
      have e51 : E.1 (X + 51) k = x.toInt8.toInt32 := by rw [hc.2.2 _ _ (by omega)]; exact hx
      simp (disch := omega) only [sw_ite, e4, ni_le, sw_gu, ni_in, ni_nat, ni_add, e51, nar_by]
      rw [if_neg (by omega)]
      refine ⟨decide_eq_true (by omega), decide_eq_true (by omega), ?_⟩
      refine ih (k + 1) _ (by omega) ⟨hc.1, fun i hi => ?_, fun c j hcj => ?_⟩
      · by_cases hik : i = k
        · subst hik; rw [dI_eq, hx]
        · rw [dI_ne (by omega)]; exact hc.2.1 i (by omega)
      · rw [dI_ne (by omega)]; exact hc.2.2 c j (by omega)
  exact loop n 0 D (by omega) ⟨rfl, (fun i hi => by omega), fun _ _ _ => rfl⟩
theorem RV.cp (hH : rH C X T N D) (h1 : 1 ≤ m.1.length) (h8 : D.1 (X + 49) 8 = sm_k (-1)) {l : List Int32} (hM : RM X T N D m l) (hl : l.length ≤ 16400) : RV C X T N m D := ⟨hH.1, hH.2.1, Or.inr ⟨h1, hH, h8, l, hM, hl⟩⟩
/-- behind a fault: what was kept comes back -/
theorem r158_75 (hX : sm_Lay C X) (hx : tx C) (hK : RKP X T N m D) (h54 : D.1 (X + 49) 54 = ni 0) (h46 : D.1 (X + 49) 4 = D.1 (X + 49) 6) {v : Int32} (hq : ∀ E, frR X D E → RV C X T N m E → RKP X T N m E → E.1 (X + 49) 0 = D.1 (X + 49) 0 → E.1 (X + 49) 2 = D.1 (X + 49) 2 → Q (.inl (some (.int v))) E) : sw (sm_fx C 158 75 [.ref (X + 49), .int v, .int (ni 0)] [] D) Q := by
  rcases hK with ⟨hm, h7, h6⟩ | ⟨h1, h7, h6, hN, h52, hT, hrd⟩
  · refine sw_ge (n158_75 hX) ?_
    have i0 : sm_in_b (ni 0) 2 = true := by decide
    have i1 : sm_in_b (ni 1) 2 = true := by decide
    have t0 : (ni 0).toNatClampNeg = 0 := by decide
    have t1 : (ni 1).toNatClampNeg = 1 := by decide
    simp (disch := omega) only [sw_ite, h6, h7, if_true, sw_gu, i0, i1, t0, t1, true_and, sw_some]
    rw [if_pos (by decide)]
    have hJ : ∀ {H : sm_D} {v : Int64} {c j : Nat}, (sm_dJ H (X + 49) 38 v).1 c j = H.1 c j := rfl
    have fJ : ∀ {H : sm_D} {v : Int64}, frR X D H → frR X D (sm_dJ H (X + 49) 38 v) := fun h => ⟨h.1, h.2.1, fun c j hc => (up_ne hc).trans (h.2.2 c j hc)⟩
    have sR : ∀ j, 8 ≤ j → j ≠ 43 → j ≠ 54 → sRd X (X + 49) j := fun j a b c => Or.inl (Or.inl ⟨rfl, a, b, c⟩)
    have s77 : ∀ j, sRd X (X + 77) j := fun j => Or.inl (Or.inr ⟨by omega, by omega, by omega⟩)
    refine hq _ (((fJ ((frR.refl.dI (sR 9 (by omega) (by omega) (by omega))).dI (sR 36 (by omega) (by omega) (by omega)))).dI (sR 39 (by omega) (by omega) (by omega))).dI (s77 0) |>.dI (s77 1)) ⟨hX, hx, Or.inl ⟨hm, ?_, ?_, ?_, ?_, ?_, ?_⟩⟩ (Or.inl ⟨hm, ?_, ?_⟩) ?_ ?_
    · rw [dI_ne (by omega), dI_ne (by omega), dI_ne (by omega), hJ, dI_ne (by omega), dI_eq]
    · rw [dI_ne (by omega), dI_ne (by omega), dI_ne (by omega), hJ, dI_eq]
    · exact up_eq
    · rw [dI_ne (by omega), dI_ne (by omega), dI_eq]
    · rw [dI_ne (by omega), dI_eq]
    · rw [dI_eq]
    · rw [dI_ne (by omega), dI_ne (by omega), dI_ne (by omega), hJ, dI_ne (by omega), dI_ne (by omega)]; exact h7
    · rw [dI_ne (by omega), dI_ne (by omega), dI_ne (by omega), hJ, dI_ne (by omega), dI_ne (by omega)]; exact h6
    · rw [dI_ne (by omega), dI_ne (by omega), dI_ne (by omega), hJ, dI_ne (by omega), dI_ne (by omega)]
    · rw [dI_ne (by omega), dI_ne (by omega), dI_ne (by omega), hJ, dI_ne (by omega), dI_ne (by omega)]
  · have loop : ∀ (r k : Nat) (E : sm_D), k + r = N → cpd X (X + 52) (X + 51) k D E → sw (sm_fx C 158 75 [.ref (X + 49), .int v, .int (ni k)] [] E) Q := by
      intro r
      induction r with
      | zero =>
        intro k E hk hc
        have hkN : k = N := by omega
        subst hkN
        refine sw_ge (n158_75 hX) ?_
        have e6 : E.1 (X + 49) 6 = ni k := by rw [hc.2.2 _ _ (by omega)]; exact h6
        have e7 : E.1 (X + 49) 7 = ni 1 := by rw [hc.2.2 _ _ (by omega)]; exact h7
        simp (disch := omega) only [sw_ite, e6, e7, ni_le, sw_bv]
        rw [if_pos (by omega), if_neg (show ¬ (ni 1 = ni 0) by decide)]
        have hH : rH C X T k E := ⟨hX, hx, hN, fun i hi => by rw [hc.2.1 i hi]; exact h52 i hi, hT⟩
        refine r159 hH (by rw [hc.2.2 _ _ (by omega), h46]; exact h6) (by rw [hc.2.2 _ _ (by omega)]; exact h54) (fun m' hm' E' l' g1 g2 g3 g4 g5 => ?_) (fun f hf => by rw [hrd] at hf; cases hf)
        rw [hrd] at hm'
        cases hm'
        simp only [sb_v, sw_some]
        have o : ∀ c j, ¬ rR2 X c j → E'.1 c j = E.1 c j := g1.2.1
        have hfr : frR X D E' := (show frR X D E from ⟨by rw [hc.1], fun c j hcj => hc.2.2 c j (fun z => hcj (by unfold sRd; omega)), fun c j _ => by rw [hc.1]⟩).trans g1.R
        refine hq E' hfr (RV.cp ⟨hX, hx, hN, fun i hi => by rw [o _ _ (by unfold rR2; omega)]; exact hH.2.2.2.1 i hi, hT⟩ h1 g3 g2 g4) (Or.inr ⟨h1, ?_, ?_, hN, fun i hi => ?_, hT, hrd⟩) ?_ ?_
        · rw [o _ _ (by unfold rR2; omega)]; exact e7
        · rw [o _ _ (by unfold rR2; omega)]; exact e6
        · rw [o _ _ (by unfold rR2; omega), hc.2.2 _ _ (by omega)]; exact h52 i hi
        · rw [o _ _ (by unfold rR2; omega), hc.2.2 _ _ (by omega)]
        · rw [o _ _ (by unfold rR2; omega), hc.2.2 _ _ (by omega)]
      | succ r ih =>
        intro k E hk hc
        refine sw_ge (n158_75 hX) ?_
        have e6 : E.1 (X + 49) 6 = ni N := by rw [hc.2.2 _ _ (by omega)]; exact h6
        have e52 : E.1 (X + 52) k = (T k).toInt8.toInt32 := by rw [hc.2.2 _ _ (by omega)]; exact h52 k (by omega)
        simp (disch := omega) only [sw_ite, e6, ni_le, sw_gu, ni_in, ni_nat, ni_add, e52, nar_by]
        rw [if_neg (by omega)]
        refine ⟨decide_eq_true (by omega), decide_eq_true (by omega), ?_⟩
        refine ih (k + 1) _ (by omega) ⟨hc.1, fun i hi => ?_, fun c j hcj => ?_⟩
        · by_cases hik : i = k
          · subst hik; rw [dI_eq, h52 i (by omega)]
          · rw [dI_ne (by omega)]; exact hc.2.1 i (by omega)
        · rw [dI_ne (by omega)]; exact hc.2.2 c j (by omega)
    exact loop N 0 D (by omega) ⟨rfl, (fun i hi => by omega), fun _ _ _ => rfl⟩
theorem r158 (hX : sm_Lay C X) (hx : tx C) (hF : RB X F D) (hK : RKP X T N m D) (h54 : D.1 (X + 49) 54 = ni 0)
    (hok : ∀ m', md_read (md_nth F) F.length = .ok m' → ∀ E, frR X D E → RV C X (md_nth F) F.length m' E → RKP X (md_nth F) F.length m' E → RB X [] E → Q (.inl (some (.int (ni m'.1.length)))) E)
    (her : ∀ f, md_read (md_nth F) F.length = .error f → f ≤ 8000 → ∀ E, frR X D E → RV C X T N m E → RKP X T N m E → RB X [] E → Q (.inl (some (.int (sm_k (-1) - ni f)))) E) :
    sw (sm_fe C 158 [.ref (X + 49)] D) Q := by
  obtain ⟨f1, f2, f3, f4⟩ := id hF
  have hT : ∀ i, i < F.length → ∃ n, n < 256 ∧ md_nth F i = ni n := fun i hi => by
    rw [md_nth_get hi]
    exact f4 _ (List.getElem_mem hi)
  refine sw_ge (f158 hX) ?_
  have e2 : (sm_dI D (X + 49) 0 (ni 0)).1 (X + 49) 2 = ni F.length := by rw [dI_ne (by omega)]; exact f1
  show sw (sm_fx C 158 15 [.ref (X + 49), .int (ni 0), sm_junk] [] (sm_dI (sm_dI D (X + 49) 0 (ni 0)) (X + 49) 4 ((sm_dI D (X + 49) 0 (ni 0)).1 (X + 49) 2))) Q
  rw [e2]
  have hA : frR X D (sm_dI (sm_dI D (X + 49) 0 (ni 0)) (X + 49) 4 (ni F.length)) := (frR.refl.dI (by unfold sRd; omega)).dI (by unfold sRd; omega)
  have a2 : (sm_dI (sm_dI D (X + 49) 0 (ni 0)) (X + 49) 4 (ni F.length)).1 (X + 49) 2 = ni F.length := by rw [dI_ne (by omega)]; exact e2
  have a4 : (sm_dI (sm_dI D (X + 49) 0 (ni 0)) (X + 49) 4 (ni F.length)).1 (X + 49) 4 = ni F.length := dI_eq
  have a50 : ∀ i, i < F.length → (sm_dI (sm_dI D (X + 49) 0 (ni 0)) (X + 49) 4 (ni F.length)).1 (X + 50) i = (md_nth F i).toInt8.toInt32 := fun i hi => by rw [dI_ne (by omega), dI_ne (by omega)]; exact f3 i hi
  have aK : RKP X T N m (sm_dI (sm_dI D (X + 49) 0 (ni 0)) (X + 49) 4 (ni F.length)) := by
    rcases hK with ⟨k1, k2, k3⟩ | ⟨k1, k2, k3, k4, k5, k6, k7⟩
    · exact Or.inl ⟨k1, by rw [dI_ne (by omega), dI_ne (by omega)]; exact k2, by rw [dI_ne (by omega), dI_ne (by omega)]; exact k3⟩
    · exact Or.inr ⟨k1, by rw [dI_ne (by omega), dI_ne (by omega)]; exact k2, by rw [dI_ne (by omega), dI_ne (by omega)]; exact k3, k4, fun i hi => by rw [dI_ne (by omega), dI_ne (by omega)]; exact k5 i hi, k6, k7⟩
  have a54 : (sm_dI (sm_dI D (X + 49) 0 (ni 0)) (X + 49) 4 (ni F.length)).1 (X + 49) 54 = ni 0 := by rw [dI_ne (by omega), dI_ne (by omega)]; exact h54
  generalize sm_dI (sm_dI D (X + 49) 0 (ni 0)) (X + 49) 4 (ni F.length) = A at hA a2 a4 a50 aK a54 ⊢
  have loop : ∀ (r k : Nat) (E : sm_D), k + r = F.length → cpd X (X + 50) (X + 51) k A E → sw (sm_fx C 158 15 [.ref (X + 49), .int (ni k), sm_junk] [] E) Q := by
    intro r
    induction r with
    | zero =>
      intro k E hk hc
      have hkN : k = F.length := by omega
      subst hkN
      refine sw_ge (n158_15 hX) ?_
      have e2 : E.1 (X + 49) 2 = ni F.length := by rw [hc.2.2 _ _ (by omega)]; exact a2
      simp (disch := omega) only [sw_ite, e2, ni_le, sw_bv]
      rw [if_pos (by omega)]
      have hfE : frR X D E := hA.trans ⟨by rw [hc.1], fun c j hcj => hc.2.2 c j (fun z => hcj (by unfold sRd; omega)), fun c j _ => by rw [hc.1]⟩
      have hH : rH C X (md_nth F) F.length (sm_dI E (X + 49) 2 (ni 0)) := ⟨hX, hx, f2, fun i hi => by rw [dI_ne (by omega), hc.2.1 i hi]; exact a50 i hi, hT⟩
      have hfG : frR X D (sm_dI E (X + 49) 2 (ni 0)) := hfE.dI (by unfold sRd; omega)
      have g4 : (sm_dI E (X + 49) 2 (ni 0)).1 (X + 49) 4 = ni F.length := by rw [dI_ne (by omega), hc.2.2 _ _ (by omega)]; exact a4
      have g2 : (sm_dI E (X + 49) 2 (ni 0)).1 (X + 49) 2 = ni 0 := dI_eq
      have g54 : (sm_dI E (X + 49) 2 (ni 0)).1 (X + 49) 54 = ni 0 := by rw [dI_ne (by omega), hc.2.2 _ _ (by omega)]; exact a54
      have gK : RKP X T N m (sm_dI E (X + 49) 2 (ni 0)) := by
        rcases aK with ⟨k1, k2, k3⟩ | ⟨k1, k2, k3, k4, k5, k6, k7⟩
        · exact Or.inl ⟨k1, by rw [dI_ne (by omega), hc.2.2 _ _ (by omega)]; exact k2, by rw [dI_ne (by omega), hc.2.2 _ _ (by omega)]; exact k3⟩
        · exact Or.inr ⟨k1, by rw [dI_ne (by omega), hc.2.2 _ _ (by omega)]; exact k2, by rw [dI_ne (by omega), hc.2.2 _ _ (by omega)]; exact k3, k4, fun i hi => by rw [dI_ne (by omega), hc.2.2 _ _ (by omega)]; exact k5 i hi, k6, k7⟩
      generalize sm_dI E (X + 49) 2 (ni 0) = G at hH hfG g4 g2 g54 gK ⊢
      refine r159 hH g4 g54 (fun m' hm' E' l' q1 q2 q3 q4 q5 => ?_) (fun f hf E' hE' => ?_)
      · have o : ∀ c j, ¬ rR2 X c j → E'.1 c j = G.1 c j := q1.2.1
        have d1 : decide ((ni 1) = 0 ∨ (ni 1) = 1) = true := by decide
        simp only [sb_v, sw_ite, q3, if_true, sw_gu, d1, true_and]
        rw [up_ne (by omega), o _ _ (by unfold rR2; omega), g4]
        have e9 : (sm_dI (sm_dI E' (X + 49) 7 (ni 1)) (X + 49) 6 (ni F.length)).1 (X + 49) 9 = ni m'.1.length := by rw [dI_ne (by omega), dI_ne (by omega)]; exact q2.1
        refine r158_166 (n := F.length) hX f2 (fun i hi => ⟨md_nth F i, ?_⟩) ?_ (fun E2 hc2 => ?_)
        · rw [dI_ne (by omega), dI_ne (by omega), o _ _ (by unfold rR2; omega)]; exact hH.2.2.2.1 i hi
        · rw [dI_ne (by omega), dI_ne (by omega), o _ _ (by unfold rR2; omega)]; exact g4
        · rw [e9]
          have w : ∀ c j, ¬ (c = X + 52) → ¬ (c = X + 49 ∧ (j = 6 ∨ j = 7)) → E2.1 c j = E'.1 c j := fun c j h1 h2 => by rw [hc2.2.2 _ _ (by omega), dI_ne (by omega), dI_ne (by omega)]
          have hf2 : frR X D E2 := ((((hfG.trans q1.R).dI (by unfold sRd; omega)).dI (by unfold sRd; omega))).trans ⟨by rw [hc2.1], fun c j hcj => hc2.2.2 c j (fun z => hcj (by unfold sRd; omega)), fun c j _ => by rw [hc2.1]⟩
          refine hok m' hm' E2 hf2 (RV.cp ⟨hX, hx, f2, fun i hi => ?_, hT⟩ q5 (by rw [w _ _ (by omega) (by omega)]; exact q3) (q2.of (fun c j hcj => w c j (by unfold rmc at hcj; omega) (by unfold rmc at hcj; omega)) (by rw [hc2.1])) q4) (Or.inr ⟨q5, ?_, ?_, f2, fun i hi => ?_, hT, hm'⟩) ⟨?_, by decide, (fun i hi => by cases hi), fun x hx => by cases hx⟩
          · rw [w _ _ (by omega) (by omega), o _ _ (by unfold rR2; omega)]; exact hH.2.2.2.1 i hi
          · rw [hc2.2.2 _ _ (by omega), dI_ne (by omega), dI_eq]
          · rw [hc2.2.2 _ _ (by omega), dI_eq]
          · rw [hc2.2.1 i hi, dI_ne (by omega), dI_ne (by omega), o _ _ (by unfold rR2; omega)]; exact hH.2.2.2.1 i hi
          · rw [w _ _ (by omega) (by omega), o _ _ (by unfold rR2; omega)]; exact g2
      · have o : ∀ c j, ¬ rR2 X c j → E'.1 c j = G.1 c j := hE'.2.2.2.1
        simp only [sb_v, sw_ite]
        rw [if_neg (by rw [hE'.ne]; exact id), hE'.2.1]
        have hf3 : frR X D (sm_dI E' (X + 49) 4 (E'.1 (X + 49) 6)) := (hfG.trans hE'.2.2.R).dI (by unfold sRd; omega)
        refine r158_75 (m := m) (T := T) (N := N) hX hx ?_ ?_ ?_ (fun E2 w1 w2 w3 w4 w5 => ?_)
        · rcases gK with ⟨k1, k2, k3⟩ | ⟨k1, k2, k3, k4, k5, k6, k7⟩
          · exact Or.inl ⟨k1, by rw [dI_ne (by omega), o _ _ (by unfold rR2; omega)]; exact k2, by rw [dI_ne (by omega), o _ _ (by unfold rR2; omega)]; exact k3⟩
          · exact Or.inr ⟨k1, by rw [dI_ne (by omega), o _ _ (by unfold rR2; omega)]; exact k2, by rw [dI_ne (by omega), o _ _ (by unfold rR2; omega)]; exact k3, k4, fun i hi => by rw [dI_ne (by omega), o _ _ (by unfold rR2; omega)]; exact k5 i hi, k6, k7⟩
        · rw [dI_ne (by omega), o _ _ (by unfold rR2; omega)]; exact g54
        · rw [dI_eq, dI_ne (by omega)]
        · exact her f hf hE'.1 E2 (hf3.trans w1) w2 w3 ⟨by rw [w5, dI_ne (by omega), o _ _ (by unfold rR2; omega)]; exact g2, by decide, (fun i hi => by cases hi), fun x hx => by cases hx⟩
    | succ r ih =>
      intro k E hk hc
      refine sw_ge (n158_15 hX) ?_
      have e2 : E.1 (X + 49) 2 = ni F.length := by rw [hc.2.2 _ _ (by omega)]; exact a2
      have e50 : E.1 (X + 50) k = (md_nth F k).toInt8.toInt32 := by rw [hc.2.2 _ _ (by omega)]; exact a50 k (by omega)
      simp (disch := omega) only [sw_ite, e2, ni_le, sw_gu, ni_in, ni_nat, ni_add, e50, nar_by]
      rw [if_neg (by omega)]
      refine ⟨decide_eq_true (by omega), decide_eq_true (by omega), ?_⟩
      refine ih (k + 1) _ (by omega) ⟨hc.1, fun i hi => ?_, fun c j hcj => ?_⟩
      · by_cases hik : i = k
        · subst hik; rw [dI_eq, a50 i (by omega)]
        · rw [dI_ne (by omega)]; exact hc.2.1 i (by omega)
      · rw [dI_ne (by omega)]; exact hc.2.2 c j (by omega)
  exact loop F.length 0 A (by omega) ⟨rfl, (fun i hi => by omega), fun _ _ _ => rfl⟩
end RHN
