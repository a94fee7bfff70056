/-! ===== both sides at once: what each leaves alone, and what they hold ===== -/
/-- the class has worked -/
def cfr (X : Nat) (D E : sm_D) : Prop := (∀ a, (a < X ∨ (X + 49 ≤ a ∧ a ≤ X + 88)) → E.1 a = D.1 a) ∧ E.2.1 (X + 49) = D.2.1 (X + 49)
/-- the reference has worked -/
def rfr (X t : Nat) (D E : sm_D) : Prop := (∀ a, a < X + 49 → E.1 a = D.1 a) ∧ E.2.1 t = D.2.1 t
def RR (C : sm_K) (X : Nat) (F : List Int32) (T : Nat → Int32) (N : Nat) (m : md_M) (W : List Int32) (D : sm_D) : Prop := RB X F D ∧ RV C X T N m D ∧ RKP X T N m D ∧ RO X W D ∧ D.1 (X + 49) 54 = ni 0
def CC (X t : Nat) (F : List Int32) (T : Nat → Int32) (m : md_M) (W : List Int32) (D : sm_D) : Prop := CB X F D ∧ TR T t D m ∧ CWr X W D
/-- room of one call -/
def gr (D E : sm_D) : Prop := E.2.2.2.1 ≤ D.2.2.2.1 + 1 ∧ E.2.2.2.2 ≤ D.2.2.2.2 + 6
def LC (C : sm_K) (X t t' : Nat) : Prop := sm_Lay C X ∧ tx C ∧ sm_mv C ∧ ((t = X + 23 ∧ t' = X + 36) ∨ (t = X + 36 ∧ t' = X + 23)) ∧ C.2.2.1.2 X 3 = .ref t ∧ C.2.2.1.2 X 4 = .ref t'
def JR (C : sm_K) (X t t' : Nat) (F : List Int32) (T : Nat → Int32) (N : Nat) (m : md_M) (W : List Int32) (D : sm_D) : Prop := LC C X t t' ∧ CC X t F T m W D ∧ RR C X F T N m W D ∧ mB W ∧ ∀ a, a < C.2.1 → D.1 a = C.2.2.2 a
def JK (C : sm_K) (X t t' : Nat) (D : sm_D) : Prop := ∃ F T N m W, JR C X t t' F T N m W D
section JNT
variable {C C' : sm_K} {X N t t' : Nat} {T : Nat → Int32} {D E : sm_D} {m : md_M} {F W : List Int32}
theorem RV_l {G : sm_D} (h : RV C X T N m G) (e1 : E.1 = G.1) (e2 : E.2.1 (X + 49) = G.2.1 (X + 49)) : RV C X T N m E := by
  obtain ⟨Ea, Eb⟩ := E
  obtain ⟨Ga, Gb⟩ := G
  have e1' : Ea = Ga := e1
  subst e1'
  obtain ⟨h1, h2, h3⟩ := h
  have e3 : Eb.1 (X + 49) 38 = Gb.1 (X + 49) 38 := congrFun e2 38
  refine ⟨h1, h2, ?_⟩
  rcases h3 with ⟨a1, a2, a3, a4, a5⟩ | ⟨b1, b2, b3, l, ⟨c1, c2, c3, c4, c5, c6, c7, c8, ⟨c9, c10⟩, c11⟩, hl⟩
  · exact Or.inl ⟨a1, a2, a3, e3.trans a4, a5⟩
  · exact Or.inr ⟨b1, b2, b3, l, ⟨c1, c2, c3, c4, c5, c6, c7, c8, ⟨e3.trans c9, c10⟩, c11⟩, hl⟩
theorem RV_C (h : RV C X T N m D) (h1 : sm_Lay C' X) (h2 : tx C') : RV C' X T N m D := by
  obtain ⟨-, -, h3⟩ := h
  refine ⟨h1, h2, ?_⟩
  rcases h3 with h3 | ⟨b1, ⟨-, -, c3⟩, b3⟩
  · exact Or.inl h3
  · exact Or.inr ⟨b1, ⟨h1, h2, c3⟩, b3⟩
theorem TR_l {G : sm_D} (h : TR T t G m) (e1 : ∀ a, t ≤ a → a ≤ t + 12 → E.1 a = G.1 a) (e2 : E.2.1 t = G.2.1 t) : TR T t E m := by
  obtain ⟨pl, σ, h1, h2, h3, h4, h5⟩ := h
  have g := MG_eq (E := (E.1, G.2)) h5 e1 rfl
  refine ⟨pl, σ, by rw [e1 _ (by omega) (by omega)]; exact h1, h2, fun i hi => by rw [e1 _ (by omega) (by omega)]; exact h3 i hi, by rw [e1 (t + 3) (by omega) (by omega), e1 (t + 4) (by omega) (by omega)]; exact h4, ?_⟩
  obtain ⟨b1, b2, b3, b4, b5, b6, ⟨b7, b8⟩, b9⟩ := g
  exact ⟨b1, b2, b3, b4, b5, b6, ⟨(congrFun e2 13).trans b7, b8⟩, b9⟩
theorem RB_e (h : RB X F D) (e1 : E.1 (X + 49) 2 = D.1 (X + 49) 2) (e2 : ∀ i, E.1 (X + 50) i = D.1 (X + 50) i) : RB X F E := ⟨e1.trans h.1, h.2.1, fun i hi => (e2 i).trans (h.2.2.1 i hi), h.2.2.2⟩
theorem RKP_e (h : RKP X T N m D) (e1 : E.1 (X + 49) 7 = D.1 (X + 49) 7) (e2 : E.1 (X + 49) 6 = D.1 (X + 49) 6) (e3 : ∀ i, E.1 (X + 52) i = D.1 (X + 52) i) : RKP X T N m E := by
  rcases h with ⟨a1, a2, a3⟩ | ⟨b1, b2, b3, b4, b5, b6⟩
  · exact Or.inl ⟨a1, e1.trans a2, e2.trans a3⟩
  · exact Or.inr ⟨b1, e1.trans b2, e2.trans b3, b4, fun i hi => (e3 i).trans (b5 i hi), b6⟩
theorem RO_e (h : RO X W D) (e1 : E.1 (X + 49) 43 = D.1 (X + 49) 43) (e2 : ∀ i, E.1 (X + 80) i = D.1 (X + 80) i) : RO X W E := ⟨e1.trans h.1, h.2.1, fun i hi => (e2 i).trans (h.2.2 i hi)⟩
theorem CB_e (h : CB X F D) (e1 : E.1 (X + 2) 1 = D.1 (X + 2) 1) (e2 : ∀ i, E.1 (X + 3) i = D.1 (X + 3) i) : CB X F E := ⟨e1.trans h.1, h.2.1, fun i hi => (e2 i).trans (h.2.2.1 i hi), h.2.2.2⟩
theorem CWr_e (h : CWr X W D) (e1 : E.1 (X + 21) 1 = D.1 (X + 21) 1) (e2 : ∀ i, E.1 (X + 22) i = D.1 (X + 22) i) : CWr X W E := ⟨e1.trans h.1, h.2.1, fun i hi => (e2 i).trans (h.2.2 i hi)⟩
theorem LC.la (h : LC C X t t') : t = X + 23 ∨ t = X + 36 := by rcases h.2.2.2.1 with h | h <;> omega
theorem LC.sp (h : LC C X t t') : t' = X + 23 ∨ t' = X + 36 := by rcases h.2.2.2.1 with h | h <;> omega
theorem RR.cf (h : RR C X F T N m W D) (f : cfr X D E) : RR C X F T N m W E := by
  obtain ⟨h1, h2, h3, h4, h5⟩ := h
  have e : ∀ a j, X + 49 ≤ a → a ≤ X + 88 → E.1 a j = D.1 a j := fun a j p q => congrFun (f.1 a (Or.inr ⟨p, q⟩)) j
  refine ⟨RB_e h1 (e _ _ (by omega) (by omega)) (fun i => e _ _ (by omega) (by omega)), ?_, RKP_e h3 (e _ _ (by omega) (by omega)) (e _ _ (by omega) (by omega)) (fun i => e _ _ (by omega) (by omega)), RO_e h4 (e _ _ (by omega) (by omega)) (fun i => e _ _ (by omega) (by omega)), (e _ _ (by omega) (by omega)).trans h5⟩
  exact RV_l (G := (E.1, D.2)) (h2.of (fun c j hc => e _ _ (by unfold rmc at hc; omega) (by unfold rmc at hc; omega)) rfl) rfl f.2
theorem CC.rf (h : CC X t F T m W D) (ht : t = X + 23 ∨ t = X + 36) (f : rfr X t D E) : CC X t F T m W E := by
  obtain ⟨h1, h2, h3⟩ := h
  have e : ∀ a j, a < X + 49 → E.1 a j = D.1 a j := fun a j p => congrFun (f.1 a p) j
  exact ⟨CB_e h1 (e _ _ (by omega)) (fun i => e _ _ (by omega)), TR_l h2 (fun a p q => f.1 a (by omega)) f.2, CWr_e h3 (e _ _ (by omega)) (fun i => e _ _ (by omega))⟩
theorem fr.r {S : Nat → Nat → Prop} (h : fr S D E) (hS : ∀ c j, S c j → X + 49 ≤ c) : rfr X t D E := ⟨fun a ha => funext fun j => h.2 a j (fun z => by have := hS a j z; omega), by rw [h.1]⟩
theorem fr.c {S : Nat → Nat → Prop} (h : fr S D E) (hS : ∀ c j, S c j → X ≤ c ∧ c < X + 49) : cfr X D E := ⟨fun a ha => funext fun j => h.2 a j (fun z => by have := hS a j z; omega), by rw [h.1]⟩
theorem fr.g {S : Nat → Nat → Prop} (h : fr S D E) : gr D E := by
  obtain ⟨h1, -⟩ := h
  unfold gr
  rw [h1]
  omega
theorem gr.tr {G : sm_D} (h : gr D E) (g : G.2.2 = E.2.2) : gr D G := by
  unfold gr at h ⊢
  rw [g]
  exact h
theorem sLe_r : ∀ c j, sLe X c j → X + 49 ≤ c := fun c j h => by unfold sLe rsc at h; omega
theorem s0_le : ∀ c j, s0 X c j → sLe X c j := fun c j h => Or.inr ⟨h.1, Or.inl h.2⟩
theorem RR.le (h : RR C X F T N m W D) (f : fr (sLe X) D E) (hv : RV C X T N m E) : RR C X F T N m W E := by
  obtain ⟨h1, h2, h3, h4, h5⟩ := h
  have e : ∀ c j, ¬ sLe X c j → E.1 c j = D.1 c j := f.2
  exact ⟨RB_e h1 (e _ _ (by unfold sLe rsc; omega)) (fun i => e _ _ (by unfold sLe rsc; omega)), hv, RKP_e h3 (e _ _ (by unfold sLe rsc; omega)) (e _ _ (by unfold sLe rsc; omega)) (fun i => e _ _ (by unfold sLe rsc; omega)), RO_e h4 (e _ _ (by unfold sLe rsc; omega)) (fun i => e _ _ (by unfold sLe rsc; omega)), (e _ _ (by unfold sLe rsc; omega)).trans h5⟩
theorem RKP.i (h : RKP X T N m D) : MB m ∧ (md_oc m.1).length ≤ 8000 ∧ m.2.1.length ≤ 8000 := by
  rcases h with ⟨rfl, -, -⟩ | ⟨b1, b2, b3, b4, b5, b6, b7⟩
  · exact ⟨⟨fun u hu => (nomatch hu), fun b a ha => (nomatch ha)⟩, Nat.zero_le _, Nat.zero_le _⟩
  · have f := z_read b4 b7
    exact ⟨f.1.1, Nat.le_trans f.2.2.1 b4, f.1.2.2.2.2.1⟩
theorem RKP.w (h : RKP X T N m D) : 1 ≤ m.1.length → HBm m ∧ md_pk m.1 ∧ NXm m.1 ∧ (md_oc m.1).length ≤ 8000 ∧ (md_write T m).length ≤ 20000 := by
  intro h1
  rcases h with ⟨rfl, -, -⟩ | ⟨b1, b2, b3, b4, b5, b6, b7⟩
  · exact absurd h1 (by decide)
  · have f := z_read b4 b7
    exact ⟨f.1.2.1, f.1.2.2.1, f.nx, Nat.le_trans f.2.2.1 b4, f.wr b4⟩
theorem JR.H (h : JR C X t t' F T N m W D) : cH C X t (md_nth F) F.length D := cH_of h.1.1 h.1.la h.1.2.1 h.2.1.1
theorem JR.low (h : JR C X t t' F T N m W D) (e : ∀ a, a < X → E.1 a = D.1 a) : ∀ a, a < C.2.1 → E.1 a = C.2.2.2 a := fun a ha => by
  have := h.1.1.1
  rw [e a (by omega)]
  exact h.2.2.2.2 a ha
end JNT
