/-! ===== both sides at once: the calls that change something ===== -/
section JCH
variable {C : sm_K} {X N t t' : Nat} {T : Nat → Int32} {D E : sm_D} {m : md_M} {F F' W W' : List Int32}
theorem sCB_c : ∀ c j, sCB X c j → X ≤ c ∧ c < X + 49 := fun c j h => by unfold sCB at h; omega
theorem sFd_r : ∀ c j, sFd X c j → X + 49 ≤ c := fun c j h => by unfold sFd at h; omega
theorem cfr.dJ {v : Int64} (h : cfr X D E) : cfr X D (sm_dJ E (X + 89) 0 v) := ⟨h.1, (funext fun j => up_ne (by omega) : (sm_dJ E (X + 89) 0 v).2.1 (X + 49) = E.2.1 (X + 49)).trans h.2⟩
theorem CC.tape (h : CC X t F T m W D) (ht : t = X + 23 ∨ t = X + 36) (hf : fr (sCB X) D E) (hb : CB X F' E) : CC X t F' T m W E :=
  ⟨hb, TR_l h.2.1 (fun a p q => funext fun j => hf.2 a j (by unfold sCB; omega)) (by rw [hf.1]), CWr_e h.2.2 (hf.2 _ _ (by unfold sCB; omega)) (fun i => hf.2 _ _ (by unfold sCB; omega))⟩
theorem CC.dJ {v : Int64} (h : CC X t F T m W D) (ht : t = X + 23 ∨ t = X + 36) : CC X t F T m W (sm_dJ D (X + 89) 0 v) := h.rf ht ⟨fun _ _ => rfl, funext fun j => up_ne (by omega)⟩
theorem RR.tape (h : RR C X F T N m W D) (hf : fr (sFd X) D E) (hb : RB X F' E) : RR C X F' T N m W E := by
  obtain ⟨h1, h2, h3, h4, h5⟩ := h
  have e : ∀ c j, ¬ sFd X c j → E.1 c j = D.1 c j := hf.2
  exact ⟨hb, h2.of (fun c j hc => e _ _ (by unfold sFd; unfold rmc at hc; omega)) hf.1, RKP_e h3 (e _ _ (by unfold sFd; omega)) (e _ _ (by unfold sFd; omega)) (fun i => e _ _ (by unfold sFd; omega)), RO_e h4 (e _ _ (by unfold sFd; omega)) (fun i => e _ _ (by unfold sFd; omega)), (e _ _ (by unfold sFd; omega)).trans h5⟩
/-- both tapes have changed alike -/
theorem st_tape {D0 D1 : sm_D} {v : Int64} (h : JR C X t t' F T N m W D) (hf : fr (sCB X) D D0) (hb : CB X F' D0) (h1 : D1 = sm_dJ D0 (X + 89) 0 v ∨ D1 = D0) (hg : fr (sFd X) D1 E) (hr : RB X F' E) : JK C X t t' E ∧ gr D E := by
  have ht := h.1.la
  have c1 : CC X t F' T m W D1 := by
    rcases h1 with rfl | rfl
    · exact (h.2.1.tape ht hf hb).dJ ht
    · exact h.2.1.tape ht hf hb
  have c2 : cfr X D D1 := by
    rcases h1 with rfl | rfl
    · exact (hf.c sCB_c).dJ
    · exact hf.c sCB_c
  have c3 : D1.2.2 = D.2.2 := by
    rcases h1 with rfl | rfl
    · show D0.2.2 = D.2.2
      rw [hf.1]
    · rw [hf.1]
  refine ⟨⟨F', T, N, m, W, h.1, c1.rf ht (hg.r sFd_r), (h.2.2.1.cf c2).tape hg hr, h.2.2.2.1, ?_⟩, ?_⟩
  · exact h.low (fun a ha => ((hg.r (t := t) sFd_r).1 a (by omega)).trans (c2.1 a (Or.inl ha)))
  · have e : E.2.2 = D.2.2 := by rw [hg.1, c3]
    unfold gr
    rw [e]
    omega
theorem st_feed (h : JR C X t t' F T N m W D) {v1 v2 v3 v4 v5 : Int32} : ST C X t t' 267 154 [.int v1, .int v2, .int v3, .int v4, .int v5] D := by
  by_cases hl : F.length + 20 ≤ 8000
  · have hk : sw (sm_fe C 7 [.ref X, .int v1, .int v2, .int v3, .int v4, .int v5] D) (fun w E => fr (sCB X) D E ∧ CB X (F ++ md_b20 v1 v2 v3 v4 v5) E ∧ w = .inl (some (.int (ni (F.length + 20))))) := k7 h.1.1 h.2.1.1 (fun _ E hf hb => ⟨hf, hb, rfl⟩) (fun z => absurd hl z)
    obtain ⟨w, D0, h1, hf, hb, rfl⟩ := hk
    have hR := h.2.2.1.cf ((hf.c sCB_c).dJ (v := (ni (F.length + 20)).toInt64))
    have hq : sw (sm_fe C 154 [.ref (X + 49), .int v1, .int v2, .int v3, .int v4, .int v5] (sm_dJ D0 (X + 89) 0 (ni (F.length + 20)).toInt64)) (fun w E => fr (sFd X) (sm_dJ D0 (X + 89) 0 (ni (F.length + 20)).toInt64) E ∧ RB X (F ++ md_b20 v1 v2 v3 v4 v5) E ∧ E.1 (X + 49) 0 = ni 0 ∧ w = .inl (some (.int (ni (F.length + 20))))) := r154 h.1.1 hR.1 (fun _ E hf hb h0 => ⟨hf, hb, h0, rfl⟩) (fun z => absurd hl z)
    obtain ⟨w, E, g1, gf, gb, g0, rfl⟩ := hq
    refine ⟨ni 0, _, _, E, l267_ok h.1.1 h1, g1, g0, fun _ => ?_, st_tape h hf hb (Or.inl rfl) gf gb⟩
    rw [gf.1]
    exact up_eq
  · have hk : sw (sm_fe C 7 [.ref X, .int v1, .int v2, .int v3, .int v4, .int v5] D) (fun w E => w = .inr D.2.2.2.1 ∧ E = sm_thr D 0) := k7 h.1.1 h.2.1.1 (fun z => absurd z hl) (fun _ => ⟨rfl, rfl⟩)
    obtain ⟨w, D0, h1, rfl, rfl⟩ := hk
    have hR := h.2.2.1.cf (hE_c (r := .error 0))
    have hq : sw (sm_fe C 154 [.ref (X + 49), .int v1, .int v2, .int v3, .int v4, .int v5] (sm_thr D 0)) (fun w E => fr (s0 X) (hE X D (.error 0)) E ∧ E.1 (X + 49) 0 = ni 1 ∧ w = .inl (some (.int (ni 0)))) := r154 h.1.1 hR.1 (fun z => absurd z hl) (fun _ E hf h0 => ⟨hf, h0, rfl⟩)
    obtain ⟨w, E, g1, gf, g0, rfl⟩ := hq
    exact ⟨ni 1, _, _, E, l267_er h.1.1 h1 (sm_thr_at D 0), g1, g0, fun z => absurd z (by decide), st_end h (gf.mono s0_le) (hR.2.1.f gf)⟩
def STe (C : sm_K) (X t t' : Nat) (v : Int32) (D : sm_D) : Prop := ∃ k D1 D2, sm_fe C 268 [.ref X, .int v] D = some (.inl (some (.int k)), D1) ∧ sm_fe C 156 [.ref (X + 49), .int v] D1 = some (.inl none, D2) ∧ D2.1 (X + 49) 0 = k ∧ JK C X t t' D2 ∧ gr D D2
theorem st_ende (h : JR C X t t' F T N m W D) {v : Int32} : STe C X t t' v D := by
  cases hv : ac_in v (F.length + 1) with
  | some k =>
    have hk : sw (sm_fe C 8 [.ref X, .int v] D) (fun w E => fr (sCB X) D E ∧ CB X (F.take k) E ∧ w = .inl none) := k8 h.1.1 h.2.1.1 (fun k' hk' E hf hb => by rw [hv] at hk'; cases hk'; exact ⟨hf, hb, rfl⟩) (fun z => by rw [hv] at z; cases z)
    obtain ⟨w, D0, h1, hf, hb, rfl⟩ := hk
    have hR := h.2.2.1.cf (hf.c sCB_c)
    have hq : sw (sm_fe C 156 [.ref (X + 49), .int v] D0) (fun w E => fr (sFd X) D0 E ∧ RB X (F.take k) E ∧ E.1 (X + 49) 0 = ni 0 ∧ w = .inl none) := r156 h.1.1 hR.1 (fun k' hk' E hf hb h0 => by rw [hv] at hk'; cases hk'; exact ⟨hf, hb, h0, rfl⟩) (fun z => by rw [hv] at z; cases z)
    obtain ⟨w, E, g1, gf, gb, g0, rfl⟩ := hq
    exact ⟨ni 0, _, E, l268_ok h.1.1 h1, g1, g0, st_tape (v := 0) h hf hb (Or.inr rfl) gf gb⟩
  | none =>
    have hk : sw (sm_fe C 8 [.ref X, .int v] D) (fun w E => w = .inr D.2.2.2.1 ∧ E = sm_thr D 1) := k8 h.1.1 h.2.1.1 (fun k' hk' => by rw [hv] at hk'; cases hk') (fun _ => ⟨rfl, rfl⟩)
    obtain ⟨w, D0, h1, rfl, rfl⟩ := hk
    have hR := h.2.2.1.cf (hE_c (r := .error 1))
    have hq : sw (sm_fe C 156 [.ref (X + 49), .int v] (sm_thr D 1)) (fun w E => fr (sFd X) (hE X D (.error 1)) E ∧ RB X F E ∧ E.1 (X + 49) 0 = ni 1 ∧ w = .inl none) := r156 h.1.1 hR.1 (fun k' hk' => by rw [hv] at hk'; cases hk') (fun _ E hf hb h0 => ⟨hf, hb, h0, rfl⟩)
    obtain ⟨w, E, g1, gf, gb, g0, rfl⟩ := hq
    have ht := h.1.la
    refine ⟨ni 1, _, E, l268_er h.1.1 h1 (sm_thr_at D 1), g1, g0, ⟨F, T, N, m, W, h.1, (h.2.1.rf ht (hE_r (r := .error 1) ht)).rf ht (gf.r sFd_r), hR.tape gf gb, h.2.2.2.1, ?_⟩, ?_⟩
    · exact h.low (fun a ha => ((gf.r (t := t) sFd_r).1 a (by omega)).trans (hE_c.1 a (Or.inl ha)))
    · exact (hE_g (X := X) (r := .error 1)).tr (by rw [gf.1])
theorem st_again (h : JR C X t t' F T N m W D) : ST C X t t' 282 259 [] D := by
  have hB := h.2.2.2.1
  by_cases hl : W.length ≤ 8000
  · have hk : sw (sm_fe C 27 [.ref X] D) (fun w E => fr (sCB X) D E ∧ CB X W E ∧ w = .inl (some (.int (ni W.length)))) := k27 h.1.1 h.2.1.2.2 hB (fun _ E hf hb => ⟨hf, hb, rfl⟩) (fun z => absurd hl z)
    obtain ⟨w, D0, h1, hf, hb, rfl⟩ := hk
    have hR := h.2.2.1.cf ((hf.c sCB_c).dJ (v := (ni W.length).toInt64))
    have hq : sw (sm_fe C 259 [.ref (X + 49)] (sm_dJ D0 (X + 89) 0 (ni W.length).toInt64)) (fun w E => fr (sFd X) (sm_dJ D0 (X + 89) 0 (ni W.length).toInt64) E ∧ RB X W E ∧ E.1 (X + 49) 0 = ni 0 ∧ w = .inl (some (.int (ni W.length)))) := r259 h.1.1 hR.2.2.2.1 hB (fun _ E hf hb h0 => ⟨hf, hb, h0, rfl⟩) (fun z => absurd hl z)
    obtain ⟨w, E, g1, gf, gb, g0, rfl⟩ := hq
    refine ⟨ni 0, _, _, E, l282_ok h.1.1 h1, g1, g0, fun _ => ?_, st_tape h hf hb (Or.inl rfl) gf gb⟩
    rw [gf.1]
    exact up_eq
  · have hk : sw (sm_fe C 27 [.ref X] D) (fun w E => w = .inr D.2.2.2.1 ∧ E = sm_thr D 0) := k27 h.1.1 h.2.1.2.2 hB (fun z => absurd z hl) (fun _ => ⟨rfl, rfl⟩)
    obtain ⟨w, D0, h1, rfl, rfl⟩ := hk
    have hR := h.2.2.1.cf (hE_c (r := .error 0))
    have hq : sw (sm_fe C 259 [.ref (X + 49)] (sm_thr D 0)) (fun w E => fr (s0 X) (hE X D (.error 0)) E ∧ E.1 (X + 49) 0 = ni 1 ∧ w = .inl (some (.int (ni 0)))) := r259 h.1.1 hR.2.2.2.1 hB (fun z => absurd z hl) (fun _ E hf h0 => ⟨hf, h0, rfl⟩)
    obtain ⟨w, E, g1, gf, g0, rfl⟩ := hq
    exact ⟨ni 1, _, _, E, l282_er h.1.1 h1 (sm_thr_at D 0), g1, g0, fun z => absurd z (by decide), st_end h (gf.mono s0_le) (hR.2.1.f gf)⟩
theorem ws_c {o : List Int32} : cfr X D (ws X D o) := ⟨fun a ha => funext fun j => by unfold ws; dsimp only; rw [if_neg (by omega), if_neg (by omega)], rfl⟩
theorem CC.wr (h : CC X t F T m W D) (ht : t = X + 23 ∨ t = X + 36) {o : List Int32} (ho : o.length ≤ 20000) : CC X t F T m o (ws X D o) := by
  have e : ∀ a j, a ≠ X + 21 → a ≠ X + 22 → (ws X D o).1 a j = D.1 a j := fun a j p q => by unfold ws; dsimp only; rw [if_neg p, if_neg q]
  exact ⟨CB_e h.1 (e _ _ (by omega) (by omega)) (fun i => e _ _ (by omega) (by omega)), TR_l h.2.1 (fun a p q => funext fun j => e _ _ (by omega) (by omega)) rfl, CWr_ws ho⟩
theorem RR.wr (h : RR C X F T N m W D) (hf : fr (fun c j => sWr X c j ∨ s0 X c j) D E) (hv : RV C X T N m E) (ho : RO X W' E) : RR C X F T N m W' E := by
  obtain ⟨h1, h2, h3, h4, h5⟩ := h
  have e : ∀ c j, ¬ (sWr X c j ∨ s0 X c j) → E.1 c j = D.1 c j := hf.2
  exact ⟨RB_e h1 (e _ _ (by unfold sWr s0 sPT rsc; omega)) (fun i => e _ _ (by unfold sWr s0 sPT rsc; omega)), hv, RKP_e h3 (e _ _ (by unfold sWr s0 sPT rsc; omega)) (e _ _ (by unfold sWr s0 sPT rsc; omega)) (fun i => e _ _ (by unfold sWr s0 sPT rsc; omega)), ho, (e _ _ (by unfold sWr s0 sPT rsc; omega)).trans h5⟩
theorem sWr_r : ∀ c j, (sWr X c j ∨ s0 X c j) → X + 49 ≤ c := fun c j h => by unfold sWr s0 sPT rsc at h; omega
theorem st_write (h : JR C X t t' F T N m W D) : ST C X t t' 280 246 [] D := by
  have ht := h.1.la
  have hK := h.2.2.1.2.2.1
  by_cases hl : 1 ≤ m.1.length
  · have hw := hK.w hl
    have hk : sw (sm_fe C 25 [.ref X] D) (fun w E => E = ws X D (md_write T m) ∧ w = .inl (some (.int (ni (md_write T m).length)))) := k25 h.1.1 ht h.1.2.1 h.1.2.2.2.2.1 h.2.1.1 h.2.1.2.1 (fun z => ⟨hw.2.1, hw.2.2.2.2⟩) (fun _ => ⟨rfl, rfl⟩) (fun z => absurd hl (by omega))
    obtain ⟨w, D0, h1, rfl, rfl⟩ := hk
    have c2 : cfr X D (sm_dJ (ws X D (md_write T m)) (X + 89) 0 (ni (md_write T m).length).toInt64) := ws_c.dJ
    have hR := h.2.2.1.cf c2
    have hq : sw (sm_fe C 246 [.ref (X + 49)] (sm_dJ (ws X D (md_write T m)) (X + 89) 0 (ni (md_write T m).length).toInt64)) (fun w E => fr (fun c j => sWr X c j ∨ s0 X c j) (sm_dJ (ws X D (md_write T m)) (X + 89) 0 (ni (md_write T m).length).toInt64) E ∧ RV C X T N m E ∧ RO X (md_write T m) E ∧ E.1 (X + 49) 0 = ni 0 ∧ w = .inl (some (.int (ni (md_write T m).length)))) := r246 hR.2.1 hR.2.2.1 (fun _ => hw) (fun _ E hf hv ho h0 => ⟨hf, hv, ho, h0, rfl⟩) (fun z => by rw [z] at hl; exact absurd hl (by decide))
    obtain ⟨w, E, g1, gf, gv, go, g0, rfl⟩ := hq
    have hby : mB (md_write T m) := by
      rcases hK with ⟨rfl, -, -⟩ | ⟨b1, b2, b3, b4, b5, b6, b7⟩
      · exact absurd hl (by decide)
      · refine FI.by b6 (fun u hu f hf => ?_) (z_read b4 b7)
        obtain ⟨j, hj⟩ := List.mem_iff_getElem?.mp hu
        obtain ⟨k, hk⟩ := List.mem_iff_getElem?.mp hf
        exact (h.2.2.1.2.1.fl hj hk).2.2.2.2.2
    refine ⟨ni 0, _, _, E, l280_ok h.1.1 h1, g1, g0, fun _ => ?_, ⟨F, T, N, m, md_write T m, h.1, ((h.2.1.wr ht hw.2.2.2.2).dJ ht).rf ht (gf.r sWr_r), hR.wr gf gv go, hby, ?_⟩, ?_⟩
    · rw [gf.1]
      exact up_eq
    · exact h.low (fun a ha => ((gf.r (t := t) sWr_r).1 a (by omega)).trans (c2.1 a (Or.inl ha)))
    · unfold gr
      rw [gf.1]
      exact ⟨Nat.le_add_right _ _, Nat.le_add_right _ _⟩
  · have hz : m = md_0 := by
      rcases hK with ⟨h1, -, -⟩ | ⟨b1, -⟩
      · exact h1
      · exact absurd b1 hl
    have hk : sw (sm_fe C 25 [.ref X] D) (fun w E => w = .inr D.2.2.2.1 ∧ E = sm_thr D 0) := k25 h.1.1 ht h.1.2.1 h.1.2.2.2.2.1 h.2.1.1 h.2.1.2.1 (fun z => absurd z hl) (fun z => absurd z hl) (fun _ => ⟨rfl, rfl⟩)
    obtain ⟨w, D0, h1, rfl, rfl⟩ := hk
    have hR := h.2.2.1.cf (hE_c (r := .error 0))
    have hq : sw (sm_fe C 246 [.ref (X + 49)] (sm_thr D 0)) (fun w E => fr (s0 X) (hE X D (.error 0)) E ∧ E.1 (X + 49) 0 = ni 1 ∧ w = .inl (some (.int (ni 0)))) := r246 hR.2.1 hR.2.2.1 (fun z => absurd z hl) (fun z => absurd z hl) (fun _ E hf h0 => ⟨hf, h0, rfl⟩)
    obtain ⟨w, E, g1, gf, g0, rfl⟩ := hq
    exact ⟨ni 1, _, _, E, l280_er h.1.1 h1 (sm_thr_at D 0), g1, g0, fun z => absurd z (by decide), st_end h (gf.mono s0_le) (hR.2.1.f gf)⟩
/-- read, on both sides -/
def STr (C : sm_K) (X d : Nat) (D : sm_D) : Prop := ∃ v C' D1 D2 t2 t2', sm_ev C.1 C.2.1 false d 1 [.ref X] (C.2.2.1, D) = some (.inl (some (.int v)), (C'.2.2.1, D1)) ∧ sm_fe C' 158 [.ref (X + 49)] D1 = some (.inl (some (.int v)), D2) ∧ (C'.1 = C.1 ∧ C'.2.1 = C.2.1 ∧ C'.2.2.2 = C.2.2.2 ∧ C'.2.2.1.1 = C.2.2.1.1) ∧ (∀ a, a < C'.2.1 → D1.1 a = C'.2.2.2 a) ∧ JK C' X t2 t2' D2 ∧ gr D D2
theorem RR.rd (h : RR C X F T N m W D) (hf : frR X D E) {T' : Nat → Int32} {N' : Nat} {m' : md_M} (h1 : RB X F' E) (h2 : RV C X T' N' m' E) (h3 : RKP X T' N' m' E) : RR C X F' T' N' m' W E :=
  ⟨h1, h2, h3, RO_e h.2.2.2.1 (hf.2.1 _ _ (by unfold sRd rR2; omega)) (fun i => hf.2.1 _ _ (by unfold sRd rR2; omega)), (hf.2.1 _ _ (by unfold sRd rR2; omega)).trans h.2.2.2.2⟩
theorem frR.r (h : frR X D E) (ht : t = X + 23 ∨ t = X + 36) : rfr X t D E := ⟨fun a ha => funext fun j => h.2.1 a j (by unfold sRd rR2; omega), funext fun j => h.2.2 t j (by omega)⟩
theorem cF.c (h : cF X t' D E) (ht : t' = X + 23 ∨ t' = X + 36) : cfr X D E := ⟨fun a ha => h.2.1 a (by unfold cR; omega), h.2.2 _ (by omega)⟩
theorem cfr.dI {v : Int32} {i : Nat} (h : cfr X D E) : cfr X D (sm_dI E (X + 2) i v) := ⟨fun a ha => (funext fun j => dI_ne (by omega) : (sm_dI E (X + 2) i v).1 a = E.1 a).trans (h.1 a ha), h.2⟩
theorem CB_nil (h : D.1 (X + 2) 1 = ni 0) : CB X [] D := ⟨h, Nat.zero_le _, fun i hi => (nomatch hi), fun x hx => (nomatch hx)⟩
theorem st_read (h : JR C X t t' F T N m W D) {d : Nat} (hd : 13 ≤ d) : STr C X d D := by
  have ht := h.1.la
  have ht' := h.1.sp
  have hX := h.1.1
  have hne : t ≠ t' ∧ (∀ a, t ≤ a → a ≤ t + 12 → ¬ cR X t' a) := by
    rcases h.1.2.2.2.1 with z | z
    · exact ⟨by omega, fun a p q => by unfold cR; omega⟩
    · exact ⟨by omega, fun a p q => by unfold cR; omega⟩
  cases hm : md_read (md_nth F) F.length with
  | ok m' =>
    have hk : sw (sm_fe C 48 [.ref (X + 4), .ref t'] D) (fun w E => cF X t' D E ∧ TR (md_nth F) t' E m' ∧ w = .inl none) := k48 h.1.2.2.1 hX ht' h.1.2.1 h.2.1.1 (fun m2 hm2 E hf hT _ => by rw [hm] at hm2; cases hm2; exact ⟨hf, hT, rfl⟩) (fun x z D' hx => by rw [hm] at hx; cases hx)
    obtain ⟨w, E, h1, hf, hT, rfl⟩ := hk
    have hev := k1_ok (t := t') (t' := t) (d := d) hX ht' h.1.2.2.2.2.1 h.1.2.2.2.2.2 h1 h.2.2.2.2 hd
    have hv : E.1 t' 11 = ni m'.1.length := hT.choose_spec.choose_spec.2.2.2.2.1
    rw [hv] at hev
    have hX2 : sm_Lay (sm_swC C X t' t) X := sm_Lay_sw hX
    have hx2 : tx (sm_swC C X t' t) := tx_sw hX h.1.2.1
    have c2 : cfr X D (sm_dI E (X + 2) 1 (ni 0)) := (hf.c ht').dI
    have hR := h.2.2.1.cf c2
    have hq : sw (sm_fe (sm_swC C X t' t) 158 [.ref (X + 49)] (sm_dI E (X + 2) 1 (ni 0))) (fun w G => frR X (sm_dI E (X + 2) 1 (ni 0)) G ∧ RV (sm_swC C X t' t) X (md_nth F) F.length m' G ∧ RKP X (md_nth F) F.length m' G ∧ RB X [] G ∧ w = .inl (some (.int (ni m'.1.length)))) := r158 hX2 hx2 hR.1 hR.2.2.1 hR.2.2.2.2 (fun m2 hm2 G gf gv gk gb => by rw [hm] at hm2; cases hm2; exact ⟨gf, gv, gk, gb, rfl⟩) (fun f hf2 => by rw [hm] at hf2; cases hf2)
    obtain ⟨w, G, g1, gf, gv, gk, gb, rfl⟩ := hq
    have hc : CC X t' [] (md_nth F) m' W (sm_dI E (X + 2) 1 (ni 0)) := ⟨CB_nil dI_eq, TR_l hT (fun a p q => funext fun j => dI_ne (by omega)) rfl, CWr_e h.2.1.2.2 ((dI_ne (by omega)).trans (congrFun (hf.2.1 _ (by unfold cR; omega)) _)) (fun i => (dI_ne (by omega)).trans (congrFun (hf.2.1 _ (by unfold cR; omega)) _))⟩
    refine ⟨ni m'.1.length, sm_swC C X t' t, _, G, t', t, hev, g1, ⟨rfl, rfl, rfl, rfl⟩, h.low (fun a ha => c2.1 a (Or.inl ha)), ⟨[], md_nth F, F.length, m', W, ⟨hX2, hx2, h.1.2.2.1, ?_, sw_3, sw_4⟩, hc.rf ht' (gf.r ht'), ?_, h.2.2.2.1, ?_⟩, ?_⟩
    · rcases h.1.2.2.2.1 with z | z
      · exact Or.inr ⟨z.2, z.1⟩
      · exact Or.inl ⟨z.2, z.1⟩
    · exact RR.rd (C := sm_swC C X t' t) ⟨hR.1, RV_C hR.2.1 hX2 hx2, hR.2.2.1, hR.2.2.2.1, hR.2.2.2.2⟩ gf gb gv gk
    · exact h.low (fun a ha => ((gf.r (t := t) ht).1 a (by omega)).trans (c2.1 a (Or.inl ha)))
    · unfold gr
      rw [gf.1]
      show E.2.2.2.1 ≤ _ ∧ E.2.2.2.2 ≤ _
      rw [hf.1]
      omega
  | error f =>
    have hk : sw (sm_fe C 48 [.ref (X + 4), .ref t'] D) (fun w E => ∃ z, cT X t' D f z E ∧ w = .inr z) := k48 h.1.2.2.1 hX ht' h.1.2.1 h.2.1.1 (fun m2 hm2 => by rw [hm] at hm2; cases hm2) (fun x z D' hx hT => by rw [hm] at hx; cases hx; exact ⟨z, hT, rfl⟩)
    obtain ⟨w, D', h1, z, ⟨E, rfl, rfl, he, hf⟩, rfl⟩ := hk
    have hfe := k1_er (t := t') hX h.1.2.2.2.2.2 h1 (sm_thr_at E 0)
    have hev := (sm_fe_ev (k := 1) (S := (C.2.2.1, D)) (q := false) (d := d) rfl h.2.2.2.2 hd hfe).1
    have e0 : (sm_thr E 0).1 (X + 1) 1 = ni f := he
    rw [e0] at hev
    have c2 : cfr X D (sm_dI (sm_thr E 0) (X + 2) 1 (ni 0)) := by
      have c1 : cfr X D (sm_thr E 0) := hf.c ht'
      exact c1.dI
    have hR := h.2.2.1.cf c2
    have hq : sw (sm_fe C 158 [.ref (X + 49)] (sm_dI (sm_thr E 0) (X + 2) 1 (ni 0))) (fun w G => frR X (sm_dI (sm_thr E 0) (X + 2) 1 (ni 0)) G ∧ RV C X T N m G ∧ RKP X T N m G ∧ RB X [] G ∧ w = .inl (some (.int (sm_k (-1) - ni f)))) := r158 hX h.1.2.1 hR.1 hR.2.2.1 hR.2.2.2.2 (fun m2 hm2 => by rw [hm] at hm2; cases hm2) (fun f2 hf2 _ G gf gv gk gb => by rw [hm] at hf2; cases hf2; exact ⟨gf, gv, gk, gb, rfl⟩)
    obtain ⟨w, G, g1, gf, gv, gk, gb, rfl⟩ := hq
    have hc : CC X t [] T m W (sm_dI (sm_thr E 0) (X + 2) 1 (ni 0)) := ⟨CB_nil dI_eq, TR_l h.2.1.2.1 (fun a p q => (funext fun j => dI_ne (by omega) : (sm_dI (sm_thr E 0) (X + 2) 1 (ni 0)).1 a = E.1 a).trans (hf.2.1 a (hne.2 a p q))) (hf.2.2 t hne.1), CWr_e h.2.1.2.2 ((dI_ne (by omega)).trans (congrFun (hf.2.1 _ (by unfold cR; omega)) _)) (fun i => (dI_ne (by omega)).trans (congrFun (hf.2.1 _ (by unfold cR; omega)) _))⟩
    refine ⟨sm_k (-1) - ni f, C, _, G, t, t', hev, g1, ⟨rfl, rfl, rfl, rfl⟩, h.low (fun a ha => c2.1 a (Or.inl ha)), ⟨[], T, N, m, W, h.1, hc.rf ht (gf.r ht), hR.rd gf gb gv gk, h.2.2.2.1, ?_⟩, ?_⟩
    · exact h.low (fun a ha => ((gf.r (t := t) ht).1 a (by omega)).trans (c2.1 a (Or.inl ha)))
    · unfold gr
      rw [gf.1]
      show E.2.2.2.1 + 1 ≤ _ ∧ E.2.2.2.2 + 6 ≤ _
      rw [hf.1]
      omega
end JCH
