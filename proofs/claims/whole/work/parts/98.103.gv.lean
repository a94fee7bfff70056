def RF1 (X g : Nat) (h : md_F) (D : sm_D) : Prop := D.1 (X + 70) g = ni h.1 ∧ D.1 (X + 71) g = ni h.2.1 ∧ D.1 (X + 72) g = ni (h.2.2.1 - h.2.1) ∧ D.1 (X + 73) g = ni (h.2.2.1 + 1) ∧ D.1 (X + 74) g = ni h.2.2.2
/-- the fields of an entity -/
def RFS (X i tot : Nat) (fs : List md_F) (D : sm_D) : Prop := D.1 (X + 54) i = ni tot ∧ D.1 (X + 55) i = ni fs.length ∧ D.1 (X + 49) 28 = ni (tot + fs.length) ∧ tot + fs.length ≤ 200 ∧ fs.length ≤ 20 ∧ ∀ j h, fs[j]? = some h → RF1 X (tot + j) h D ∧ h.1 ≤ 6
def sFi (X i tot c j : Nat) : Prop := (c = X + 49 ∧ (j = 28 ∨ j = 45)) ∨ ((c = X + 54 ∨ c = X + 55) ∧ j = i) ∨ (X + 70 ≤ c ∧ c ≤ X + 74 ∧ tot ≤ j)
/-- no line's end is cut -/
def BB (T : Nat → Int32) (a b : Nat) : Prop := ∀ q, a ≤ q → q < b → T q = ni 13 → q + 2 ≤ b
def md_fx (k tot : Nat) : List md_F → Nat → Int32 → Int32
  | [], _, v => v
  | h :: fs, j, v => md_fx k tot fs (j + 1) (if h.1 = k then ni (tot + j) else v)
theorem md_fx_none {k tot : Nat} : ∀ (fs : List md_F) (j : Nat) (v : Int32), (∀ h ∈ fs, h.1 ≠ k) → md_fx k tot fs j v = v := by
  intro fs
  induction fs with
  | nil => intro j v _; rfl
  | cons h fs ih =>
    intro j v hh
    unfold md_fx
    rw [if_neg (hh h List.mem_cons_self)]
    exact ih _ _ (fun g hg => hh g (List.mem_cons_of_mem _ hg))
theorem md_fx_some {k tot : Nat} : ∀ (fs : List md_F) (j : Nat) (v : Int32), (∃ h ∈ fs, h.1 = k) → ∃ m h, fs[m]? = some h ∧ h.1 = k ∧ md_fx k tot fs j v = ni (tot + j + m) := by
  intro fs
  induction fs with
  | nil => intro j v hh; obtain ⟨h, hh, -⟩ := hh; cases hh
  | cons h fs ih =>
    intro j v hh
    unfold md_fx
    by_cases hr : ∃ g ∈ fs, g.1 = k
    · obtain ⟨m, g, h1, h2, h3⟩ := ih (j + 1) (if h.1 = k then ni (tot + j) else v) hr
      exact ⟨m + 1, g, by rw [List.getElem?_cons_succ]; exact h1, h2, by rw [h3]; congr 1; omega⟩
    · have hk : h.1 = k := by
        obtain ⟨g, hg, hgk⟩ := hh
        rcases List.mem_cons.mp hg with rfl | hg
        · exact hgk
        · exact absurd ⟨g, hg, hgk⟩ hr
      rw [if_pos hk, md_fx_none fs (j + 1) _ (fun g hg hgk => hr ⟨g, hg, hgk⟩)]
      exact ⟨0, h, rfl, hk, rfl⟩
theorem md_fx_iff {k tot j : Nat} {fs : List md_F} (hb : tot + j + fs.length < 2147483648) : (md_fx k tot fs j (sm_k (-1)) = sm_k (-1)) = (fs.any (fun h => h.1 == k) = false) := by
  cases ha : fs.any (fun h => h.1 == k)
  · rw [md_fx_none fs j _ (fun h hh hk => by
      have : fs.any (fun h => h.1 == k) = true := List.any_eq_true.mpr ⟨h, hh, beq_iff_eq.mpr hk⟩
      rw [ha] at this; cases this)]
    simp
  · obtain ⟨h, hh, hk⟩ := List.any_eq_true.mp ha
    obtain ⟨m, g, h1, -, h3⟩ := md_fx_some (k := k) (tot := tot) fs j (sm_k (-1)) ⟨h, hh, beq_iff_eq.mp hk⟩
    have hm : m < fs.length := by
      rcases Nat.lt_or_ge m fs.length with g2 | g2
      · exact g2
      · rw [List.getElem?_eq_none g2] at h1; cases h1
    rw [h3, ni_ne_k (by omega)]
    simp
def md_f1 (T : Nat → Int32) (i b tot : Nat) (fs : List md_F) (p : Nat) : Except Nat md_F :=
  if 20 ≤ fs.length ∨ 200 ≤ tot + fs.length then .error p
  else match md_nm T b p p with
    | .error f => .error f
    | .ok c =>
      if 0 < md_kd T i p (c - p) ∧ fs.any (fun g => g.kind == md_kd T i p (c - p)) = true then .error p
      else match md_tx T b (c + 1) with
        | .error f => .error f
        | .ok z => .ok (md_kd T i p (c - p), p, c, z)
theorem md_fs_step {T : Nat → Int32} {i b tot p : Nat} {fs : List md_F} (hp : p < b) (h13 : T p ≠ ni 13) : md_fs T i b tot fs p = (match md_f1 T i b tot fs p with | .error f => .error f | .ok h => md_fs T i b tot (fs ++ [h]) (h.2.2.2 + 2)) := by
  rw [md_fs, if_pos hp, if_neg h13]
  unfold md_f1
  by_cases hc : 20 ≤ fs.length ∨ 200 ≤ tot + fs.length
  · rw [dif_pos hc, if_pos hc]
  · rw [dif_neg hc, if_neg hc]
    cases md_nm T b p p with
    | error f => rfl
    | ok c =>
      dsimp only
      split
      · rfl
      · cases md_tx T b (c + 1) <;> rfl
section RGW
variable {C : sm_K} {X N i tot : Nat} {T : Nat → Int32} {D E : sm_D} {Q : (Option Value ⊕ Nat) → sm_D → Prop} {fs : List md_F}
theorem r169 (hX : sm_Lay C X) (hi : i < 40) {k : Nat} (hk : k < 2147483648) (h54 : E.1 (X + 54) i = ni tot) (h55 : E.1 (X + 55) i = ni fs.length) (hb : tot + fs.length ≤ 200) (hF : ∀ j h, fs[j]? = some h → E.1 (X + 70) (tot + j) = ni h.1 ∧ h.1 ≤ 6) : sm_fe C 169 [.ref (X + 49), .int (ni i), .int (ni k)] E = some (.inl (some (.int (md_fx k tot fs 0 (sm_k (-1))))), E) := by
  have loop : ∀ (m j : Nat) (v : Int32), j + m = fs.length → sm_fx C 169 10 [.ref (X + 49), .int (ni i), .int (ni k), .int v, .int (ni (tot + j))] [] E = some (.inl (some (.int (md_fx k tot (fs.drop j) j v))), E) := by
    intro m
    induction m with
    | zero =>
      intro j v hj
      apply sw_eq
      refine sw_ge (n169_10 hX) ?_
      simp (disch := omega) only [sw_gu, ni_in, ni_nat, h54, h55, ni_add, ni_le, sw_ite, sw_some]
      rw [if_pos (by omega), List.drop_of_length_le (by omega)]
      exact ⟨decide_eq_true hi, decide_eq_true hi, rfl⟩
    | succ m ih =>
      intro j v hj
      have hj2 : j < fs.length := by omega
      obtain ⟨f1, f2⟩ := hF j _ (List.getElem?_eq_getElem hj2)
      apply sw_eq
      refine sw_ge (n169_10 hX) ?_
      have e1 := ih (j + 1) (ni (tot + j)) (by omega)
      have e0 := ih (j + 1) v (by omega)
      rw [← Nat.add_assoc] at e1 e0
      simp (disch := omega) only [sw_gu, ni_in, ni_nat, h54, h55, ni_add, ni_le, sw_ite, sw_some, f1, ni_inj, e1, e0]
      rw [if_neg (by omega), List.drop_eq_getElem_cons hj2, md_fx]
      refine ⟨decide_eq_true hi, decide_eq_true hi, decide_eq_true (by omega), ?_⟩
      by_cases hc : fs[j].1 = k
      · rw [if_pos hc, if_pos hc]
      · rw [if_neg hc, if_neg hc]
  apply sw_eq
  refine sw_ge (f169 hX) ?_
  have := loop fs.length 0 (sm_k (-1)) (by omega)
  simp only [Nat.add_zero] at this
  simp (disch := omega) only [sw_gu, ni_in, ni_nat, h54, this, sw_some, List.drop_zero]
  exact ⟨decide_eq_true hi, trivial⟩
def s74 (X g c j : Nat) : Prop := c = X + 74 ∧ j = g
theorem r165_207 (h : rH C X T N D) (h8 : D.1 (X + 49) 8 = sm_k (-1)) {a b g : Nat} {v1 : Int32} (hb : b ≤ N) (hB : BB T a b) (hg : g < 200) :
    ∀ (m p : Nat) (E : sm_D), b - p ≤ m → a ≤ p → p ≤ b → fr (s74 X g) D E →
    (∀ z, md_tx T b p = .ok z → z < b → p ≤ z → ∀ E', fr (s74 X g) D E' → E'.1 (X + 74) g = ni z → sw (sm_fx C 165 202 [.ref (X + 49), .int v1, sm_junk, .int (ni b), .int (ni (z + 2)), sm_junk, .int (ni g), .int (ni 0)] [] E') Q) →
    (∀ f, md_tx T b p = .error f → f ≤ N → ∀ x E', fr (s74 X g) D E' → Q (.inl (some (.int x))) (sm_dI E' (X + 49) 8 (ni f))) →
    sw (sm_fx C 165 207 [.ref (X + 49), .int v1, sm_junk, .int (ni b), .int (ni p), sm_junk, .int (ni g), sm_junk] [] E) Q := by
  have hX := h.1
  have hN := h.2.2.1
  have ends : ∀ {p : Nat} {E : sm_D}, p ≤ b → ¬ p < b → fr (s74 X g) D E → (∀ f, md_tx T b p = .error f → f ≤ N → ∀ x E', fr (s74 X g) D E' → Q (.inl (some (.int x))) (sm_dI E' (X + 49) 8 (ni f))) → sw (sm_fx C 165 207 [.ref (X + 49), .int v1, sm_junk, .int (ni b), .int (ni p), sm_junk, .int (ni g), sm_junk] [] E) Q := by
    intro p E hp hpb hfr her
    have e8 : E.1 (X + 49) 8 = sm_k (-1) := by rw [hfr.2 _ _ (by unfold s74; omega), h8]
    rw [md_tx, if_neg hpb] at her
    refine sw_ge (n165_207 hX) ?_
    simp (disch := omega) only [sw_ite, ni_le]
    rw [if_pos (by omega)]
    refine sw_ge (n165_266 hX) ?_
    simp (disch := omega) only [sw_ite, ni_add, ni_le, sw_bv, r162 hX e8, sw_some, sb_v]
    rw [if_neg (by omega)]
    exact her b rfl (by omega) _ E hfr
  intro m
  induction m with
  | zero =>
    intro p E hm ha hp hfr hok her
    exact ends hp (by omega) hfr her
  | succ m ih =>
    intro p E hm ha hp hfr hok her
    by_cases hpb : p < b
    · have hE : rH C X T N E := h.fr hfr (fun c j hc => by unfold s74 at hc; omega)
      have e8 : E.1 (X + 49) 8 = sm_k (-1) := by rw [hfr.2 _ _ (by unfold s74; omega), h8]
      rw [md_tx, if_pos hpb] at hok her
      refine sw_ge (n165_207 hX) ?_
      simp (disch := omega) only [sw_ite, ni_le, sw_bi, hE.at (show p < N by omega), sw_some, sb_i, r157, md_b_0, ni_add, sw_bv, r162 hX e8, sb_v]
      rw [if_neg (by omega)]
      by_cases h13 : T p = ni 13
      · rw [if_pos h13]
        rw [if_pos h13] at hok her
        have hp2 := hB p ha hpb h13
        have hfr2 : fr (s74 X g) D (sm_dI E (X + 74) g (ni p)) := hfr.dI ⟨rfl, rfl⟩
        have stop : ¬ (p + 2 < b ∧ md_bl (T (p + 2)) = true) → sw (sm_fx C 165 309 [.ref (X + 49), .int v1, sm_junk, .int (ni b), .int (ni p), sm_junk, .int (ni g), sm_junk] [.int (ni 0)] E) Q := by
          intro hc
          rw [if_neg hc] at hok
          refine sw_ge (n165_309 hX) ?_
          simp (disch := omega) only [sw_gu, ni_in, ni_nat, ni_add]
          exact ⟨decide_eq_true hg, hok p rfl hpb (Nat.le_refl _) _ hfr2 dI_eq⟩
        refine sw_ge (n165_266 hX) ?_
        simp (disch := omega) only [sw_ite, ni_add, ni_le, sw_bi]
        rw [if_pos hp2]
        by_cases hlt : p + 2 < b
        · rw [if_neg (by omega), hE.at (show p + 2 < N by omega), sw_some]
          simp only [sb_i, sw_bi, r170, sw_some, sw_ite, md_b_0]
          cases hbl : md_bl (T (p + 2))
          · rw [if_pos rfl]
            refine sw_ge (n165_308 hX) ?_
            exact stop (fun g => by rw [hbl] at g; exact nomatch g.2)
          · rw [if_neg (fun g => nomatch g)]
            rw [if_pos ⟨hlt, hbl⟩] at hok her
            refine sw_ge (n165_309 hX) ?_
            simp (disch := omega) only [sw_gu, ni_in, ni_nat, ni_add]
            refine ⟨decide_eq_true hg, ?_⟩
            refine sw_ge (n165_202 hX) ?_
            simp only [sw_ite, ni_10, if_false]
            exact ih (p + 2) _ (by omega) (by omega) (by omega) hfr2 (fun z hz h1 h2 => hok z hz h1 (by omega)) her
        · rw [if_pos (by omega)]
          refine sw_ge (n165_308 hX) ?_
          exact stop (fun g => hlt g.1)
      · rw [if_neg h13]
        rw [if_neg h13] at hok her
        cases hin : md_in (T p) 32 126
        · rw [if_pos rfl]
          by_cases h9 : T p = ni 9
          · rw [if_pos h9]
            rw [if_pos (Or.inr h9)] at hok her
            exact ih (p + 1) E (by omega) (by omega) (by omega) hfr (fun z hz h1 h2 => hok z hz h1 (by omega)) her
          · rw [if_neg h9]
            rw [hin, if_neg (fun g => g.elim (fun g => nomatch g) h9)] at her
            exact her p rfl (by omega) _ E hfr
        · rw [if_neg (fun g => nomatch g)]
          rw [if_pos (Or.inl hin)] at hok her
          exact ih (p + 1) E (by omega) (by omega) (by omega) hfr (fun z hz h1 h2 => hok z hz h1 (by omega)) her
    · exact ends hp hpb hfr her
/-- a field -/
theorem r165 (h : rH C X T N D) (h8 : D.1 (X + 49) 8 = sm_k (-1)) {a b : Nat} (hb : b ≤ N) (hab : a < b) (hB : BB T a b) (hi : i < 40) (hF : RFS X i tot fs D)
    (hok : ∀ hd, md_f1 T i b tot fs a = .ok hd → a ≤ hd.2.2.2 → hd.2.2.2 < b → ∀ E', fr (sFi X i tot) D E' → RFS X i tot (fs ++ [hd]) E' → E'.1 (X + 49) 8 = sm_k (-1) → Q (.inl (some (.int (ni (hd.2.2.2 + 2))))) E')
    (her : ∀ f, md_f1 T i b tot fs a = .error f → ∀ x E', rE2 X D f E' → Q (.inl (some (.int x))) E') :
    sw (sm_fe C 165 [.ref (X + 49), .int (ni i), .int (ni a), .int (ni b)] D) Q := by
  have hX := h.1
  have hN := h.2.2.1
  obtain ⟨f1, f2, f3, f4, f5, f6⟩ := id hF
  have bad : ∀ {f : Nat}, f ≤ N → rE2 X D f (sm_dI D (X + 49) 8 (ni f)) := fun hf => ⟨by omega, dI_eq, rF2.refl.dI (Or.inl (by omega))⟩
  unfold md_f1 at hok her
  refine sw_ge (f165 hX) ?_
  simp (disch := omega) only [sw_gu, ni_in, ni_nat, f2, ni_inj, sw_ite, f3]
  refine ⟨decide_eq_true hi, ?_⟩
  have n21 : (20 ≤ fs.length ∨ 200 ≤ tot + fs.length) → sw (sm_fx C 165 21 [.ref (X + 49), sm_junk, .int (ni a), sm_junk, sm_junk, sm_junk, sm_junk, sm_junk] [] D) Q := by
    intro hc
    rw [if_pos hc] at her
    refine sw_ge (n165_21 hX) ?_
    simp only [sw_bv, r162 hX h8, sw_some, sb_v]
    exact her a rfl _ _ (bad (by omega))
  by_cases hc1 : fs.length = 20
  · rw [if_pos hc1]; exact n21 (Or.inl (by omega))
  rw [if_neg hc1]
  by_cases hc2 : tot + fs.length = 200
  · rw [if_pos hc2]; exact n21 (Or.inr (by omega))
  rw [if_neg hc2]
  have hnc : ¬ (20 ≤ fs.length ∨ 200 ≤ tot + fs.length) := by omega
  rw [if_neg hnc] at hok her
  have hlen : fs.length < 20 ∧ tot + fs.length < 200 := by omega
  -- behind the name
  have n88 : ∀ c, md_nm T b a a = .ok c → a < c → c < b → sw (sm_fx C 165 88 [.ref (X + 49), .int (ni i), .int (ni a), .int (ni b), .int (ni c), sm_junk, sm_junk, sm_junk] [] D) Q := by
    intro c hnm hac hcb
    rw [hnm] at hok her
    dsimp only at hok her
    have hkd := md_kd_le (T := T) (i := i) (a := a) (n := c - a)
    have n153 : ¬ (0 < md_kd T i a (c - a) ∧ fs.any (fun g => g.kind == md_kd T i a (c - a)) = true) → sw (sm_fx C 165 153 [.ref (X + 49), .int (ni i), .int (ni a), .int (ni b), .int (ni c), .int (ni (md_kd T i a (c - a))), sm_junk, sm_junk] [] D) Q := by
      intro hnd
      rw [if_neg hnd] at hok her
      refine sw_ge (n165_153 hX) ?_
      simp (disch := omega) only [sw_gu, f3, ni_in, ni_nat, ni_sub (show a ≤ c by omega), ni_add]
      refine ⟨decide_eq_true (by omega), decide_eq_true (by omega), decide_eq_true (by omega), decide_eq_true (by omega), ?_⟩
      refine sw_ge (n165_202 hX) ?_
      simp only [sw_ite, ni_10, if_false]
      have hfr4 : fr (sFi X i tot) D (sm_dI (sm_dI (sm_dI (sm_dI D (X + 70) (tot + fs.length) (ni (md_kd T i a (c - a)))) (X + 71) (tot + fs.length) (ni a)) (X + 72) (tot + fs.length) (ni (c - a))) (X + 73) (tot + fs.length) (ni (c + 1))) := (((fr.refl.dI (by unfold sFi; omega)).dI (by unfold sFi; omega)).dI (by unfold sFi; omega)).dI (by unfold sFi; omega)
      have d70 : ∀ c' j, ¬ ((c' = X + 70 ∨ c' = X + 71 ∨ c' = X + 72 ∨ c' = X + 73) ∧ j = tot + fs.length) → (sm_dI (sm_dI (sm_dI (sm_dI D (X + 70) (tot + fs.length) (ni (md_kd T i a (c - a)))) (X + 71) (tot + fs.length) (ni a)) (X + 72) (tot + fs.length) (ni (c - a))) (X + 73) (tot + fs.length) (ni (c + 1))).1 c' j = D.1 c' j := fun c' j hc => by rw [dI_ne (by omega), dI_ne (by omega), dI_ne (by omega), dI_ne (by omega)]
      have g1 : (sm_dI (sm_dI (sm_dI (sm_dI D (X + 70) (tot + fs.length) (ni (md_kd T i a (c - a)))) (X + 71) (tot + fs.length) (ni a)) (X + 72) (tot + fs.length) (ni (c - a))) (X + 73) (tot + fs.length) (ni (c + 1))).1 (X + 70) (tot + fs.length) = ni (md_kd T i a (c - a)) := by rw [dI_ne (by omega), dI_ne (by omega), dI_ne (by omega), dI_eq]
      have g2 : (sm_dI (sm_dI (sm_dI (sm_dI D (X + 70) (tot + fs.length) (ni (md_kd T i a (c - a)))) (X + 71) (tot + fs.length) (ni a)) (X + 72) (tot + fs.length) (ni (c - a))) (X + 73) (tot + fs.length) (ni (c + 1))).1 (X + 71) (tot + fs.length) = ni a := by rw [dI_ne (by omega), dI_ne (by omega), dI_eq]
      have g3 : (sm_dI (sm_dI (sm_dI (sm_dI D (X + 70) (tot + fs.length) (ni (md_kd T i a (c - a)))) (X + 71) (tot + fs.length) (ni a)) (X + 72) (tot + fs.length) (ni (c - a))) (X + 73) (tot + fs.length) (ni (c + 1))).1 (X + 72) (tot + fs.length) = ni (c - a) := by rw [dI_ne (by omega), dI_eq]
      have g4 : (sm_dI (sm_dI (sm_dI (sm_dI D (X + 70) (tot + fs.length) (ni (md_kd T i a (c - a)))) (X + 71) (tot + fs.length) (ni a)) (X + 72) (tot + fs.length) (ni (c - a))) (X + 73) (tot + fs.length) (ni (c + 1))).1 (X + 73) (tot + fs.length) = ni (c + 1) := by rw [dI_eq]
      have hH4 : rH C X T N (sm_dI (sm_dI (sm_dI (sm_dI D (X + 70) (tot + fs.length) (ni (md_kd T i a (c - a)))) (X + 71) (tot + fs.length) (ni a)) (X + 72) (tot + fs.length) (ni (c - a))) (X + 73) (tot + fs.length) (ni (c + 1))) := h.fr hfr4 (fun c j hc => by unfold sFi at hc; omega)
      generalize sm_dI (sm_dI (sm_dI (sm_dI D (X + 70) (tot + fs.length) (ni (md_kd T i a (c - a)))) (X + 71) (tot + fs.length) (ni a)) (X + 72) (tot + fs.length) (ni (c - a))) (X + 73) (tot + fs.length) (ni (c + 1)) = D4 at hfr4 d70 g1 g2 g3 g4 hH4 ⊢
      refine r165_207 hH4 (by rw [d70 _ _ (by omega), h8]) (a := a) hb hB (by omega) b (c + 1) D4 (by omega) (by omega) (by omega) fr.refl (fun z hz hzb hcz E' hfr' h74 => ?_) (fun f hf hfN x E' hfr' => ?_)
      · rw [hz] at hok
        dsimp only at hok
        have dd : ∀ c' j, ¬ (c' = X + 74 ∧ j = tot + fs.length) → ¬ ((c' = X + 70 ∨ c' = X + 71 ∨ c' = X + 72 ∨ c' = X + 73) ∧ j = tot + fs.length) → E'.1 c' j = D.1 c' j := fun c' j h1 h2 => by rw [hfr'.2 c' j (by unfold s74; omega), d70 c' j h2]
        have e28 : E'.1 (X + 49) 28 = ni (tot + fs.length) := by rw [dd _ _ (by omega) (by omega), f3]
        have e55 : E'.1 (X + 55) i = ni fs.length := by rw [dd _ _ (by omega) (by omega), f2]
        refine sw_ge (n165_202 hX) ?_
        have e55' : sm_up E'.1 (X + 49) 28 (ni (tot + fs.length + 1)) (X + 55) i = ni fs.length := by rw [up_ne (by omega), e55]
        simp (disch := omega) only [sw_ite, if_true, e28, ni_add, sw_gu, ni_in, ni_nat, e55', sw_some]
        refine ⟨decide_eq_true hi, decide_eq_true hi, ?_⟩
        refine hok _ rfl (by show a ≤ z; omega) (by show z < b; omega) _ ((((hfr4.trans (hfr'.mono (fun c j hc => by unfold s74 at hc; unfold sFi; omega))).dI (by unfold sFi; omega)).dI (by unfold sFi; omega))) ?_ (by rw [dI_ne (by omega), dI_ne (by omega), dd _ _ (by omega) (by omega), h8])
        refine ⟨by rw [dI_ne (by omega), dI_ne (by omega), dd _ _ (by omega) (by omega), f1], by rw [dI_eq, List.length_append]; rfl, by rw [dI_ne (by omega), dI_eq, List.length_append]; rfl, by rw [List.length_append, List.length_singleton]; omega, by rw [List.length_append, List.length_singleton]; omega, fun j hd hj => ?_⟩
        by_cases hjl : j < fs.length
        · rw [List.getElem?_append_left hjl] at hj
          obtain ⟨⟨k1, k2, k3, k4, k5⟩, k6⟩ := f6 j hd hj
          refine ⟨⟨?_, ?_, ?_, ?_, ?_⟩, k6⟩ <;> rw [dI_ne (by omega), dI_ne (by omega), dd _ _ (by omega) (by omega)] <;> assumption
        · rw [List.getElem?_append_right (by omega)] at hj
          have hj2 : j = fs.length := by
            rcases Nat.lt_or_ge (j - fs.length) 1 with g | g
            · omega
            · rw [List.getElem?_eq_none (by rw [List.length_singleton]; exact g)] at hj; cases hj
          subst hj2
          rw [Nat.sub_self] at hj
          cases hj
          refine ⟨⟨?_, ?_, ?_, ?_, ?_⟩, hkd⟩
          · rw [dI_ne (by omega), dI_ne (by omega), hfr'.2 _ _ (by unfold s74; omega), g1]
          · rw [dI_ne (by omega), dI_ne (by omega), hfr'.2 _ _ (by unfold s74; omega), g2]
          · rw [dI_ne (by omega), dI_ne (by omega), hfr'.2 _ _ (by unfold s74; omega), g3]
          · rw [dI_ne (by omega), dI_ne (by omega), hfr'.2 _ _ (by unfold s74; omega), g4]
          · rw [dI_ne (by omega), dI_ne (by omega), h74]
      · refine her f (by rw [hf]) x _ ⟨by omega, dI_eq, rF2.dI ((hfr4.trans (hfr'.mono (fun c j hc => by unfold s74 at hc; unfold sFi; omega))).Fr2 (fun c j hc => by unfold sFi at hc; unfold rR2; omega)) (Or.inl (by omega))⟩
    refine sw_ge (n165_88 hX) ?_
    simp (disch := omega) only [sw_ite, ni_inj, ni_sub (show a ≤ c by omega), sw_bi, r166 h (show i < 2147483648 by omega) (show a + (c - a) ≤ N by omega), sw_some, sb_i, ni_le, r169 hX hi (show md_kd T i a (c - a) < 2147483648 by omega) f1 f2 f4 (fun j h hj => ⟨(f6 j h hj).1.1, (f6 j h hj).2⟩), md_fx_iff (k := md_kd T i a (c - a)) (tot := tot) (j := 0) (fs := fs) (by omega), sw_bv, r162 hX h8, sb_v]
    rw [if_neg (by omega), if_neg (by omega)]
    by_cases hk0 : md_kd T i a (c - a) ≤ 0
    · rw [if_pos hk0]
      exact n153 (fun g => by omega)
    · rw [if_neg hk0]
      cases ha : fs.any (fun h => h.1 == md_kd T i a (c - a))
      · rw [if_pos rfl]
        exact n153 (fun g => by have := g.2; rw [ha] at this; cases this)
      · rw [if_neg (fun g => nomatch g)]
        rw [if_pos ⟨by omega, ha⟩] at her
        exact her a rfl _ _ (bad (by omega))
  -- the name
  have n31 : ∀ (m p : Nat), b - p ≤ m → a ≤ p → p ≤ b → p ≤ a + 40 → (∀ c, md_nm T b a p = .ok c → md_nm T b a a = .ok c) → (∀ f, md_nm T b a p = .error f → md_nm T b a a = .error f) → sw (sm_fx C 165 31 [.ref (X + 49), .int (ni i), .int (ni a), .int (ni b), .int (ni p), sm_junk, sm_junk, sm_junk] [] D) Q := by
    have last : ∀ {p : Nat}, ¬ p < b → p ≤ b → a ≤ p → (∀ f, md_nm T b a p = .error f → md_nm T b a a = .error f) → sw (sm_fx C 165 31 [.ref (X + 49), .int (ni i), .int (ni a), .int (ni b), .int (ni p), sm_junk, sm_junk, sm_junk] [] D) Q := by
      intro p hpb hpb2 hap he
      have hpe : p = b := by omega
      subst hpe
      have e1 := he p (by rw [md_nm, if_neg hpb])
      rw [e1] at her
      refine sw_ge (n165_31 hX) ?_
      simp (disch := omega) only [sw_ite, ni_le]
      rw [if_pos (by omega)]
      refine sw_ge (n165_88 hX) ?_
      simp only [sw_ite, if_true, sw_bv, r162 hX h8, sw_some, sb_v]
      exact her p rfl _ _ (bad hb)
    intro m
    induction m with
    | zero =>
      intro p hm hap hpb hp40 hc he
      exact last (by omega) hpb hap he
    | succ m ih =>
      intro p hm hap hpb hp40 hc he
      by_cases hpb2 : p < b
      · refine sw_ge (n165_31 hX) ?_
        simp (disch := omega) only [sw_ite, ni_le, sw_bi, h.at (show p < N by omega), sw_some, sb_i, r157, md_b_0, ni_sub hap, ni_inj, ni_add]
        rw [if_neg (by omega)]
        rw [md_nm, if_pos hpb2] at hc he
        have n73 : (∀ f, f = p → md_nm T b a a = .error f) → sw (sm_fx C 165 73 [.ref (X + 49), sm_junk, sm_junk, sm_junk, .int (ni p), sm_junk, sm_junk, sm_junk] [] D) Q := by
          intro hf
          rw [hf p rfl] at her
          refine sw_ge (n165_73 hX) ?_
          simp only [sw_bv, r162 hX h8, sw_some, sb_v]
          exact her p rfl _ _ (bad (by omega))
        by_cases h58 : T p = ni 58
        · rw [if_pos h58]
          rw [if_pos h58] at hc he
          by_cases hpa : p = a
          · rw [if_pos hpa] at he
            have e1 := he p rfl
            rw [e1] at her
            refine sw_ge (n165_88 hX) ?_
            simp (disch := omega) only [sw_ite, ni_inj, sw_bv, r162 hX h8, sw_some, sb_v]
            rw [if_neg (by omega), if_pos hpa]
            exact her p rfl _ _ (bad (by omega))
          · rw [if_neg hpa] at hc
            exact n88 p (hc p rfl) (by omega) hpb2
        · rw [if_neg h58]
          rw [if_neg h58] at hc he
          cases hin : md_in (T p) 33 126
          · rw [if_pos rfl]
            rw [if_pos (Or.inl hin)] at he
            exact n73 (fun f hf => by subst hf; exact he _ rfl)
          · rw [if_neg (fun g => nomatch g)]
            by_cases h40 : p - a = 40
            · rw [if_pos h40]
              rw [if_pos (Or.inr (by omega))] at he
              exact n73 (fun f hf => by subst hf; exact he _ rfl)
            · rw [if_neg h40]
              rw [if_neg (fun g => g.elim (fun g => by rw [hin] at g; cases g) (fun g => h40 (by omega)))] at hc he
              exact ih (p + 1) (by omega) (by omega) (by omega) (by omega) hc he
      · exact last hpb2 hpb hap he
  exact n31 b a (by omega) (Nat.le_refl _) (by omega) (by omega) (fun _ h => h) (fun _ h => h)
theorem RFS_45 {v : Int32} (hF : RFS X i tot fs D) : RFS X i tot fs (sm_dI D (X + 49) 45 v) := by
  obtain ⟨f1, f2, f3, f4, f5, f6⟩ := hF
  refine ⟨by rw [dI_ne (by omega), f1], by rw [dI_ne (by omega), f2], by rw [dI_ne (by omega), f3], f4, f5, fun j hd hj => ?_⟩
  obtain ⟨⟨k1, k2, k3, k4, k5⟩, k6⟩ := f6 j hd hj
  refine ⟨⟨?_, ?_, ?_, ?_, ?_⟩, k6⟩ <;> rw [dI_ne (by omega)] <;> assumption
/-- an entity's fields -/
theorem r164_23 {b : Nat} (hb : b ≤ N) (hi : i < 40) {D0 : sm_D} : ∀ (m : Nat) (fs : List md_F) (p : Nat) (D : sm_D), fs.length + m = 20 → rH C X T N D → D.1 (X + 49) 8 = sm_k (-1) → fr (sFi X i tot) D0 D → RFS X i tot fs D → BB T p b → p ≤ b + 2 →
    (∀ fs' body, md_fs T i b tot fs p = .ok (fs', body) → body ≤ b → ∀ E', fr (sFi X i tot) D0 E' → RFS X i tot fs' E' → E'.1 (X + 49) 8 = sm_k (-1) → E'.1 (X + 49) 45 = ni body → Q (.inl none) E') →
    (∀ f, md_fs T i b tot fs p = .error f → ∀ E', rE2 X D0 f E' → Q (.inl none) E') →
    sw (sm_fx C 164 23 [.ref (X + 49), .int (ni i), sm_junk, .int (ni b), .int (ni p), .int (ni 1)] [] D) Q := by
  have sub : ∀ c j, sFi X i tot c j → rR2 X c j := by intro c j hc; unfold sFi at hc; unfold rR2; omega
  intro m
  induction m with
  | zero =>
    intro fs p D hm h h8 hfr hF hB hp hok her
    have hX := h.1
    have hN := h.2.2.1
    refine sw_ge (n164_23 hX) ?_
    simp (disch := omega) only [sw_ite, ni_10, if_false, h8, if_true, ni_lt, sw_bi, sw_bv, r162 hX h8, sw_some, sb_v, ni_add, ni_le]
    have xx : ∀ {f : Nat} {E : sm_D} {v4 v5 : Int32}, rE2 X D0 f E → Q (.inl none) E → sw (sm_fx C 164 23 [.ref (X + 49), .int (ni i), sm_junk, .int (ni b), .int v4, .int v5] [] E) Q := by
      intro f E v4 v5 hE hQ
      refine sw_ge (n164_23 hX) ?_
      simp only [sw_ite, hE.ne, if_false, sw_some]
      split <;> exact hQ
    have bad : ∀ {f : Nat}, f ≤ N → rE2 X D0 f (sm_dI D (X + 49) 8 (ni f)) := fun hf => ⟨by omega, dI_eq, (hfr.Fr2 sub).dI (Or.inl (by omega))⟩
    by_cases hpb : p < b
    · rw [if_pos hpb, h.at (by omega), sw_some]
      simp only [sb_i, sw_ite]
      by_cases h13 : T p = ni 13
      · rw [if_pos h13, if_pos (hB p (Nat.le_refl _) hpb h13)]
        rw [md_fs, if_pos hpb, if_pos h13] at hok
        refine sw_ge (n164_23 hX) ?_
        simp only [sw_ite, if_true, sw_some]
        exact hok fs (p + 2) rfl (hB p (Nat.le_refl _) hpb h13) _ (hfr.dI (by unfold sFi; omega)) (RFS_45 hF) (by rw [dI_ne (by omega), h8]) dI_eq
      · rw [if_neg h13, sw_bi]
        rw [md_fs_step hpb h13] at hok her
        refine r165 h h8 hb hpb hB hi hF (fun hd g1 _ _ E' hfr' hF' h8' => ?_) (fun f g1 x E' hE' => ?_)
        · exfalso
          unfold md_f1 at g1
          rw [if_pos (Or.inl (by omega))] at g1
          cases g1
        · simp only [sb_i]
          exact xx (hE'.of (hfr.Fr2 sub)) (her f (by rw [g1]) _ (hE'.of (hfr.Fr2 sub)))
    · rw [if_neg hpb]
      rw [md_fs, if_neg hpb] at her
      exact xx (bad hb) (her b rfl _ (bad hb))
  | succ m ih =>
    intro fs p D hm h h8 hfr hF hB hp hok her
    have hX := h.1
    have hN := h.2.2.1
    refine sw_ge (n164_23 hX) ?_
    simp (disch := omega) only [sw_ite, ni_10, if_false, h8, if_true, ni_lt, sw_bi, sw_bv, r162 hX h8, sw_some, sb_v, ni_add, ni_le]
    have xx : ∀ {f : Nat} {E : sm_D} {v4 v5 : Int32}, rE2 X D0 f E → Q (.inl none) E → sw (sm_fx C 164 23 [.ref (X + 49), .int (ni i), sm_junk, .int (ni b), .int v4, .int v5] [] E) Q := by
      intro f E v4 v5 hE hQ
      refine sw_ge (n164_23 hX) ?_
      simp only [sw_ite, hE.ne, if_false, sw_some]
      split <;> exact hQ
    have bad : ∀ {f : Nat}, f ≤ N → rE2 X D0 f (sm_dI D (X + 49) 8 (ni f)) := fun hf => ⟨by omega, dI_eq, (hfr.Fr2 sub).dI (Or.inl (by omega))⟩
    by_cases hpb : p < b
    · rw [if_pos hpb, h.at (by omega), sw_some]
      simp only [sb_i, sw_ite]
      by_cases h13 : T p = ni 13
      · rw [if_pos h13, if_pos (hB p (Nat.le_refl _) hpb h13)]
        rw [md_fs, if_pos hpb, if_pos h13] at hok
        refine sw_ge (n164_23 hX) ?_
        simp only [sw_ite, if_true, sw_some]
        exact hok fs (p + 2) rfl (hB p (Nat.le_refl _) hpb h13) _ (hfr.dI (by unfold sFi; omega)) (RFS_45 hF) (by rw [dI_ne (by omega), h8]) dI_eq
      · rw [if_neg h13, sw_bi]
        rw [md_fs_step hpb h13] at hok her
        refine r165 h h8 hb hpb hB hi hF (fun hd g1 l1 l2 E' hfr' hF' h8' => ?_) (fun f g1 x E' hE' => ?_)
        · simp only [sb_i]
          rw [g1] at hok her
          refine ih (fs ++ [hd]) (hd.2.2.2 + 2) E' (by rw [List.length_append, List.length_singleton]; omega) (h.fr hfr' (fun c j hc => by unfold sFi at hc; omega)) h8' (hfr.trans hfr') hF' (fun q hq => hB q (by omega)) (by omega) hok her
        · simp only [sb_i]
          exact xx (hE'.of (hfr.Fr2 sub)) (her f (by rw [g1]) _ (hE'.of (hfr.Fr2 sub)))
    · rw [if_neg hpb]
      rw [md_fs, if_neg hpb] at her
      exact xx (bad hb) (her b rfl _ (bad hb))
theorem r164 (h : rH C X T N D) (h8 : D.1 (X + 49) 8 = sm_k (-1)) {a b : Nat} (hb : b ≤ N) (hab : a ≤ b) (hB : BB T a b) (hi : i < 40) (h28 : D.1 (X + 49) 28 = ni tot) (htot : tot ≤ 200)
    (hok : ∀ fs body, md_fs T i b tot [] a = .ok (fs, body) → body ≤ b → ∀ E', fr (sFi X i tot) D E' → RFS X i tot fs E' → E'.1 (X + 49) 8 = sm_k (-1) → E'.1 (X + 49) 45 = ni body → Q (.inl none) E')
    (her : ∀ f, md_fs T i b tot [] a = .error f → ∀ E', rE2 X D f E' → Q (.inl none) E') :
    sw (sm_fe C 164 [.ref (X + 49), .int (ni i), .int (ni a), .int (ni b)] D) Q := by
  refine sw_ge (f164 h.1) ?_
  simp (disch := omega) only [sw_gu, ni_in, ni_nat, h28]
  refine ⟨decide_eq_true hi, decide_eq_true hi, ?_⟩
  have hfr : fr (sFi X i tot) D (sm_dI (sm_dI D (X + 54) i (ni tot)) (X + 55) i (ni 0)) := (fr.refl.dI (by unfold sFi; omega)).dI (by unfold sFi; omega)
  exact r164_23 hb hi (D0 := D) 20 [] a _ rfl (h.fr hfr (fun c j hc => by unfold sFi at hc; omega)) (by rw [dI_ne (by omega), dI_ne (by omega), h8]) hfr ⟨by rw [dI_ne (by omega), dI_eq], by rw [dI_eq]; rfl, by rw [dI_ne (by omega), dI_ne (by omega), h28]; rfl, htot, by decide, fun j hd hj => by cases hj⟩ hB (by omega) hok her
end RGW
