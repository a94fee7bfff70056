/-! ===== the reference: delimiters ===== -/
def sDe (X c j : Nat) : Prop := c = X + 49 ∧ (j = 65 ∨ j = 66 ∨ j = 67)
/-- where the reference keeps a boundary -/
def BD (X n : Nat) (v : List Int32) (E : sm_D) : Prop := ∃ c, E.1 (X + 68) n = ni c ∧ E.1 (X + 69) n = ni v.length ∧ c + v.length ≤ 24000 ∧ ∀ j, j < v.length → E.1 (X + 63) (c + j) = md_nth v j
section RHG
variable {C : sm_K} {X N b n p z : Nat} {T : Nat → Int32} {D E : sm_D} {Q : (Option Value ⊕ Nat) → sm_D → Prop} {v l : List Int32}
theorem md_bo_some : ∀ {k : Nat} {ps : List (List Int32 × List Int32)} {v : List Int32}, md_bv ps = some v → md_rb v = true → ∃ i w, ps[i]? = some (w, v) ∧ md_bo k ps = ni (k + i) := by
  intro k ps
  induction ps generalizing k with
  | nil => intro v h; cases h
  | cons w ps ih =>
    intro v h hr
    unfold md_bo
    by_cases hw : w.1 = md_w "boundary"
    · have e1 : md_bv (w :: ps) = some w.2 := by
        unfold md_bv
        rw [List.find?_cons, beq_iff_eq.mpr hw]
        rfl
      rw [e1] at h
      cases h
      rw [if_pos hw, if_pos hr]
      exact ⟨0, w.1, rfl, rfl⟩
    · have e1 : md_bv (w :: ps) = md_bv ps := by
        unfold md_bv
        rw [List.find?_cons, beq_false_of_ne hw]
      rw [e1] at h
      rw [if_neg hw]
      obtain ⟨i, u, h1, h2⟩ := ih (k := k + 1) h hr
      exact ⟨i + 1, u, h1, by rw [h2, show k + 1 + i = k + (i + 1) from by omega]⟩
theorem md_i8_ne : ∀ n, n < 256 → ∀ k, k < 128 → ((ni n).toInt8.toInt32 = ni k) = (ni n = ni k) := by decide +kernel
theorem md_eol_at {q : Nat} (h : ¬ (q < b ∧ T q ≠ ni 13)) : md_eol T b q = q := by
  rw [md_eol, if_neg h]
theorem md_eol_go {q : Nat} (h : q < b ∧ T q ≠ ni 13) : md_eol T b q = md_eol T b (q + 1) := by
  conv => lhs; rw [md_eol, if_pos h]
theorem r229_29 (h : rH C X T N E) (hb : b ≤ N) {V5 : Int32} : ∀ (m q : Nat), b - q ≤ m → q ≤ b → sw (sm_fx C 229 52 [.ref (X + 49), sm_junk, sm_junk, .int (ni b), .int (ni n), .int V5, .int (ni p), .int (ni (md_eol T b q)), sm_junk, sm_junk] [] E) Q → sw (sm_fx C 229 29 [.ref (X + 49), sm_junk, sm_junk, .int (ni b), .int (ni n), .int V5, .int (ni p), .int (ni q), sm_junk, sm_junk] [] E) Q := by
  have hX := h.1
  have hN := h.2.2.1
  intro m
  induction m with
  | zero =>
    intro q hm hq hQ
    refine sw_ge (n229_29 hX) ?_
    simp (disch := omega) only [sw_ite, ni_le]
    rw [if_pos (by omega)]
    rw [md_eol_at (by omega)] at hQ
    exact hQ
  | succ m ih =>
    intro q hm hq hQ
    refine sw_ge (n229_29 hX) ?_
    simp (disch := omega) only [sw_ite, ni_le, sw_bi]
    by_cases hqb : q < b
    · rw [if_neg (by omega), h.at (by omega), sw_some]
      simp only [sb_i, sw_ite, ni_add]
      by_cases h13 : T q = ni 13
      · rw [if_pos h13]
        rw [md_eol_at (fun g => g.2 h13)] at hQ
        exact hQ
      · rw [if_neg h13]
        rw [md_eol_go ⟨hqb, h13⟩] at hQ
        exact ih (q + 1) (by omega) (by omega) hQ
    · rw [if_pos (by omega)]
      rw [md_eol_at (by omega)] at hQ
      exact hQ
theorem md_eqs_drop {k q : Nat} (hk : k < v.length) : md_eqs T q (v.drop k) = (decide (T q = md_nth v k) && md_eqs T (q + 1) (v.drop (k + 1))) := by
  rw [List.drop_eq_getElem_cons hk, md_eqs, md_nth_get hk]
theorem r229_98 (h : rH C X T N E) (hn : n < 240) (hv : BD X n v E) (hv7 : ∀ x ∈ v, ∃ n, n < 128 ∧ x = ni n) (hp : p ≤ N) : ∀ (m k : Nat) (fl : Bool), k + m = v.length → (fl = true → p + 2 + v.length ≤ N) → sw (sm_fx C 229 153 [.ref (X + 49), sm_junk, sm_junk, .int (ni b), .int (ni n), .int (ni v.length), .int (ni p), .int (ni z), .int (md_b (fl && md_eqs T (p + 2 + k) (v.drop k))), sm_junk] [] E) Q → sw (sm_fx C 229 98 [.ref (X + 49), sm_junk, sm_junk, .int (ni b), .int (ni n), .int (ni v.length), .int (ni p), .int (ni z), .int (md_b fl), .int (ni k)] [] E) Q := by
  have hX := h.1
  have hN := h.2.2.1
  obtain ⟨c, c1, c2, c3, c4⟩ := hv
  intro m
  induction m with
  | zero =>
    intro k fl hk hfl hQ
    refine sw_ge (n229_98 hX) ?_
    simp (disch := omega) only [sw_ite, ni_le]
    rw [if_pos (by omega)]
    rw [List.drop_eq_nil_of_le (by omega), md_eqs, Bool.and_true] at hQ
    exact hQ
  | succ m ih =>
    intro k fl hk hfl hQ
    refine sw_ge (n229_98 hX) ?_
    simp (disch := omega) only [sw_ite, ni_le, sw_gu, ni_add, c1, ni_in, ni_nat]
    rw [if_neg (by omega)]
    cases fl
    · rw [if_pos (show md_b false = ni 0 from rfl)]
      rw [Bool.false_and] at hQ
      exact hQ
    · have hpl := hfl rfl
      rw [if_neg (show ¬ (md_b true = ni 0) by decide)]
      refine ⟨decide_eq_true (by omega), decide_eq_true hn, decide_eq_true (by omega), ?_⟩
      obtain ⟨x, hx, hxe⟩ := h.2.2.2.2 (p + 2 + k) (by omega)
      obtain ⟨y, hy, hye⟩ := hv7 (md_nth v k) (by rw [md_nth_get (by omega)]; exact List.getElem_mem _)
      have e1 : (E.1 (X + 51) (p + 2 + k) = E.1 (X + 63) (c + k)) = (T (p + 2 + k) = md_nth v k) := by
        rw [h.2.2.2.1 _ (by omega), c4 k (by omega), hye, hxe, md_i8_ne x hx y hy]
      rw [md_eqs_drop (by omega), show p + 2 + k + 1 = p + 2 + (k + 1) from by omega, Bool.true_and] at hQ
      by_cases he : T (p + 2 + k) = md_nth v k
      · rw [if_pos (by rw [e1]; exact he)]
        rw [decide_eq_true he] at hQ
        exact ih (k + 1) true (by omega) hfl hQ
      · rw [if_neg (by rw [e1]; exact he)]
        rw [decide_eq_false he] at hQ
        exact ih (k + 1) false (by omega) (fun g => nomatch g) hQ
theorem md_bls_ge {q : Nat} (h : ¬ q < z) : md_bls T z q = true := by rw [md_bls, if_neg h]
theorem md_bls_go {q : Nat} (h : q < z) : md_bls T z q = (md_bl (T q) && md_bls T z (q + 1)) := by
  conv => lhs; rw [md_bls, if_pos h]
theorem r229_227 (h : rH C X T N E) (hz : z ≤ N) {V5 : Int32} : ∀ (m q : Nat), z - q ≤ m → q ≤ z → sw (sm_fx C 229 266 [.ref (X + 49), sm_junk, sm_junk, .int (ni b), .int (ni n), .int V5, .int (ni p), .int (ni z), .int (md_b (md_bls T z q)), sm_junk] [] E) Q → sw (sm_fx C 229 227 [.ref (X + 49), sm_junk, sm_junk, .int (ni b), .int (ni n), .int V5, .int (ni p), .int (ni z), sm_junk, .int (ni q)] [] E) Q := by
  have hX := h.1
  have hN := h.2.2.1
  have stop : ∀ (q : Nat), q ≤ z → sw (sm_fx C 229 266 [.ref (X + 49), sm_junk, sm_junk, .int (ni b), .int (ni n), .int V5, .int (ni p), .int (ni z), .int (md_b (decide (q = z))), sm_junk] [] E) Q → sw (sm_fx C 229 252 [.ref (X + 49), sm_junk, sm_junk, .int (ni b), .int (ni n), .int V5, .int (ni p), .int (ni z), sm_junk, .int (ni q)] [] E) Q := by
    intro q hq hQ
    refine sw_ge (n229_252 hX) ?_
    simp (disch := omega) only [sw_ite, ni_inj]
    by_cases hz : q = z
    · rw [if_pos hz]
      rw [decide_eq_true hz] at hQ
      exact sw_ge (n229_264 hX) hQ
    · rw [if_neg hz]
      rw [decide_eq_false hz] at hQ
      exact sw_ge (n229_264 hX) hQ
  intro m
  induction m with
  | zero =>
    intro q hm hq hQ
    refine sw_ge (n229_227 hX) ?_
    simp (disch := omega) only [sw_ite, ni_le]
    rw [if_pos (by omega)]
    rw [md_bls_ge (by omega)] at hQ
    exact stop q hq (by rw [decide_eq_true (by omega)]; exact hQ)
  | succ m ih =>
    intro q hm hq hQ
    refine sw_ge (n229_227 hX) ?_
    simp (disch := omega) only [sw_ite, ni_le, sw_bi]
    by_cases hqz : q < z
    · rw [if_neg (by omega), h.at (by omega), sw_some]
      simp only [sb_i, sw_bi, r170, sw_some, sw_ite, ni_add]
      rw [md_bls_go hqz] at hQ
      cases hbl : md_bl (T q)
      · rw [if_pos (show md_b false = ni 0 from rfl)]
        rw [hbl, Bool.false_and] at hQ
        exact stop q hq (by rw [decide_eq_false (by omega)]; exact hQ)
      · rw [if_neg (show ¬ (md_b true = ni 0) by decide)]
        rw [hbl, Bool.true_and] at hQ
        exact ih (q + 1) (by omega) (by omega) hQ
    · rw [if_pos (by omega)]
      rw [md_bls_ge hqz] at hQ
      exact stop q hq (by rw [decide_eq_true (by omega)]; exact hQ)
theorem BD.fr (h : BD X n v D) (g : fr (sDe X) D E) : BD X n v E := by
  obtain ⟨c, c1, c2, c3, c4⟩ := h
  exact ⟨c, by rw [g.2 _ _ (by unfold sDe; omega)]; exact c1, by rw [g.2 _ _ (by unfold sDe; omega)]; exact c2, c3, fun j hj => by rw [g.2 _ _ (by unfold sDe; omega)]; exact c4 j hj⟩
theorem r229_19 (hD : rH C X T N D) (hb : b ≤ N) (hn : n < 240) (hv : BD X n v D) (hv7 : ∀ x ∈ v, ∃ n, n < 128 ∧ x = ni n) : ∀ (m p : Nat) (E : sm_D), b - p ≤ m → p ≤ b + 2 → BB T p b → fr (sDe X) D E →
    (md_del T v b p = none → ∀ E', fr (sDe X) D E' → Q (.inl (some (.int (ni 0)))) E') →
    (∀ d, md_del T v b p = some d → ∀ E', fr (sDe X) D E' → E'.1 (X + 49) 65 = ni d.1 → E'.1 (X + 49) 66 = ni d.2.1 → E'.1 (X + 49) 67 = md_b d.2.2 → Q (.inl (some (.int (ni 1)))) E') →
    sw (sm_fx C 229 19 [.ref (X + 49), sm_junk, sm_junk, .int (ni b), .int (ni n), .int (ni v.length), .int (ni p), sm_junk, sm_junk, sm_junk] [] E) Q := by
  have hX := hD.1
  have hN := hD.2.2.1
  have hv24 : v.length ≤ 24000 := by obtain ⟨c, -, -, c3, -⟩ := hv; omega
  have n0 : sm_nar .boolean (ni 0) = ni 0 := rfl
  have n1 : sm_nar .boolean (ni 1) = ni 1 := rfl
  intro m
  induction m with
  | zero =>
    intro p E hm hp hB hfr hno hso
    refine sw_ge (n229_19 hX) ?_
    simp (disch := omega) only [sw_ite, ni_le, sw_some]
    rw [if_pos (by omega), n0]
    exact hno (by rw [md_del, if_neg (by omega)]) E hfr
  | succ m ih =>
    intro p E hm hp hB hfr hno hso
    refine sw_ge (n229_19 hX) ?_
    simp (disch := omega) only [sw_ite, ni_le, sw_some]
    by_cases hpb : p < b
    · rw [if_neg (by omega)]
      have hE : rH C X T N E := hD.fr hfr (fun c j hc => by unfold sDe at hc; omega)
      refine r229_29 hE hb b p (by omega) (by omega) ?_
      have hz1 := md_eol_ge T b p
      have hz2 := md_eol_le (T := T) (b := b) (q := p) (by omega)
      have hzB : md_eol T b p < b → md_eol T b p + 2 ≤ b := fun g => hB _ hz1 g (md_eol_cr g)
      rw [md_del, if_pos hpb] at hno hso
      dsimp only at hno hso
      generalize md_eol T b p = z at hno hso hz1 hz2 hzB ⊢
      -- the line is none
      have miss : ∀ (E' : sm_D), fr (sDe X) D E' → ¬ (p + 2 + v.length ≤ z ∧ md_dash T p z = true ∧ md_eqs T (p + 2) v = true ∧ md_bls T z (if md_dash T (p + 2 + v.length) z then p + 2 + v.length + 2 else p + 2 + v.length) = true) → sw (sm_fx C 229 266 [.ref (X + 49), sm_junk, sm_junk, .int (ni b), .int (ni n), .int (ni v.length), .int (ni p), .int (ni z), .int (ni 0), sm_junk] [] E') Q := by
        intro E' hfr' hc
        rw [if_neg hc] at hno hso
        refine sw_ge (n229_266 hX) ?_
        simp (disch := omega) only [sw_ite, ni_le, if_true, ni_add]
        by_cases hzb : b ≤ z
        · rw [if_pos hzb]
          have e0 : md_del T v b (z + 2) = none := by rw [md_del, if_neg (by omega)]
          rw [e0] at hno
          exact ih b E' (by omega) (by omega) (fun q q1 q2 => by omega) hfr' (fun _ => hno rfl) (fun d hd => by rw [md_del, if_neg (by omega)] at hd; cases hd)
        · rw [if_neg hzb]
          exact ih (z + 2) E' (by omega) (by omega) (fun q q1 => hB q (by omega)) hfr' hno hso
      -- behind the dashes
      have hdash : ∀ q, q + 2 ≤ z → md_dash T q z = (decide (T q = ni 45) && decide (T (q + 1) = ni 45)) := fun q hq => by unfold md_dash; rw [decide_eq_true hq, Bool.true_and]
      have c93 : ∀ fl : Bool, (fl = true → p + 2 + v.length ≤ z ∧ md_dash T p z = true) → (fl = false → ¬ (p + 2 + v.length ≤ z ∧ md_dash T p z = true)) → sw (sm_fx C 229 93 [.ref (X + 49), sm_junk, sm_junk, .int (ni b), .int (ni n), .int (ni v.length), .int (ni p), .int (ni z), sm_junk, sm_junk] [.int (md_b fl)] E) Q := by
        intro fl h1 h2
        refine sw_ge (n229_93 hX) ?_
        refine r229_98 (p := p) hE hn (hv.fr hfr) hv7 (by omega) v.length 0 fl (by omega) (fun g => by have := (h1 g).1; omega) ?_
        rw [List.drop_zero, Nat.add_zero]
        refine sw_ge (n229_153 hX) ?_
        simp (disch := omega) only [sw_ite, ni_add, ni_lt, sw_bi]
        cases hfe : (fl && md_eqs T (p + 2) v)
        · rw [if_pos (show md_b false = ni 0 from rfl)]
          refine miss E hfr (fun g => ?_)
          cases fl
          · exact h2 rfl ⟨g.1, g.2.1⟩
          · rw [g.2.2.1] at hfe; exact nomatch hfe
        · rw [if_neg (show ¬ (md_b true = ni 0) by decide)]
          rw [Bool.and_eq_true] at hfe
          obtain ⟨g1, g2⟩ := h1 hfe.1
          have c206 : ∀ cl : Bool, md_dash T (p + 2 + v.length) z = cl → sw (sm_fx C 229 206 [.ref (X + 49), sm_junk, sm_junk, .int (ni b), .int (ni n), .int (ni v.length), .int (ni p), .int (ni z), sm_junk, .int (ni (p + 2 + v.length))] [.int (md_b cl), .ref (X + 49)] E) Q := by
            intro cl hcl
            have hkz : (if cl = true then p + 2 + v.length + 2 else p + 2 + v.length) ≤ z := by
              cases cl
              · exact g1
              · have : p + 2 + v.length + 2 ≤ z := by
                  unfold md_dash at hcl
                  rw [Bool.and_eq_true, Bool.and_eq_true] at hcl
                  exact of_decide_eq_true hcl.1.1
                exact this
            have hf6 : fr (sDe X) D (sm_dI E (X + 49) 67 (md_b cl)) := hfr.dI (by unfold sDe; omega)
            have c225 : sw (sm_fx C 229 225 [.ref (X + 49), sm_junk, sm_junk, .int (ni b), .int (ni n), .int (ni v.length), .int (ni p), .int (ni z), sm_junk, sm_junk] [.int (ni (if cl = true then p + 2 + v.length + 2 else p + 2 + v.length))] (sm_dI E (X + 49) 67 (md_b cl))) Q := by
              refine sw_ge (n229_225 hX) ?_
              refine r229_227 (hD.fr hf6 (fun c j hc => by unfold sDe at hc; omega)) (by omega) z _ (by omega) hkz ?_
              cases hbl : md_bls T z (if cl = true then p + 2 + v.length + 2 else p + 2 + v.length)
              · exact miss _ hf6 (fun g => by rw [hcl] at g; rw [hbl] at g; exact nomatch g.2.2.2)
              · refine sw_ge (n229_266 hX) ?_
                rw [hcl] at hso
                rw [if_pos ⟨g1, g2, hfe.2, hbl⟩] at hso
                have hso := hso _ rfl
                dsimp only at hso
                simp (disch := omega) only [sw_ite, ni_le, ni_add, sw_some]
                rw [if_neg (show ¬ (md_b true = ni 0) by decide), n1]
                by_cases hzb : b ≤ z
                · rw [if_pos hzb]
                  refine hso _ ((hf6.dI (by unfold sDe; omega)).dI (by unfold sDe; omega)) ?_ ?_ ?_
                  · rw [dI_ne (by omega), dI_eq]
                  · rw [dI_eq, show min (z + 2) b = b from by omega]
                  · rw [dI_ne (by omega), dI_ne (by omega), dI_eq]
                · rw [if_neg hzb]
                  refine hso _ ((hf6.dI (by unfold sDe; omega)).dI (by unfold sDe; omega)) ?_ ?_ ?_
                  · rw [dI_ne (by omega), dI_eq]
                  · rw [dI_eq, show min (z + 2) b = z + 2 from by omega]
                  · rw [dI_ne (by omega), dI_ne (by omega), dI_eq]
            refine sw_ge (n229_206 hX) ?_
            simp only [sw_gu, sw_ite, ni_add]
            cases cl
            · refine ⟨by decide, ?_⟩
              rw [if_pos (by rw [up_eq]; rfl)]
              exact c225
            · refine ⟨by decide, ?_⟩
              rw [if_neg (by rw [up_eq]; decide)]
              exact c225
          by_cases hk2 : z < p + 2 + v.length + 2
          · rw [if_pos hk2]
            refine sw_ge (n229_205 hX) ?_
            refine c206 false ?_
            unfold md_dash
            rw [decide_eq_false (by omega), Bool.false_and, Bool.false_and]
          · rw [if_neg hk2, hE.at (by omega), sw_some]
            simp only [sb_i, sw_ite, sw_bi]
            by_cases t1 : T (p + 2 + v.length) = ni 45
            · rw [if_pos t1, hE.at (by omega), sw_some]
              simp only [sb_i, sw_ite]
              by_cases t2 : T (p + 2 + v.length + 1) = ni 45
              · rw [if_pos t2]
                exact c206 true (by rw [hdash _ (by omega), decide_eq_true t1, decide_eq_true t2]; rfl)
              · rw [if_neg t2]
                refine sw_ge (n229_205 hX) ?_
                exact c206 false (by rw [hdash _ (by omega), decide_eq_false t2, Bool.and_false])
            · rw [if_neg t1]
              refine sw_ge (n229_205 hX) ?_
              exact c206 false (by rw [hdash _ (by omega), decide_eq_false t1, Bool.false_and])
      refine sw_ge (n229_52 hX) ?_
      simp (disch := omega) only [sw_ite, ni_add, ni_lt, sw_bi]
      by_cases hk : z < p + 2 + v.length
      · rw [if_pos hk]
        refine sw_ge (n229_92 hX) ?_
        exact c93 false (fun g => nomatch g) (fun _ g => by omega)
      · rw [if_neg hk, hE.at (by omega), sw_some]
        simp only [sb_i, sw_ite, sw_bi]
        by_cases t1 : T p = ni 45
        · rw [if_pos t1, hE.at (by omega), sw_some]
          simp only [sb_i, sw_ite]
          by_cases t2 : T (p + 1) = ni 45
          · rw [if_pos t2]
            exact c93 true (fun _ => ⟨by omega, by rw [hdash _ (by omega), decide_eq_true t1, decide_eq_true t2]; rfl⟩) (fun g => nomatch g)
          · rw [if_neg t2]
            refine sw_ge (n229_92 hX) ?_
            exact c93 false (fun g => nomatch g) (fun _ g => by rw [hdash _ (by omega), decide_eq_false t2, Bool.and_false] at g; exact nomatch g.2)
        · rw [if_neg t1]
          refine sw_ge (n229_92 hX) ?_
          exact c93 false (fun g => nomatch g) (fun _ g => by rw [hdash _ (by omega), decide_eq_false t1, Bool.false_and] at g; exact nomatch g.2)
    · rw [if_pos (by omega), n0]
      exact hno (by rw [md_del, if_neg (by omega)]) E hfr
theorem r229 (hD : rH C X T N D) (hb : b ≤ N) {i : Nat} (hi : i < 40) {ps : List (List Int32 × List Int32)} (hT : RT X l D) (hl : l.length ≤ 24000) (hP : RP X i ps l D) (hv : md_bv ps = some v) (hr : md_rb v = true) (hp : p ≤ b + 2) (hB : BB T p b)
    (hno : md_del T v b p = none → ∀ E', fr (sDe X) D E' → Q (.inl (some (.int (ni 0)))) E')
    (hso : ∀ d, md_del T v b p = some d → ∀ E', fr (sDe X) D E' → E'.1 (X + 49) 65 = ni d.1 → E'.1 (X + 49) 66 = ni d.2.1 → E'.1 (X + 49) 67 = md_b d.2.2 → Q (.inl (some (.int (ni 1)))) E') :
    sw (sm_fe C 229 [.ref (X + 49), .int (ni i), .int (ni p), .int (ni b)] D) Q := by
  have hX := hD.1
  refine sw_ge (f229 hX) ?_
  rw [sw_bi, r193 hX hD.2.1 hi hT hl hP, sw_some]
  obtain ⟨k, w, hk, hbo⟩ := md_bo_some (k := 6 * i) hv hr
  have hk6 : k < 6 := by
    rcases Nat.lt_or_ge k ps.length with g | g
    · have := hP.2.1; omega
    · rw [List.getElem?_eq_none g] at hk; cases hk
  obtain ⟨s1, s2, s3⟩ := hP.2.2 k _ hk
  obtain ⟨c, c1, c2, c3, c4⟩ := s2.at hT.2
  dsimp only at c1 c2 c3 c4
  simp (disch := omega) only [sb_i, sw_gu, hbo, ni_in, ni_nat, c2]
  refine ⟨decide_eq_true (by omega), ?_⟩
  refine r229_19 hD hb (by omega) ⟨c, c1, c2, by omega, c4⟩ (fun x hx => ?_) b p D (by omega) hp hB fr.refl hno hso
  unfold md_rb at hr
  rw [Bool.and_eq_true, Bool.and_eq_true, Bool.and_eq_true] at hr
  exact md_bs_128 (List.all_eq_true.mp hr.1.2 x hx)
end RHG
