theorem s31_8 : (ni 8 &&& 31 : Int32) = ni 8 := by decide
theorem s31_10 : (ni 10 &&& 31 : Int32) = ni 10 := by decide
theorem s31_16 : (ni 16 &&& 31 : Int32) = ni 16 := by decide
/-- how far a group of four has come: letters read, signs =, the value, and what is asked of it -/
def BS (n ends vn : Nat) (over : Bool) (h pd : Nat) (v : Int32) (pre : List Int32) : Prop :=
  (over = false ∧ ends = 0 ∧ n < 4 ∧ vn < 64 ^ n ∧ h = n ∧ pd = 0 ∧ v = ni vn ∧ pre = []) ∨
  (over = false ∧ ends = 1 ∧ n = 2 ∧ vn < 4096 ∧ h = 3 ∧ pd = 1 ∧ v = ni (vn * 64) ∧ pre = []) ∨
  (over = true ∧ n = 2 ∧ ends = 2 ∧ vn < 4096 ∧ h = 0 ∧ pd = 2 ∧ v = ni 0 ∧ pre = [ni (vn / 16)]) ∨
  (over = true ∧ n = 3 ∧ ends = 1 ∧ vn < 262144 ∧ h = 0 ∧ pd = 1 ∧ v = ni 0 ∧ pre = [ni (vn / 1024), ni (vn / 4 % 256)])
section RGY
variable {C : sm_K} {X N b : Nat} {T : Nat → Int32} {D E : sm_D} {Q : (Option Value ⊕ Nat) → sm_D → Prop} {l : List Int32}
theorem r227_17 (hb : b ≤ N) {D0 : sm_D} : ∀ (m p n ends vn last h pd : Nat) (over : Bool) (v : Int32) (pre l : List Int32) (E : sm_D), b - p ≤ m → BS n ends vn over h pd v pre → rH C X T N E → E.1 (X + 49) 8 = sm_k (-1) → fr (sOc X) D0 E → OCT X l E → l.length + n + (b - p) ≤ 8000 → p ≤ N → last ≤ N →
    (∀ ys, md_b64 T b v h pd last p = .ok ys → ∀ E', fr (sOc X) D0 E' → OCT X (l ++ (pre ++ ys)) E' → E'.1 (X + 49) 8 = sm_k (-1) → Q (.inl none) E') →
    (∀ f, md_b64 T b v h pd last p = .error f → ∀ E', rE X D0 f E' → Q (.inl none) E') →
    sw (sm_fx C 227 17 [.ref (X + 49), sm_junk, .int (ni b), .int (ni n), .int (ni vn), .int (ni ends), .int (ni last), .int (md_b over), .int (ni p), sm_junk, sm_junk, sm_junk] [] E) Q := by
  -- behind the last letter
  have fin : ∀ {p n ends vn last h pd : Nat} {over : Bool} {v : Int32} {pre l : List Int32} {E : sm_D}, ¬ p < b → BS n ends vn over h pd v pre → rH C X T N E → E.1 (X + 49) 8 = sm_k (-1) → fr (sOc X) D0 E → OCT X l E → l.length + n ≤ 8000 →
      (∀ ys, md_b64 T b v h pd last p = .ok ys → ∀ E', fr (sOc X) D0 E' → OCT X (l ++ (pre ++ ys)) E' → E'.1 (X + 49) 8 = sm_k (-1) → Q (.inl none) E') → (∀ f, md_b64 T b v h pd last p = .error f → ∀ E', rE X D0 f E' → Q (.inl none) E') →
      sw (sm_fx C 227 223 [.ref (X + 49), sm_junk, .int (ni b), .int (ni n), .int (ni vn), .int (ni ends), sm_junk, .int (md_b over), sm_junk, sm_junk, sm_junk, sm_junk] [] E) Q := by
    intro p n ends vn last h pd over v pre l E hp hB hH h8 hfr hO hl hok her
    have hX := hH.1
    have hN := hH.2.2.1
    rw [md_b64, if_neg hp] at hok her
    have open1 : 0 < h → over = false → n + ends = h → ends < 100 → n < 100 → pre = [] → sw (sm_fx C 227 223 [.ref (X + 49), sm_junk, .int (ni b), .int (ni n), .int (ni vn), .int (ni ends), sm_junk, .int (md_b over), sm_junk, sm_junk, sm_junk, sm_junk] [] E) Q := by
      intro h0 hov hne he1 hn1 hpre
      rw [if_neg (by omega)] at her
      subst hov
      have hrE : rE X D0 b (sm_dI E (X + 49) 8 (ni b)) := ⟨by omega, dI_eq, (hfr.Fr sOc_R).dI (Or.inl (by omega))⟩
      refine sw_ge (n227_223 hX) ?_
      simp (disch := omega) only [sw_ite, h8, if_true, show md_b false = ni 0 from rfl, ni_add, ni_le, sw_bv, r162 hX h8, sw_some, sb_v]
      rw [if_neg (by omega)]
      refine sw_ge (n227_251 hX) ?_
      simp only [sw_ite, hrE.ne, if_false, sw_some]
      exact her b rfl _ hrE
    rcases hB with ⟨b1, b2, b3, b4, b5, b6, b7, b8⟩ | ⟨b1, b2, b3, b4, b5, b6, b7, b8⟩ | ⟨b1, b2, b3, b4, b5, b6, b7, b8⟩ | ⟨b1, b2, b3, b4, b5, b6, b7, b8⟩
    · by_cases h0 : 0 < h
      · exact open1 h0 b1 (by omega) (by omega) (by omega) b8
      · have hn0 : n = 0 := by omega
        subst b1 b2 hn0 b8
        rw [if_pos (by omega)] at hok
        refine sw_ge (n227_223 hX) ?_
        simp (disch := omega) only [sw_ite, h8, if_true, show md_b false = ni 0 from rfl, ni_add, ni_le]
        rw [if_pos (by omega)]
        refine sw_ge (n227_251 hX) ?_
        simp only [sw_ite, h8, if_true, sw_some]
        exact hok [] rfl E hfr (by rw [List.append_nil, List.append_nil]; exact hO) h8
    · exact open1 (by omega) b1 (by omega) (by omega) (by omega) b8
    · subst b1 b2 b3 b5 b8
      rw [if_pos rfl] at hok
      refine sw_ge (n227_223 hX) ?_
      simp only [sw_ite, h8, if_true, show md_b true = ni 1 from rfl, ni_10, if_false]
      refine sw_ge (n227_251 hX) ?_
      simp only [sw_ite, h8, if_true, ni_10, if_false, sw_bv, s31_4]
      rw [ni_shr vn 4 (by omega) (by decide) (by omega)]
      refine r226 hX hO (by omega) (fun E2 fr2 O2 => ?_)
      simp only [sb_v, sw_some]
      rw [byte255 (show vn / 2 ^ 4 < 256 by omega)] at O2
      exact hok [] rfl E2 (hfr.trans fr2) (by rw [List.append_nil]; exact O2) (by rw [fr2.2 _ _ (by unfold sOc; omega), h8])
    · subst b1 b2 b3 b5 b8
      rw [if_pos rfl] at hok
      refine sw_ge (n227_223 hX) ?_
      simp only [sw_ite, h8, if_true, show md_b true = ni 1 from rfl, ni_10, if_false]
      refine sw_ge (n227_251 hX) ?_
      simp (disch := omega) only [sw_ite, h8, if_true, ni_10, if_false, sw_bv, s31_10, s31_2, ni_inj]
      rw [if_neg (by omega), ni_shr vn 10 (by omega) (by decide) (by omega)]
      refine r226 hX hO (by omega) (fun E2 fr2 O2 => ?_)
      simp only [sb_v, sw_bv]
      rw [ni_shr vn 2 (by omega) (by decide) (by omega)]
      refine r226 hX O2 (by rw [List.length_append, List.length_singleton]; omega) (fun E3 fr3 O3 => ?_)
      simp only [sb_v, sw_some]
      rw [byte255 (show vn / 2 ^ 10 < 256 by omega), ni_m255] at O3
      refine hok [] rfl E3 ((hfr.trans fr2).trans fr3) ?_ (by rw [fr3.2 _ _ (by unfold sOc; omega), fr2.2 _ _ (by unfold sOc; omega), h8])
      simp only [List.append_assoc, List.singleton_append, List.append_nil] at O3 ⊢
      exact O3
  intro m
  induction m with
  | zero =>
    intro p n ends vn last h pd over v pre l E hm hB hH h8 hfr hO hl hp hla hok her
    refine sw_ge (n227_17 hH.1) ?_
    have hN := hH.2.2.1
    simp (maxSteps := 2000000) (disch := omega) only [sw_ite, ni_le]
    rw [if_pos (by omega)]
    exact fin (by omega) hB hH h8 hfr hO (by omega) hok her
  | succ m ih =>
    intro p n ends vn last h pd over v pre l E hm hB hH h8 hfr hO hl hp hla hok her
    have hX := hH.1
    have hN := hH.2.2.1
    by_cases hpb : p < b
    · obtain ⟨tn, htn, hT⟩ := hH.2.2.2.2 p (by omega)
      have e9 : md_b64 T b v h pd last p = (if T p = ni 13 ∨ T p = ni 10 then md_b64 T b v h pd last (p + 1)
        else match md_tk v h pd (T p) with
          | .error true => .error last
          | .error false => .error p
          | .ok (v', h', pd', xs) => match md_b64 T b v' h' pd' (if T p = ni 61 then last else p) (p + 1) with
            | .error f => .error f
            | .ok ys => .ok (xs ++ ys)) := by rw [md_b64, if_pos hpb]; rfl
      have stopx : ∀ {f : Nat} {n vn ends last over : Int32} {q : Int32}, f ≤ 8000 → (∀ E', rE X D0 f E' → Q (.inl none) E') → sw (sm_fx C 227 17 [.ref (X + 49), sm_junk, .int (ni b), .int n, .int vn, .int ends, .int last, .int over, .int q, sm_junk, sm_junk, sm_junk] [] (sm_dI E (X + 49) 8 (ni f))) Q := by
        intro f n vn ends last over q hf hQ
        have hrE : rE X D0 f (sm_dI E (X + 49) 8 (ni f)) := ⟨hf, dI_eq, (hfr.Fr sOc_R).dI (Or.inl (by omega))⟩
        have n223 : sw (sm_fx C 227 223 [.ref (X + 49), sm_junk, .int (ni b), .int n, .int vn, .int ends, sm_junk, .int over, sm_junk, sm_junk, sm_junk, sm_junk] [] (sm_dI E (X + 49) 8 (ni f))) Q := by
          refine sw_ge (n227_223 hX) ?_
          simp only [sw_ite, hrE.ne, if_false]
          refine sw_ge (n227_251 hX) ?_
          simp only [sw_ite, hrE.ne, if_false, sw_some]
          exact hQ _ hrE
        refine sw_ge (n227_17 hX) ?_
        simp only [sw_ite, hrE.ne, if_false]
        split <;> exact n223
      refine sw_ge (n227_17 hX) ?_
      simp (maxSteps := 2000000) (disch := omega) only [sw_ite, ni_le, h8, if_true, sw_bi, hH.at (show p < N by omega), sw_some, sb_i, r217, ni_add, md_b_0, ni_lt, ni_inj, sw_bv, r162 hX h8, sb_v]
      rw [if_neg (by omega)]
      by_cases hc13 : T p = ni 13
      · rw [if_pos hc13]
        rw [if_pos (Or.inl hc13)] at e9
        rw [e9] at hok her
        exact ih (p + 1) n ends vn last h pd over v pre l E (by omega) hB hH h8 hfr hO (by omega) (by omega) hla hok her
      rw [if_neg hc13]
      by_cases hc10 : T p = ni 10
      · rw [if_pos hc10]
        rw [if_pos (Or.inr hc10)] at e9
        rw [e9] at hok her
        exact ih (p + 1) n ends vn last h pd over v pre l E (by omega) hB hH h8 hfr hO (by omega) (by omega) hla hok her
      rw [if_neg hc10]
      rw [if_neg (fun g => g.elim hc13 hc10)] at e9
      have eF : ∀ {w : Bool}, md_tk v h pd (T p) = .error w → md_b64 T b v h pd last p = .error (if w then last else p) := by
        intro w hw
        rw [e9, hw]
        cases w <;> rfl
      have eO : ∀ {v' : Int32} {h' pd' : Nat} {xs : List Int32}, md_tk v h pd (T p) = .ok (v', h', pd', xs) → md_b64 T b v h pd last p = (match md_b64 T b v' h' pd' (if T p = ni 61 then last else p) (p + 1) with | .error f => .error f | .ok ys => .ok (xs ++ ys)) := by
        intro v' h' pd' xs hw
        rw [e9, hw]
      have badp : md_tk v h pd (T p) = .error false → ∀ {n vn ends last over : Int32} {q : Int32}, sw (sm_fx C 227 17 [.ref (X + 49), sm_junk, .int (ni b), .int n, .int vn, .int ends, .int last, .int over, .int q, sm_junk, sm_junk, sm_junk] [] (sm_dI E (X + 49) 8 (ni p))) Q := by
        intro hw n vn ends last over q
        exact stopx (by omega) (her p (eF hw))
      have n157 : md_tk v h pd (T p) = .error false → sw (sm_fx C 227 157 [.ref (X + 49), sm_junk, .int (ni b), .int (ni n), .int (ni vn), .int (ni ends), .int (ni last), .int (md_b over), .int (ni p), sm_junk, sm_junk, sm_junk] [] E) Q := by
        intro hw
        refine sw_ge (n227_157 hX) ?_
        simp only [sw_bv, r162 hX h8, sw_some, sb_v]
        exact badp hw
      rcases hB with ⟨b1, b2, b3, b4, b5, b6, b7, b8⟩ | ⟨b1, b2, b3, b4, b5, b6, b7, b8⟩ | ⟨b1, b2, b3, b4, b5, b6, b7, b8⟩ | ⟨b1, b2, b3, b4, b5, b6, b7, b8⟩
      · -- letters so far
        subst b1 b2 b5 b6 b8
        rw [if_pos rfl]
        have hvn : vn < 262144 := by
          have : (64 : Nat) ^ h ≤ 64 ^ 3 := Nat.pow_le_pow_right (by omega) (by omega)
          omega
        have n146 : ∀ s, s = md_six (T p) → (T p = ni 61 → h < 2) → sw (sm_fx C 227 146 [.ref (X + 49), sm_junk, .int (ni b), .int (ni h), .int (ni vn), .int (ni 0), .int (ni last), .int (md_b false), .int (ni p), sm_junk, .int s, sm_junk] [] E) Q := by
          intro s hs h61
          subst hs
          refine sw_ge (n227_146 hX) ?_
          simp (disch := omega) only [sw_ite, ni_le, ni_add, ni_inj, s31_6, s31_16, s31_8]
          rcases md_six_64 (T p) with g | ⟨a, ha, g⟩
          · rw [if_pos g]
            refine n157 ?_
            by_cases hc : T p = ni 61
            · exact tk_e hc (h61 hc)
            · exact tk_b hc g
          · rw [if_neg (by rw [g, ni_ne_k (by omega)]; exact id), if_pos (Nat.le_refl _), g]
            have hc : ¬ T p = ni 61 := fun z => by rw [z, six_61, k_ne_ni (by omega)] at g; exact g
            rw [ni_or6 ha]
            by_cases h3 : h = 3
            · subst h3
              rw [if_pos (by omega)]
              have tk := tk_3 (v := v) g ha
              rw [b7, ni_or6 ha] at tk
              have eo := eO (by rw [b7]; exact tk)
              rw [if_neg hc] at eo
              simp only [sw_bv]
              refine r226 hX hO (by omega) (fun E1 fr1 O1 => ?_)
              simp only [sb_v, sw_bv]
              refine r226 hX O1 (by rw [List.length_append, List.length_singleton]; omega) (fun E2 fr2 O2 => ?_)
              simp only [sb_v, sw_bv]
              refine r226 hX O2 (by simp only [List.length_append, List.length_cons, List.length_nil]; omega) (fun E3 fr3 O3 => ?_)
              simp only [sb_v]
              refine ih (p + 1) 0 0 0 p 0 0 false (ni 0) [] _ E3 (by omega) (Or.inl ⟨rfl, rfl, by omega, by decide, rfl, rfl, rfl, rfl⟩) (((hH.fr fr1 sOc_H).fr fr2 sOc_H).fr fr3 sOc_H) (by rw [fr3.2 _ _ (by unfold sOc; omega), fr2.2 _ _ (by unfold sOc; omega), fr1.2 _ _ (by unfold sOc; omega), h8]) (((hfr.trans fr1).trans fr2).trans fr3) O3 (by simp only [List.length_append, List.length_cons, List.length_nil]; omega) (by omega) (by omega) (fun ys hy E' hE' hO' h8' => hok _ (by rw [eo, hy]) E' hE' ?_ h8') (fun f hf E' hE' => her f (by rw [eo, hf]) E' hE')
              simp only [List.append_assoc, List.nil_append, List.cons_append] at hO' ⊢
              exact hO'
            · rw [if_neg (by omega)]
              have tk := tk_n (v := v) (h := h) g ha (by omega)
              rw [b7, ni_or6 ha] at tk
              have eo := eO (by rw [b7]; exact tk)
              rw [if_neg hc] at eo
              refine ih (p + 1) (h + 1) 0 (vn * 64 + a) p (h + 1) 0 false (ni (vn * 64 + a)) [] l E (by omega) (Or.inl ⟨rfl, rfl, by omega, by rw [Nat.pow_succ]; omega, rfl, rfl, rfl, rfl⟩) hH h8 hfr hO (by omega) (by omega) (by omega) (fun ys hy E' hE' hO' h8' => hok _ (by rw [eo, hy]) E' hE' (by rw [List.nil_append] at hO' ⊢; exact hO') h8') (fun f hf E' hE' => her f (by rw [eo, hf]) E' hE')
        by_cases h61 : T p = ni 61
        · rw [if_pos h61]
          by_cases hh2 : h < 2
          · rw [if_pos hh2]
            exact n146 _ rfl (fun _ => hh2)
          · rw [if_neg hh2]
            have n125 : ∀ E', E' = E → sw (sm_fx C 227 125 [.ref (X + 49), sm_junk, .int (ni b), .int (ni h), .int (ni vn), .int (ni 0), .int (ni last), sm_junk, .int (ni p), sm_junk, sm_junk, sm_junk] [] E') Q ∨ True := fun _ _ => Or.inr trivial
            by_cases h2 : h = 2
            · subst h2
              rw [if_pos rfl]
              refine sw_ge (n227_104 hX) ?_
              simp (disch := omega) only [sw_ite, if_true, ni_m15, ni_inj, sw_bv, r162 hX h8, sw_some, sb_v]
              have hlo : md_lo v 2 = ni (vn % 16) := by unfold md_lo; rw [if_pos rfl, b7, ni_m15]
              by_cases hz : vn % 16 = 0
              · rw [if_pos hz]
                have tk := tk_21 (v := v) h61 (by rw [hlo, hz])
                have eo := eO tk
                rw [if_pos h61, b7, ni_or6 (show 0 < 64 by omega)] at eo
                refine sw_ge (n227_125 hX) ?_
                simp (disch := omega) only [sw_ite, ni_add, ni_inj]
                rw [if_neg (by omega)]
                have hv2 : vn < 4096 := by simpa using b4
                refine ih (p + 1) 2 1 vn last 3 1 false (ni (vn * 64 + 0)) [] l E (by omega) (Or.inr (Or.inl ⟨rfl, rfl, rfl, hv2, rfl, rfl, rfl, rfl⟩)) hH h8 hfr hO (by omega) (by omega) hla (fun ys hy E' hE' hO' h8' => hok _ (by rw [b7, eo, hy]) E' hE' (by rw [List.nil_append] at hO' ⊢; exact hO') h8') (fun f hf E' hE' => her f (by rw [b7, eo, hf]) E' hE')
              · rw [if_neg hz]
                have tk := tk_lo (v := v) h61 hh2 (by rw [hlo, Ne, ni_inj (by omega) (by omega)]; exact hz)
                refine sw_ge (n227_125 hX) ?_
                simp (disch := omega) only [sw_ite, ni_add, ni_inj]
                rw [if_neg (by omega)]
                exact stopx (by omega) (her last (eF tk))
            · have h3 : h = 3 := by omega
              subst h3
              rw [if_neg h2]
              refine sw_ge (n227_104 hX) ?_
              simp (disch := omega) only [sw_ite, if_true, ni_m3, ni_inj, sw_bv, r162 hX h8, sw_some, sb_v]
              have hlo : md_lo v 3 = ni (vn % 4) := by unfold md_lo; rw [if_neg (by omega), b7, ni_m3]
              by_cases hz : vn % 4 = 0
              · rw [if_pos hz]
                have tk := tk_31 (v := v) h61 (by rw [hlo, hz])
                rw [b7, ni_or6 (show 0 < 64 by omega), ni_shr _ 16 (by omega) (by decide) (by omega), ni_shr _ 8 (by omega) (by decide) (by omega), ni_m255, ni_m255] at tk
                have eo := eO (by rw [b7]; exact tk)
                rw [if_pos h61] at eo
                refine sw_ge (n227_125 hX) ?_
                simp (disch := omega) only [sw_ite, ni_add, ni_inj, if_true]
                refine ih (p + 1) 3 1 vn last 0 1 true (ni 0) [ni (vn / 1024), ni (vn / 4 % 256)] l E (by omega) (Or.inr (Or.inr (Or.inr ⟨rfl, rfl, rfl, hvn, rfl, rfl, rfl, rfl⟩))) hH h8 hfr hO (by omega) (by omega) hla (fun ys hy E' hE' hO' h8' => hok _ (by rw [eo, hy]) E' hE' ?_ h8') (fun f hf E' hE' => her f (by rw [eo, hf]) E' hE')
                rw [List.nil_append]
                rw [show (vn * 64 + 0) / 2 ^ 16 % 256 = vn / 1024 by omega, show (vn * 64 + 0) / 2 ^ 8 % 256 = vn / 4 % 256 by omega]
                exact hO'
              · rw [if_neg hz]
                have tk := tk_lo (v := v) h61 hh2 (by rw [hlo, Ne, ni_inj (by omega) (by omega)]; exact hz)
                refine sw_ge (n227_125 hX) ?_
                simp (disch := omega) only [sw_ite, ni_add, ni_inj, if_true]
                exact stopx (by omega) (her last (eF tk))
        · rw [if_neg h61]
          exact n146 _ rfl (fun z => absurd z h61)
      · -- one = behind two letters
        subst b1 b2 b3 b5 b6 b8
        rw [if_pos rfl]
        by_cases h61 : T p = ni 61
        · rw [if_pos h61, if_neg (by omega), if_pos rfl]
          have tk := tk_32 (v := v) h61
          rw [b7, ni_or6 (show 0 < 64 by omega), ni_shr _ 16 (by omega) (by decide) (by omega), ni_m255] at tk
          have eo := eO (by rw [b7]; exact tk)
          rw [if_pos h61] at eo
          refine sw_ge (n227_104 hX) ?_
          simp only [sw_ite, ni_10, if_false]
          refine sw_ge (n227_125 hX) ?_
          simp (disch := omega) only [sw_ite, ni_add, ni_inj, if_true]
          refine ih (p + 1) 2 2 vn last 0 2 true (ni 0) [ni (vn / 16)] l E (by omega) (Or.inr (Or.inr (Or.inl ⟨rfl, rfl, rfl, b4, rfl, rfl, rfl, rfl⟩))) hH h8 hfr hO (by omega) (by omega) hla (fun ys hy E' hE' hO' h8' => hok _ (by rw [eo, hy]) E' hE' ?_ h8') (fun f hf E' hE' => her f (by rw [eo, hf]) E' hE')
          rw [List.nil_append]
          rw [show (vn * 64 * 64 + 0) / 2 ^ 16 % 256 = vn / 16 by omega]
          exact hO'
        · rw [if_neg h61]
          refine sw_ge (n227_146 hX) ?_
          simp (disch := omega) only [sw_ite, ni_le]
          have tk : md_tk v 3 1 (T p) = .error false := tk_p h61 (by omega)
          split
          · exact n157 tk
          · rw [if_neg (by omega)]
            exact n157 tk
      · subst b1 b2 b3 b5 b6 b8
        rw [if_neg (fun g => nomatch g)]
        refine badp ?_
        by_cases h61 : T p = ni 61
        · exact tk_e h61 (by omega)
        · exact tk_p h61 (by omega)
      · subst b1 b2 b3 b5 b6 b8
        rw [if_neg (fun g => nomatch g)]
        refine badp ?_
        by_cases h61 : T p = ni 61
        · exact tk_e h61 (by omega)
        · exact tk_p h61 (by omega)
    · refine sw_ge (n227_17 hX) ?_
      simp (maxSteps := 2000000) (disch := omega) only [sw_ite, ni_le]
      rw [if_pos (by omega)]
      exact fin hpb hB hH h8 hfr hO (by omega) hok her
/-- a leaf's octets -/
def sLf (X i c j : Nat) : Prop := sOc X c j ∨ (c = X + 60 ∧ j = i)
theorem r225 (hL : LN T N) (hL2 : LN2 T N) (hb : b ≤ N) {i code a : Nat} (hi : i < 40) (hc : code ≤ 4) (h : rH C X T N E) (h8 : E.1 (X + 49) 8 = sm_k (-1)) (h57 : E.1 (X + 57) i = ni code) (h59 : E.1 (X + 59) i = ni l.length) (hO : OCT X l E) (hl : l.length + (b - a) ≤ 8000) (hab : a ≤ b) (hB : BB T a b) (ha : 0 < a ∧ T (a - 1) ≠ ni 13)
    (hok : ∀ ys, md_leaf T code a b = .ok ys → ∀ E', fr (sLf X i) E E' → OCT X (l ++ ys) E' → E'.1 (X + 60) i = ni ys.length → E'.1 (X + 49) 8 = sm_k (-1) → Q (.inl none) E')
    (her : ∀ f, md_leaf T code a b = .error f → ∀ E', rE X E f E' → Q (.inl none) E') :
    sw (sm_fe C 225 [.ref (X + 49), .int (ni i), .int (ni a), .int (ni b)] E) Q := by
  have hX := h.1
  have hN := h.2.2.1
  have n116x : ∀ {f : Nat} {E' : sm_D}, rE X E f E' → (∀ E'', rE X E f E'' → Q (.inl none) E'') → sw (sm_fx C 225 116 [.ref (X + 49), .int (ni i), sm_junk, sm_junk, sm_junk, sm_junk] [] E') Q := by
    intro f E' hE hQ
    refine sw_ge (n225_116 hX) ?_
    simp (disch := omega) only [sw_gu, ni_in, ni_nat, sw_some]
    exact ⟨decide_eq_true hi, decide_eq_true hi, hQ _ (hE.dI (Or.inr (by omega)) (by omega))⟩
  have n116 : ∀ {ys : List Int32} {E' : sm_D}, md_leaf T code a b = .ok ys → fr (sOc X) E E' → OCT X (l ++ ys) E' → E'.1 (X + 49) 8 = sm_k (-1) → sw (sm_fx C 225 116 [.ref (X + 49), .int (ni i), sm_junk, sm_junk, sm_junk, sm_junk] [] E') Q := by
    intro ys E' hy hfr hO' h8'
    have hlen := md_leaf_len hy
    have e59 : E'.1 (X + 59) i = ni l.length := by rw [hfr.2 _ _ (by unfold sOc; omega), h59]
    refine sw_ge (n225_116 hX) ?_
    simp (disch := omega) only [sw_gu, ni_in, ni_nat, sw_some, hO'.1, e59, List.length_append, ni_sub (show l.length ≤ l.length + ys.length by omega), Nat.add_sub_cancel_left]
    refine ⟨decide_eq_true hi, decide_eq_true hi, hok ys hy _ ((hfr.mono (fun c j hc => Or.inl hc)).dI (Or.inr ⟨rfl, rfl⟩)) ⟨by rw [dI_ne (by omega)]; exact hO'.1, fun k hk => by rw [dI_ne (by omega)]; exact hO'.2 k hk⟩ dI_eq (by rw [dI_ne (by omega)]; exact h8')⟩
  unfold md_leaf at n116 her
  refine sw_ge (f225 hX) ?_
  simp (disch := omega) only [sw_gu, ni_in, ni_nat, h57, ni_le, ni_inj, sw_ite, sw_bv]
  refine ⟨decide_eq_true hi, ?_⟩
  by_cases hc3 : 3 ≤ code
  · rw [if_pos hc3]
    refine ⟨decide_eq_true hi, ?_⟩
    by_cases hc3' : code = 3
    · rw [if_pos hc3']
      rw [if_pos hc3'] at n116 her
      refine sw_ge (f227 hX) ?_
      refine r227_17 hb (D0 := E) b a 0 0 0 a 0 0 false (ni 0) [] l E (by omega) (Or.inl ⟨rfl, rfl, by omega, by decide, rfl, rfl, rfl, rfl⟩) h h8 fr.refl hO (by omega) (by omega) (by omega) (fun ys hy E' hE' hO' h8' => ?_) (fun f hf E' hE' => ?_)
      · simp only [sb_v]
        rw [List.nil_append] at hO'
        exact n116 hy hE' hO' h8'
      · simp only [sb_v]
        exact n116x hE' (her f hf)
    · rw [if_neg hc3']
      rw [if_neg hc3', if_pos (by omega)] at n116 her
      refine sw_ge (f228 hX) ?_
      refine r228_2 hL hL2 hb hB (D0 := E) b a l E (by omega) (Nat.le_refl _) h h8 fr.refl hO hl (by omega) ha (fun ys hy E' hE' hO' h8' => ?_) (fun f hf E' hE' => ?_)
      · simp only [sb_v]
        exact n116 hy hE' hO' h8'
      · simp only [sb_v]
        exact n116x hE' (her f hf)
  · rw [if_neg hc3]
    rw [if_neg (by omega), if_neg (by omega)] at n116 her
    refine r225_13 hi (by omega) hb (D0 := E) b a l E (by omega) h h8 h57 fr.refl hO hl (by omega) (fun ys hy E' hE' hO' h8' => n116 hy hE' hO' h8') (fun f hf E' hE' => n116x hE' (her f hf))
end RGY
