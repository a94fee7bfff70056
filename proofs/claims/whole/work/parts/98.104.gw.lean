/-! ===== the reference: bodies ===== -/
theorem i8_ni (n : Nat) : (ni n).toInt8 = (ni (n % 256)).toInt8 := by
  apply Int8.toBitVec_inj.mp
  show (BitVec.ofNat 32 n).signExtend 8 = (BitVec.ofNat 32 (n % 256)).signExtend 8
  rw [BitVec.signExtend_eq_setWidth_of_le _ (by omega), BitVec.signExtend_eq_setWidth_of_le _ (by omega), BitVec.setWidth_ofNat_of_le (by omega), BitVec.setWidth_ofNat_of_le (by omega)]
  apply BitVec.eq_of_toNat_eq
  rw [BitVec.toNat_ofNat, BitVec.toNat_ofNat]
  omega
theorem oct_256 : ∀ n, n < 256 → (((ni n).toInt8.toInt32).toInt8.toInt32) &&& ni 255 = ni n := by decide +kernel
theorem oct_255 (x : Int32) : (sm_nar .byte (x.toInt8.toInt32)) &&& ni 255 = x &&& ni 255 := by
  obtain ⟨n, rfl⟩ := ni_any x
  show (((ni n).toInt8.toInt32).toInt8.toInt32) &&& ni 255 = _
  rw [i8_ni n, oct_256 _ (Nat.mod_lt _ (by omega)), ni_m255]
def OCT (X : Nat) (l : List Int32) (E : sm_D) : Prop := E.1 (X + 49) 34 = ni l.length ∧ ∀ i, i < l.length → E.1 (X + 75) i &&& ni 255 = md_nth l i
def sOc (X c j : Nat) : Prop := (c = X + 49 ∧ j = 34) ∨ c = X + 75
section RGX
variable {C : sm_K} {X N b : Nat} {T : Nat → Int32} {D E : sm_D} {Q : (Option Value ⊕ Nat) → sm_D → Prop} {l : List Int32}
theorem OCT.fr {S : Nat → Nat → Prop} (h : OCT X l D) (g : fr S D E) (hS : ∀ c j, S c j → ¬ (c = X + 75 ∨ (c = X + 49 ∧ j = 34))) : OCT X l E := ⟨by rw [g.2 _ _ (fun z => hS _ _ z (Or.inr ⟨rfl, rfl⟩))]; exact h.1, fun i hi => by rw [g.2 _ _ (fun z => hS _ _ z (Or.inl rfl))]; exact h.2 i hi⟩
theorem r226 (hX : sm_Lay C X) (hO : OCT X l E) (hl : l.length < 8000) {v : Int32} (hq : ∀ E', fr (sOc X) E E' → OCT X (l ++ [v &&& ni 255]) E' → Q (.inl none) E') : sw (sm_fe C 226 [.ref (X + 49), .int v] E) Q := by
  refine sw_ge (f226 hX) ?_
  have e1 : sm_up E.1 (X + 75) l.length (sm_nar .byte (v.toInt8.toInt32)) (X + 49) 34 = ni l.length := by rw [up_ne (by omega)]; exact hO.1
  simp (disch := omega) only [sw_gu, hO.1, ni_in, ni_nat, e1, ni_add, sw_some]
  refine ⟨decide_eq_true hl, hq _ ((fr.refl.dI (Or.inr rfl)).dI (Or.inl ⟨rfl, rfl⟩)) ⟨by rw [dI_eq, List.length_append]; rfl, fun i hi => ?_⟩⟩
  rw [List.length_append, List.length_singleton] at hi
  rw [dI_ne (by omega), md_nth_sn hi]
  split
  · next g => subst g; rw [dI_eq, oct_255]
  · next g => rw [dI_ne (by omega), hO.2 i (by omega)]
theorem sOc_H : ∀ c j, sOc X c j → c ≠ X + 51 := by intro c j h; unfold sOc at h; omega
theorem sOc_R : ∀ c j, sOc X c j → rRR X c j := by intro c j h; unfold sOc at h; unfold rRR; omega
theorem byte255 {n : Nat} (hn : n < 256) : ni n &&& ni 255 = ni n := by rw [ni_m255]; congr 1; omega
/-- plain -/
theorem r225_13 {i code : Nat} (hi : i < 40) (hc : code ≤ 2) (hb : b ≤ N) {D0 : sm_D} : ∀ (m p : Nat) (l : List Int32) (E : sm_D), b - p ≤ m → rH C X T N E → E.1 (X + 49) 8 = sm_k (-1) → E.1 (X + 57) i = ni code → fr (sOc X) D0 E → OCT X l E → l.length + (b - p) ≤ 8000 → p ≤ N →
    (∀ ys, md_pln T b code p = .ok ys → ∀ E', fr (sOc X) D0 E' → OCT X (l ++ ys) E' → E'.1 (X + 49) 8 = sm_k (-1) → sw (sm_fx C 225 116 [.ref (X + 49), .int (ni i), sm_junk, sm_junk, sm_junk, sm_junk] [] E') Q) →
    (∀ f, md_pln T b code p = .error f → ∀ E', rE X D0 f E' → sw (sm_fx C 225 116 [.ref (X + 49), .int (ni i), sm_junk, sm_junk, sm_junk, sm_junk] [] E') Q) →
    sw (sm_fx C 225 13 [.ref (X + 49), .int (ni i), sm_junk, .int (ni b), .int (ni p), sm_junk] [] E) Q := by
  intro m
  induction m with
  | zero =>
    intro p l E hm h h8 h57 hfr hO hl hp hok her
    have hX := h.1
    have hN := h.2.2.1
    rw [md_pln, if_neg (by omega)] at hok
    refine sw_ge (n225_13 hX) ?_
    simp (disch := omega) only [sw_ite, ni_le]
    rw [if_pos (by omega)]
    exact hok [] rfl E hfr (by rw [List.append_nil]; exact hO) h8
  | succ m ih =>
    intro p l E hm h h8 h57 hfr hO hl hp hok her
    have hX := h.1
    have hN := h.2.2.1
    by_cases hpb : p < b
    · rw [md_pln, if_pos hpb] at hok her
      obtain ⟨n, hn, hT⟩ := h.2.2.2.2 p (by omega)
      have e1 : (T p = ni 0) = (n = 0) := by rw [hT]; exact ni_inj (by omega) (by omega)
      have e2 : (ni 127 < T p) = (127 < n) := by rw [hT]; exact ni_lt (by omega) (by omega)
      have good : ¬ ((T p = ni 0 ∧ code ≠ 2) ∨ (ni 127 < T p ∧ code = 0)) → sw (sm_fx C 225 76 [.ref (X + 49), .int (ni i), sm_junk, .int (ni b), .int (ni p), .int (T p)] [] E) Q := by
        intro hg
        rw [if_neg hg] at hok her
        refine sw_ge (n225_76 hX) ?_
        simp only [sw_bv]
        refine r226 hX hO (by omega) (fun E2 fr2 O2 => ?_)
        rw [hT, byte255 hn, ← hT] at O2
        simp only [sb_v, ni_add]
        refine ih (p + 1) _ E2 (by omega) (h.fr fr2 sOc_H) (by rw [fr2.2 _ _ (by unfold sOc; omega), h8]) (by rw [fr2.2 _ _ (by unfold sOc; omega), h57]) (hfr.trans fr2) O2 (by rw [List.length_append, List.length_singleton]; omega) (by omega) (fun ys hy E' hE' hO' h8' => ?_) (fun f hf E' hE' => her f (by rw [hf]) E' hE')
        refine hok (T p :: ys) (by rw [hy]) E' hE' ?_ h8'
        rw [List.append_assoc, List.singleton_append] at hO'
        exact hO'
      have bad : ((T p = ni 0 ∧ code ≠ 2) ∨ (ni 127 < T p ∧ code = 0)) → sw (sm_fx C 225 70 [.ref (X + 49), .int (ni i), sm_junk, .int (ni b), .int (ni p), .int (T p)] [] E) Q := by
        intro hg
        rw [if_pos hg] at her
        refine sw_ge (n225_70 hX) ?_
        simp only [sw_bv, r162 hX h8, sw_some, sb_v]
        refine sw_ge (n225_76 hX) ?_
        simp only [sw_bv]
        have hO2 : OCT X l (sm_dI E (X + 49) 8 (ni p)) := ⟨by rw [dI_ne (by omega)]; exact hO.1, fun i hi => by rw [dI_ne (by omega)]; exact hO.2 i hi⟩
        refine r226 hX hO2 (by omega) (fun E2 fr2 O2 => ?_)
        have hrE : rE X D0 p E2 := ⟨by omega, by rw [fr2.2 _ _ (by unfold sOc; omega), dI_eq], ((hfr.Fr sOc_R).dI (Or.inl (by omega))).trans (fr2.Fr sOc_R)⟩
        simp only [sb_v]
        refine sw_ge (n225_13 hX) ?_
        simp only [sw_ite, hrE.ne, if_false]
        split <;> exact her p rfl E2 hrE
      have n55 : ¬ (code = 0) → sw (sm_fx C 225 55 [.ref (X + 49), .int (ni i), sm_junk, .int (ni b), .int (ni p), .int (T p)] [] E) Q := by
        intro hc0
        refine sw_ge (n225_55 hX) ?_
        simp (disch := omega) only [sw_gu, ni_in, ni_nat, h57, ni_inj, sw_ite, e1]
        refine ⟨decide_eq_true hi, ?_⟩
        by_cases hc1 : code = 1
        · rw [if_pos hc1]
          by_cases hn0 : n = 0
          · rw [if_pos hn0]
            exact bad (Or.inl ⟨by rw [e1]; exact hn0, by omega⟩)
          · rw [if_neg hn0]
            exact good (fun g => by rw [e1, e2] at g; omega)
        · rw [if_neg hc1]
          exact good (fun g => by omega)
      refine sw_ge (n225_13 hX) ?_
      simp (disch := omega) only [sw_ite, ni_le, h8, if_true, sw_bi, h.at (show p < N by omega), sw_some, sb_i, sw_gu, ni_in, ni_nat, h57, ni_inj, r157, md_b_0]
      rw [if_neg (by omega)]
      refine ⟨decide_eq_true hi, ?_⟩
      by_cases hc0 : code = 0
      · rw [if_pos hc0, hT, md_in_ni (by omega) (by omega) (by omega), ← hT]
        by_cases hin : 1 ≤ n ∧ n ≤ 127
        · rw [decide_eq_true hin.1, decide_eq_true hin.2, if_neg (fun g => nomatch g)]
          refine sw_ge (n225_55 hX) ?_
          simp (disch := omega) only [sw_gu, ni_in, ni_nat, h57, ni_inj, sw_ite]
          rw [if_neg (by omega)]
          exact ⟨decide_eq_true hi, good (fun g => by rw [e1, e2] at g; omega)⟩
        · rw [if_pos (by
            cases hh : (decide (1 ≤ n) && decide (n ≤ 127))
            · rfl
            · rw [Bool.and_eq_true, decide_eq_true_eq, decide_eq_true_eq] at hh; exact absurd hh hin)]
          exact bad (by rw [e1, e2]; omega)
      · rw [if_neg hc0]
        exact n55 hc0
    · rw [md_pln, if_neg hpb] at hok
      refine sw_ge (n225_13 hX) ?_
      simp (disch := omega) only [sw_ite, ni_le]
      rw [if_pos (by omega)]
      exact hok [] rfl E hfr (by rw [List.append_nil]; exact hO) h8
/-- no line feed without its return -/
def LN2 (T : Nat → Int32) (N : Nat) : Prop := ∀ i, i < N → T i = ni 10 → 0 < i ∧ T (i - 1) = ni 13
theorem md_lns_LN2 {i l : Nat} (h : md_lns T N i l = none) (hi : i = 0 ∨ T (i - 1) ≠ ni 13 ∨ True) : ∀ j, i ≤ j → j < N → T j = ni 10 → i < j ∧ T (j - 1) = ni 13 := by
  rw [md_lns] at h
  split at h
  · next hiN =>
    split at h
    · next hp =>
      intro j hj hjN h10
      have ih := md_lns_LN2 h (Or.inr (Or.inr trivial)) j
      by_cases h1 : j = i
      · subst h1; rw [hp.1] at h10; exact absurd h10 (by decide)
      · by_cases h2 : j = i + 1
        · subst h2; exact ⟨by omega, by rw [Nat.add_sub_cancel]; exact hp.1⟩
        · have := ih (by omega) hjN h10
          exact ⟨by omega, this.2⟩
    · split at h
      · cases h
      · next hn =>
        intro j hj hjN h10
        have ih := md_lns_LN2 h (Or.inr (Or.inr trivial)) j
        by_cases h1 : j = i
        · subst h1; exact absurd (Or.inr (Or.inl h10)) hn
        · have := ih (by omega) hjN h10
          exact ⟨by omega, this.2⟩
  · intro j hj hjN; omega
termination_by N - i
/-- quoted -/
theorem r228_2 (hL : LN T N) (hL2 : LN2 T N) (hb : b ≤ N) {a : Nat} (hB : BB T a b) {D0 : sm_D} : ∀ (m p : Nat) (l : List Int32) (E : sm_D), b - p ≤ m → a ≤ p → rH C X T N E → E.1 (X + 49) 8 = sm_k (-1) → fr (sOc X) D0 E → OCT X l E → l.length + (b - p) ≤ 8000 → p ≤ N + 3 → (0 < p ∧ T (p - 1) ≠ ni 13) →
    (∀ ys, md_qp T b p = .ok ys → ∀ E', fr (sOc X) D0 E' → OCT X (l ++ ys) E' → E'.1 (X + 49) 8 = sm_k (-1) → Q (.inl none) E') →
    (∀ f, md_qp T b p = .error f → ∀ E', rE X D0 f E' → Q (.inl none) E') →
    sw (sm_fx C 228 2 [.ref (X + 49), sm_junk, .int (ni b), .int (ni p), sm_junk, sm_junk] [] E) Q := by
  intro m
  induction m with
  | zero =>
    intro p l E hm ha h h8 hfr hO hl hp hpv hok her
    have hX := h.1
    have hN := h.2.2.1
    rw [md_qp, if_neg (by omega)] at hok
    refine sw_ge (n228_2 hX) ?_
    simp (disch := omega) only [sw_ite, ni_le, sw_some]
    rw [if_pos (by omega)]
    exact hok [] rfl E hfr (by rw [List.append_nil]; exact hO) h8
  | succ m ih =>
    intro p l E hm ha h h8 hfr hO hl hp hpv hok her
    have hX := h.1
    have hN := h.2.2.1
    have stopx : ∀ {f : Nat} {E2 : sm_D} {v : Int32}, rE X D0 f E2 → Q (.inl none) E2 → sw (sm_fx C 228 2 [.ref (X + 49), sm_junk, .int (ni b), .int v, sm_junk, sm_junk] [] E2) Q := by
      intro f E2 v hE hQ
      refine sw_ge (n228_2 hX) ?_
      simp only [sw_ite, hE.ne, if_false, sw_some]
      split <;> exact hQ
    by_cases hpb : p < b
    · have hrE : rE X D0 p (sm_dI E (X + 49) 8 (ni p)) := ⟨by omega, dI_eq, (hfr.Fr sOc_R).dI (Or.inl (by omega))⟩
      obtain ⟨n, hn, hT⟩ := h.2.2.2.2 p (by omega)
      have h10 : T p ≠ ni 10 := fun g => hpv.2 (hL2 p (by omega) g).2
      -- one more octet, and on
      have put : ∀ {v : Int32} {d : Nat} {n : Nat}, n < 256 → v = ni n → 1 ≤ d → d ≤ 3 → T (p + d - 1) ≠ ni 13 → (∀ ys, md_qp T b (p + d) = .ok ys → md_qp T b p = .ok (v :: ys)) → (∀ f, md_qp T b (p + d) = .error f → md_qp T b p = .error f) → sw (sm_fe C 226 [.ref (X + 49), .int v] E) (sb_v (fun D1 => sm_fx C 228 2 [.ref (X + 49), sm_junk, .int (ni b), .int (ni (p + d)), sm_junk, sm_junk] [] D1) Q) := by
        intro v d n hn hv hd hd3 hcr h1 h2
        refine r226 hX hO (by omega) (fun E2 fr2 O2 => ?_)
        rw [hv, byte255 hn, ← hv] at O2
        simp only [sb_v]
        refine ih (p + d) _ E2 (by omega) (by omega) (h.fr fr2 sOc_H) (by rw [fr2.2 _ _ (by unfold sOc; omega), h8]) (hfr.trans fr2) O2 (by rw [List.length_append, List.length_singleton]; omega) (by omega) ⟨by omega, hcr⟩ (fun ys hy E' hE' hO' h8' => hok _ (h1 ys hy) E' hE' (by rw [List.append_assoc, List.singleton_append] at hO'; exact hO') h8') (fun f hf E' hE' => her f (h2 f hf) E' hE')
      have e9 : md_qp T b p = (if T p = ni 61 then
          if b ≤ p + 1 ∨ T (p + 1) = ni 13 then md_qp T b (p + 3)
          else if p + 2 < b ∧ md_hx (T (p + 1)) (T (p + 2)) ≠ sm_k (-1) then
            match md_qp T b (p + 3) with
            | .error f => .error f
            | .ok ys => .ok (md_hx (T (p + 1)) (T (p + 2)) :: ys)
          else .error p
        else if md_in (T p) 33 126 = true ∨ (md_bl (T p) = true ∧ ¬ (b ≤ p + 1 ∨ T (p + 1) = ni 13)) ∨ T p = ni 13 ∨ T p = ni 10 then
          match md_qp T b (p + 1) with
          | .error f => .error f
          | .ok ys => .ok (T p :: ys)
        else .error p) := by rw [md_qp, if_pos hpb]; rfl
      have n46 : ∀ la : Bool, la = decide (b ≤ p + 1 ∨ T (p + 1) = ni 13) → sw (sm_fx C 228 46 [.ref (X + 49), sm_junk, .int (ni b), .int (ni p), .int (T p), sm_junk] [.int (md_b la)] E) Q := by
        intro la hla
        refine sw_ge (n228_46 hX) ?_
        simp (maxSteps := 2000000) (disch := omega) only [sw_ite, sw_bv, sw_bi, r170, sw_some, sb_i, md_b_0, r157, ni_add, ni_le, r162 hX h8, sb_v]
        by_cases h13 : T p = ni 13
        · rw [if_pos h13]
          have hp2 := hB p ha hpb h13
          have hlf := (hL p (by omega) h13).2
          have q1 : md_qp T b p = (match md_qp T b (p + 1) with | .error f => .error f | .ok ys => .ok (T p :: ys)) := by
            rw [e9, if_neg (by rw [h13]; decide), if_pos (Or.inr (Or.inr (Or.inl h13)))]
          have q2 : md_qp T b (p + 1) = (match md_qp T b (p + 2) with | .error f => .error f | .ok ys => .ok (T (p + 1) :: ys)) := by
            rw [md_qp, if_pos (by omega), if_neg (by rw [hlf]; decide), if_pos (Or.inr (Or.inr (Or.inr hlf)))]
            rfl
          refine r226 hX hO (by omega) (fun E2 fr2 O2 => ?_)
          simp only [sb_v, sw_bv]
          refine r226 hX O2 (by rw [List.length_append, List.length_singleton]; omega) (fun E3 fr3 O3 => ?_)
          simp only [sb_v]
          refine ih (p + 2) _ E3 (by omega) (by omega) ((h.fr fr2 sOc_H).fr fr3 sOc_H) (by rw [fr3.2 _ _ (by unfold sOc; omega), fr2.2 _ _ (by unfold sOc; omega), h8]) ((hfr.trans fr2).trans fr3) O3 (by simp only [List.length_append, List.length_cons, List.length_nil]; omega) (by omega) ⟨by omega, by rw [show p + 2 - 1 = p + 1 from by omega, hlf]; decide⟩ (fun ys hy E' hE' hO' h8' => hok (T p :: T (p + 1) :: ys) (by rw [q1, q2, hy]) E' hE' ?_ h8') (fun f hf E' hE' => her f (by rw [q1, q2, hf]) E' hE')
          rw [h13, hlf]
          simp only [List.append_assoc, List.singleton_append] at hO'
          exact hO'
        rw [if_neg h13]
        cases hbl : md_bl (T p)
        · rw [if_pos rfl]
          by_cases h61 : T p = ni 61
          · rw [if_pos h61]
            rw [if_pos h61] at e9
            cases la
            · rw [if_pos rfl]
              have hnl : ¬ (b ≤ p + 1 ∨ T (p + 1) = ni 13) := fun g => by rw [decide_eq_true g] at hla; cases hla
              rw [if_neg hnl] at e9
              have n206 : md_qp T b p = .error p → sw (sm_fx C 228 206 [.ref (X + 49), sm_junk, .int (ni b), .int (ni p), sm_junk, sm_junk] [] E) Q := by
                intro g
                refine sw_ge (n228_206 hX) ?_
                simp only [sw_bv, r162 hX h8, sw_some, sb_v]
                exact stopx hrE (her p g _ hrE)
              by_cases hp2 : p + 2 < b
              · rw [if_neg (by omega), h.at (show p + 1 < N by omega), sw_some]
                simp only [sb_i, sw_bi, r220, sw_some, sw_ite]
                unfold md_hx at e9
                rcases md_hex_16 (T (p + 1)) with g1 | ⟨a1, b1, g1⟩
                · rw [if_pos g1]
                  exact n206 (by rw [e9, if_neg (fun g => g.2 (by rw [if_pos (Or.inl g1)]))])
                · rw [if_neg (by rw [g1, ni_ne_k (by omega)]; exact id), h.at (show p + 2 < N by omega), sw_some]
                  simp only [sb_i, sw_bi, sw_some, sw_ite, sw_bv]
                  rcases md_hex_16 (T (p + 2)) with g2 | ⟨a2, b2, g2⟩
                  · rw [if_pos g2]
                    exact n206 (by rw [e9, if_neg (fun g => g.2 (by rw [if_pos (Or.inr g2)]))])
                  · rw [if_neg (by rw [g2, ni_ne_k (by omega)]; exact id), h.at (show p + 1 < N by omega), sw_some]
                    have hx : ¬ (md_hex (T (p + 1)) = sm_k (-1) ∨ md_hex (T (p + 2)) = sm_k (-1)) := by
                      rw [g1, g2, ni_ne_k (by omega), ni_ne_k (by omega)]; exact fun g => g.elim id id
                    rw [if_neg hx, g1, g2, ni_mul, ni_add, if_pos ⟨hp2, cast (ni_ne_k (show 16 * a1 + a2 < 2147483648 by omega))⟩] at e9
                    simp only [sb_i, sw_bi, sw_some, sw_ite, sw_bv]
                    rw [h.at (show p + 2 < N by omega), sw_some]
                    simp only [sb_i, sw_bi, sw_some, sw_ite, sw_bv]
                    rw [g1, g2, ni_mul, ni_add]
                    refine put (d := 3) (n := 16 * a1 + a2) (by omega) rfl (by omega) (by omega) ?_ (fun ys hy => by rw [e9, hy]) (fun f hf => by rw [e9, hf])
                    rw [show p + 3 - 1 = p + 2 from by omega]
                    intro g
                    rw [g] at g2
                    have : md_hex (ni 13) = sm_k (-1) := by decide
                    rw [this, k_ne_ni (by omega)] at g2
                    exact g2
              · rw [if_pos (by omega)]
                exact n206 (by rw [e9, if_neg (fun g => hp2 g.1)])
            · rw [if_neg (fun g => nomatch g)]
              have hl9 : b ≤ p + 1 ∨ T (p + 1) = ni 13 := of_decide_eq_true hla.symm
              rw [if_pos hl9] at e9
              by_cases hp1 : p + 1 < b
              · rw [if_neg (by omega)]
                have hcr : T (p + 1) = ni 13 := hl9.elim (fun g => by omega) id
                have hp3 := hB (p + 1) (by omega) hp1 hcr
                have hlf := (hL (p + 1) (by omega) hcr).2
                refine ih (p + 3) l E (by omega) (by omega) h h8 hfr hO (by omega) (by omega) ⟨by omega, by rw [show p + 3 - 1 = p + 1 + 1 from by omega, hlf]; decide⟩ (fun ys hy => hok ys (by rw [e9, hy])) (fun f hf => her f (by rw [e9, hf]))
              · rw [if_pos (by omega)]
                have q3 : md_qp T b (p + 3) = .ok [] := by rw [md_qp, if_neg (by omega)]
                refine sw_ge (n228_2 hX) ?_
                simp (disch := omega) only [sw_ite, ni_le, sw_some]
                rw [if_pos (by omega)]
                exact hok [] (by rw [e9, q3]) E hfr (by rw [List.append_nil]; exact hO) h8
          · rw [if_neg h61]
            rw [if_neg h61] at e9
            cases hin : md_in (T p) 33 126
            · rw [if_pos rfl]
              have e10 : md_qp T b p = .error p := by
                rw [e9, if_neg (fun g => by
                  rcases g with g | g | g | g
                  · rw [hin] at g; cases g
                  · rw [hbl] at g; exact nomatch g.1
                  · exact h13 g
                  · exact h10 g)]
              exact stopx hrE (her p e10 _ hrE)
            · rw [if_neg (fun g => nomatch g)]
              rw [if_pos (Or.inl hin)] at e9
              exact put (d := 1) hn hT (by omega) (by omega) (by rw [Nat.add_sub_cancel]; exact h13) (fun ys hy => by rw [e9, hy]) (fun f hf => by rw [e9, hf])
        · rw [if_neg (fun g => nomatch g)]
          have h61 : ¬ T p = ni 61 := fun g => by rw [g] at hbl; exact absurd hbl (by decide)
          have hin : ¬ md_in (T p) 33 126 = true := fun g => by
            obtain ⟨k, k1, k2, k3⟩ := (md_in_iff (by omega) (by omega)).mp g
            unfold md_bl at hbl
            rw [k3, Bool.or_eq_true, decide_eq_true_eq, decide_eq_true_eq, ni_inj (by omega) (by omega), ni_inj (by omega) (by omega)] at hbl
            omega
          rw [if_neg h61] at e9
          cases la
          · rw [if_pos rfl]
            have hnl : ¬ (b ≤ p + 1 ∨ T (p + 1) = ni 13) := fun g => by rw [decide_eq_true g] at hla; cases hla
            rw [if_pos (Or.inr (Or.inl ⟨hbl, hnl⟩))] at e9
            refine sw_ge (n228_92 hX) ?_
            simp only [sw_bv, ni_add]
            exact put (d := 1) hn hT (by omega) (by omega) (by rw [Nat.add_sub_cancel]; exact h13) (fun ys hy => by rw [e9, hy]) (fun f hf => by rw [e9, hf])
          · rw [if_neg (fun g => nomatch g)]
            have hl9 : b ≤ p + 1 ∨ T (p + 1) = ni 13 := of_decide_eq_true hla.symm
            have e10 : md_qp T b p = .error p := by
              rw [e9, if_neg (fun g => by
                rcases g with g | g | g | g
                · exact hin g
                · exact g.2 hl9
                · exact h13 g
                · exact h10 g)]
            refine sw_ge (n228_92 hX) ?_
            simp only [sw_bv]
            have hO2 : OCT X l (sm_dI E (X + 49) 8 (ni p)) := ⟨by rw [dI_ne (by omega)]; exact hO.1, fun i hi => by rw [dI_ne (by omega)]; exact hO.2 i hi⟩
            refine r226 hX hO2 (by omega) (fun E2 fr2 O2 => ?_)
            have hrE2 : rE X D0 p E2 := ⟨by omega, by rw [fr2.2 _ _ (by unfold sOc; omega), dI_eq], hrE.2.2.trans (fr2.Fr sOc_R)⟩
            simp only [sb_v]
            exact stopx hrE2 (her p e10 _ hrE2)
      refine sw_ge (n228_2 hX) ?_
      simp (disch := omega) only [sw_ite, ni_le, h8, if_true, sw_bi, h.at (show p < N by omega), sw_some, sb_i, ni_add]
      rw [if_neg (by omega)]
      by_cases hp1 : p + 1 < b
      · rw [if_neg (by omega), h.at (show p + 1 < N by omega), sw_some]
        simp only [sb_i, sw_ite]
        by_cases hcr : T (p + 1) = ni 13
        · rw [if_pos hcr]; exact n46 true (by rw [decide_eq_true (Or.inr hcr)])
        · rw [if_neg hcr]; exact n46 false (by rw [decide_eq_false (fun g => g.elim (fun g => by omega) hcr)])
      · rw [if_pos (by omega)]
        exact n46 true (by rw [decide_eq_true (Or.inl (by omega))])
    · rw [md_qp, if_neg hpb] at hok
      refine sw_ge (n228_2 hX) ?_
      simp (disch := omega) only [sw_ite, ni_le, sw_some]
      rw [if_pos (by omega)]
      exact hok [] rfl E hfr (by rw [List.append_nil]; exact hO) h8
end RGX
