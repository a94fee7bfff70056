/-! ===== the reference: a text laid out plain ===== -/
def PLN (X : Nat) (xs : List Int32) (E : sm_D) : Prop := E.1 (X + 49) 55 = ni xs.length ∧ ∀ i, i < xs.length → E.1 (X + 82) i = md_nth xs i
def sPT (X c j : Nat) : Prop := rsc X c j ∨ (c = X + 49 ∧ (j = 47 ∨ j = 55)) ∨ c = X + 82
def md_tl (L : List Int32) : Nat := md_rt (md_nth L) 0 L.length
def md_ld (L : List Int32) : Nat := md_run (md_nth L) true (md_tl L) 0
/-- a text without the blanks at its ends -/
def md_tr (L : List Int32) : List Int32 := md_sl (md_nth L) (md_ld L) (md_tl L)
theorem md_sl_nth {P : Nat → Int32} {a b k : Nat} (h : k < b - a) : md_nth (md_sl P a b) k = P (a + k) := by
  unfold md_nth md_sl
  rw [List.getD_eq_getElem?_getD, List.getElem?_map, List.getElem?_range h]
  rfl
section RGO
variable {C : sm_K} {X N e q : Nat} {T : Nat → Int32} {D B E : sm_D} {Q : (Option Value ⊕ Nat) → sm_D → Prop} {l : List Int32} {b a z : Int32}
def sPl (X c j : Nat) : Prop := (c = X + 49 ∧ j = 55) ∨ c = X + 82
theorem r212_10 {D2 : sm_D} (h : rW C X T N e D2) (hq : ∀ E xs, (∃ B q b a z, fr (sPl X) D2 B ∧ PLN X xs B ∧ RS X B q l b a z E) → xs = md_chs T e q → sw (sm_fx C 212 48 [.ref (X + 49), sm_junk, sm_junk, sm_junk] [] E) Q) :
    ∀ (m p : Nat) (xs : List Int32) (B E : sm_D) (b a z : Int32), e - p ≤ m → fr (sPl X) D2 B → PLN X xs B → RS X B p l b a z E → md_ok T e p → xs.length + (e - p) ≤ 8000 → xs ++ md_chs T e p = md_chs T e q →
    sw (sm_fx C 212 10 [.ref (X + 49), sm_junk, sm_junk, sm_junk] [] E) Q := by
  have hX := h.1.1
  intro m
  induction m with
  | zero =>
    intro p xs B E b a z hm hfr hP hs hp hl heq
    have hW : rW C X T N e B := hfr.W h (fun c j hc => by unfold sPl at hc; omega)
    have hpe : ¬ p < e := by omega
    rw [md_chs, dif_neg hpe, List.append_nil] at heq
    refine sw_ge (n212_10 hX) ?_
    simp only [sw_bi, hs.cur hW hp.1, sw_some, sb_i, md_cu_ge hpe, sw_ite, if_true]
    exact hq E xs ⟨B, p, b, a, z, hfr, hP, hs⟩ heq
  | succ m ih =>
    intro p xs B E b a z hm hfr hP hs hp hl heq
    have hW : rW C X T N e B := hfr.W h (fun c j hc => by unfold sPl at hc; omega)
    by_cases hpe : p < e
    · have hlt := md_nx_lt (T := T) hpe
      obtain ⟨n, hn, hT⟩ := h.1.2.2.2.2 p (by have := h.2.1; omega)
      have e55 : E.1 (X + 49) 55 = ni xs.length := by rw [hs.o (by unfold rsc; omega)]; exact hP.1
      refine sw_ge (n212_10 hX) ?_
      have e55' : sm_up E.1 (X + 82) xs.length (T p) (X + 49) 55 = ni xs.length := by rw [up_ne (by omega), e55]
      have hk : (T p = sm_k (-1)) = False := by rw [hT]; exact ni_ne_k (by omega)
      simp (disch := omega) only [sw_bi, hs.cur hW hp.1, sw_some, sb_i, md_cu_lt hpe, sw_ite, hk, if_false, e55, sw_gu, ni_in, ni_nat, e55', ni_add, sw_bv]
      refine ⟨decide_eq_true (by omega), ?_⟩
      have hs2 := (hs.dI (c := X + 82) (j := xs.length) (T p) (by unfold rsc; omega)).dI (c := X + 49) (j := 55) (ni (xs.length + 1)) (by unfold rsc; omega)
      have hfr2 : fr (sPl X) D2 (sm_dI (sm_dI B (X + 82) xs.length (T p)) (X + 49) 55 (ni (xs.length + 1))) := (hfr.dI (Or.inr rfl)).dI (Or.inl ⟨rfl, rfl⟩)
      have hP2 : PLN X (xs ++ [T p]) (sm_dI (sm_dI B (X + 82) xs.length (T p)) (X + 49) 55 (ni (xs.length + 1))) := by
        refine ⟨by rw [dI_eq, List.length_append]; rfl, fun i hi => ?_⟩
        rw [List.length_append, List.length_singleton] at hi
        rw [dI_ne (by omega), md_nth_sn hi]
        split
        · next g => subst g; rw [dI_eq]
        · next g => rw [dI_ne (by omega), hP.2 i (by omega)]
      refine r181 (hfr2.W h (fun c j hc => by unfold sPl at hc; omega)) hs2 hp hpe (fun E3 hE3 => ?_)
      simp only [sb_v]
      refine ih _ (xs ++ [T p]) _ E3 _ _ _ (by omega) hfr2 hP2 hE3 hp.nx (by rw [List.length_append, List.length_singleton]; omega) ?_
      rw [← heq, List.append_assoc]
      have e9 : md_chs T e p = T p :: md_chs T e (md_nx T e p) := by rw [md_chs, dif_pos hpe]
      rw [e9]
      rfl
    · rw [md_chs, dif_neg hpe, List.append_nil] at heq
      refine sw_ge (n212_10 hX) ?_
      simp only [sw_bi, hs.cur hW hp.1, sw_some, sb_i, md_cu_ge hpe, sw_ite, if_true]
      exact hq E xs ⟨B, p, b, a, z, hfr, hP, hs⟩ heq
/-- the blanks at both ends go -/
theorem r212_48 (hX : sm_Lay C X) {L : List Int32} (hL : L.length ≤ 8000) (hP : PLN X L E) (hq : ∀ E', fr (sPl X) E E' → PLN X (md_tr L) E' → Q (.inl none) E') : sw (sm_fx C 212 48 [.ref (X + 49), sm_junk, sm_junk, sm_junk] [] E) Q := by
  have htl : md_tl L ≤ L.length := md_rt_le _
  have hld := md_run_le (P := md_nth L) (bl := true) (Nat.zero_le (md_tl L))
  -- the text is moved to the front
  have n115 : ∀ (m k : Nat) (E2 : sm_D), k + m = md_tl L → md_ld L ≤ k → fr (sPl X) E E2 → E2.1 (X + 49) 55 = ni (md_tl L) → (∀ j, j < k - md_ld L → E2.1 (X + 82) j = md_nth L (md_ld L + j)) → (∀ i, k ≤ i → i < md_tl L → E2.1 (X + 82) i = md_nth L i) → sw (sm_fx C 212 115 [.ref (X + 49), sm_junk, .int (ni (md_ld L)), .int (ni k)] [] E2) Q := by
    intro m
    induction m with
    | zero =>
      intro k E2 hk hlk hfr h55 h1 h2
      refine sw_ge (n212_115 hX) ?_
      simp (disch := omega) only [sw_ite, h55, ni_le, sw_some]
      rw [if_pos (by omega), ni_sub (by omega)]
      have hk2 : k = md_tl L := by omega
      subst hk2
      have hlen : (md_tr L).length = md_tl L - md_ld L := md_sl_len
      refine hq _ (hfr.dI (Or.inl ⟨rfl, rfl⟩)) ⟨by rw [dI_eq, hlen], fun i hi => ?_⟩
      rw [hlen] at hi
      rw [dI_ne (by omega), h1 i hi]
      unfold md_tr
      rw [md_sl_nth hi]
    | succ m ih =>
      intro k E2 hk hlk hfr h55 h1 h2
      refine sw_ge (n212_115 hX) ?_
      simp (disch := omega) only [sw_ite, h55, ni_le, sw_gu, ni_in, ni_nat, ni_sub hlk, ni_add]
      rw [if_neg (by omega), h2 k (by omega) (by omega)]
      refine ⟨decide_eq_true (by omega), decide_eq_true (by omega), ?_⟩
      refine ih (k + 1) _ (by omega) (by omega) (hfr.dI (Or.inr rfl)) (by rw [dI_ne (by omega), h55]) (fun j hj => ?_) (fun i hi1 hi2 => by rw [dI_ne (by omega), h2 i (by omega) hi2])
      by_cases hj2 : j = k - md_ld L
      · rw [hj2, dI_eq]; congr 1; omega
      · rw [dI_ne (by omega), h1 j (by omega)]
  have n87 : ∀ (m k : Nat) (E2 : sm_D), md_tl L - k ≤ m → k ≤ md_tl L → md_run (md_nth L) true (md_tl L) k = md_ld L → fr (sPl X) E E2 → PLN X L (sm_dI E2 (X + 49) 55 (ni L.length)) → E2.1 (X + 49) 55 = ni (md_tl L) → sw (sm_fx C 212 87 [.ref (X + 49), sm_junk, .int (ni k), sm_junk] [] E2) Q := by
    intro m
    have fin : ∀ {k : Nat} {E2 : sm_D}, k = md_ld L → fr (sPl X) E E2 → PLN X L (sm_dI E2 (X + 49) 55 (ni L.length)) → E2.1 (X + 49) 55 = ni (md_tl L) → sw (sm_fx C 212 113 [.ref (X + 49), sm_junk, .int (ni k), sm_junk] [] E2) Q := by
      intro k E2 hk hfr hP2 h55
      subst hk
      refine sw_ge (n212_113 hX) ?_
      refine n115 (md_tl L - md_ld L) (md_ld L) E2 (by have := hld.2; unfold md_ld; omega) (Nat.le_refl _) hfr h55 (fun j hj => by omega) (fun i hi1 hi2 => ?_)
      have := hP2.2 i (by omega)
      rw [dI_ne (by omega)] at this
      exact this
    induction m with
    | zero =>
      intro k E2 hm hk hrun hfr hP2 h55
      refine sw_ge (n212_87 hX) ?_
      simp (disch := omega) only [sw_ite, h55, ni_le]
      rw [if_pos (by omega)]
      refine fin ?_ hfr hP2 h55
      rw [← hrun, md_run, if_neg (fun g => by omega)]
    | succ m ih =>
      intro k E2 hm hk hrun hfr hP2 h55
      refine sw_ge (n212_87 hX) ?_
      simp (disch := omega) only [sw_ite, h55, ni_le, sw_gu, ni_in, ni_nat, sw_bi, r170, sw_some, sb_i, md_b_0, ni_add]
      by_cases hkt : k < md_tl L
      · rw [if_neg (by omega)]
        have hc : E2.1 (X + 82) k = md_nth L k := by
          have := hP2.2 k (by omega)
          rw [dI_ne (by omega)] at this
          exact this
        rw [hc]
        refine ⟨decide_eq_true (by omega), ?_⟩
        rw [md_run] at hrun
        cases hb : md_bl (md_nth L k)
        · rw [if_pos rfl]
          rw [if_neg (fun g => by rw [hb] at g; exact nomatch g.2)] at hrun
          exact fin hrun hfr hP2 h55
        · rw [if_neg (fun g => nomatch g)]
          rw [if_pos ⟨hkt, hb⟩] at hrun
          exact ih (k + 1) E2 (by omega) (by omega) hrun hfr hP2 h55
      · rw [if_pos (by omega)]
        refine fin ?_ hfr hP2 h55
        rw [← hrun, md_run, if_neg (fun g => hkt g.1)]
  have n48 : ∀ (k : Nat) (E2 : sm_D), k ≤ L.length → md_rt (md_nth L) 0 k = md_tl L → fr (sPl X) E E2 → PLN X L (sm_dI E2 (X + 49) 55 (ni L.length)) → E2.1 (X + 49) 55 = ni k → sw (sm_fx C 212 48 [.ref (X + 49), sm_junk, sm_junk, sm_junk] [] E2) Q := by
    intro k
    have fin : ∀ {E2 : sm_D}, fr (sPl X) E E2 → PLN X L (sm_dI E2 (X + 49) 55 (ni L.length)) → E2.1 (X + 49) 55 = ni (md_tl L) → sw (sm_fx C 212 85 [.ref (X + 49), sm_junk, sm_junk, sm_junk] [] E2) Q := by
      intro E2 hfr hP2 h55
      refine sw_ge (n212_85 hX) ?_
      exact n87 (md_tl L) 0 E2 (by omega) (by omega) rfl hfr hP2 h55
    induction k with
    | zero =>
      intro E2 hk hrt hfr hP2 h55
      refine sw_ge (n212_48 hX) ?_
      simp (disch := omega) only [sw_ite, h55, ni_le]
      rw [if_pos (Nat.le_refl _)]
      unfold md_rt at hrt
      exact fin hfr hP2 (by rw [h55, hrt])
    | succ k ih =>
      intro E2 hk hrt hfr hP2 h55
      have hc : E2.1 (X + 82) k = md_nth L k := by
        have := hP2.2 k (by omega)
        rw [dI_ne (by omega)] at this
        exact this
      refine sw_ge (n212_48 hX) ?_
      simp (disch := omega) only [sw_ite, h55, ni_le, ni_sub (show 1 ≤ k + 1 by omega), Nat.add_sub_cancel, sw_gu, ni_in, ni_nat, sw_bi, hc, r170, sw_some, sb_i, md_b_0]
      rw [if_neg (by omega)]
      refine ⟨decide_eq_true (by omega), ?_⟩
      unfold md_rt at hrt
      cases hb : md_bl (md_nth L k)
      · rw [if_pos rfl]
        rw [if_neg (fun g => by rw [hb] at g; exact nomatch g.2)] at hrt
        exact fin hfr hP2 (by rw [h55, hrt])
      · rw [if_neg (fun g => nomatch g)]
        rw [if_pos ⟨by omega, hb⟩] at hrt
        refine ih _ (by omega) hrt (hfr.dI (Or.inl ⟨rfl, rfl⟩)) ⟨by rw [dI_eq], fun i hi => ?_⟩ dI_eq
        have := hP2.2 i hi
        rw [dI_ne (by omega)] at this
        rw [dI_ne (by omega), dI_ne (by omega)]
        exact this
  refine n48 L.length E (Nat.le_refl _) rfl fr.refl ⟨by rw [dI_eq], fun i hi => by rw [dI_ne (by omega)]; exact hP.2 i hi⟩ hP.1
theorem r212 (h : rH C X T N D) (h8 : D.1 (X + 49) 8 = sm_k (-1)) (hT : RT X l D) {f c y : Nat} (hf : FT X T N f c y D)
    (hq : ∀ E', fr (sPT X) D E' → RT X l E' → PLN X (md_tr (md_chs T y (md_go T y (c + 1)))) E' → Q (.inl none) E') : sw (sm_fe C 212 [.ref (X + 49), .int (ni f)] D) Q := by
  have hX := h.1
  have hN := h.2.2.1
  have hyN := hf.2.2.2.2.1
  have hro := hf.ro
  have hH1 : rH C X T N (sm_dI D (X + 49) 55 (ni 0)) := ⟨h.1, h.2.1, h.2.2.1, fun i hi => by rw [dI_ne (by omega)]; exact h.2.2.2.1 i hi, h.2.2.2.2⟩
  have hT1 : RT X l (sm_dI D (X + 49) 55 (ni 0)) := ⟨by rw [dI_ne (by omega)]; exact hT.1, fun i hi => by rw [dI_ne (by omega)]; exact hT.2 i hi⟩
  have hf1 : FT X T N f c y (sm_dI D (X + 49) 55 (ni 0)) := by
    obtain ⟨f1, f2, f3, f4⟩ := hf
    exact ⟨f1, by rw [dI_ne (by omega)]; exact f2, by rw [dI_ne (by omega)]; exact f3, f4⟩
  refine sw_ge (f212 hX) ?_
  simp only [sw_bv]
  refine r176' hH1 (by rw [dI_ne (by omega)]; exact h8) hT1 hf1 (fun E1 hW hE1 => ?_)
  simp only [sb_v]
  have hlen := md_chs_len (T := T) (z := y) (q := md_go T y (c + 1))
  have hfr0 : ∀ c j, ¬ sPT X c j → (sm_dI (sm_dI D (X + 49) 55 (ni 0)) (X + 49) 47 (ni y)).1 c j = D.1 c j := fun c j hc => by
    rw [dI_ne (fun g => hc (by unfold sPT; omega)), dI_ne (fun g => hc (by unfold sPT; omega))]
  have h55 : (sm_dI (sm_dI D (X + 49) 55 (ni 0)) (X + 49) 47 (ni y)).1 (X + 49) 55 = ni 0 := by rw [dI_ne (by omega), dI_eq]
  have h2 : (sm_dI (sm_dI D (X + 49) 55 (ni 0)) (X + 49) 47 (ni y)).2 = D.2 := rfl
  generalize sm_dI (sm_dI D (X + 49) 55 (ni 0)) (X + 49) 47 (ni y) = D2 at hW hE1 hfr0 h55 h2
  refine r212_10 (l := l) (q := md_go T y (c + 1)) hW (fun E2 xs hE2 hxs => ?_) y _ [] D2 E1 _ _ _ (by omega) fr.refl ⟨h55, fun i hi => by cases hi⟩ hE1 hro.1 (by rw [List.length_nil]; omega) rfl
  obtain ⟨B, p, b, a, z, hfr, hP, hs⟩ := hE2
  subst hxs
  have hP2 : PLN X (md_chs T y (md_go T y (c + 1))) E2 := ⟨by rw [hs.o (by unfold rsc; omega)]; exact hP.1, fun i hi => by rw [hs.o (by unfold rsc; omega)]; exact hP.2 i hi⟩
  refine r212_48 hX (by omega) hP2 (fun E3 hfr3 hP3 => ?_)
  refine hq E3 ⟨by rw [hfr3.1, hs.1, hfr.1, h2], fun c j hc => ?_⟩ ⟨?_, fun i hi => ?_⟩ hP3
  · rw [hfr3.2 c j (fun g => hc (by unfold sPl at g; unfold sPT; omega)), hs.o (fun g => hc (Or.inl g)), hfr.2 c j (fun g => hc (by unfold sPl at g; unfold sPT; omega)), hfr0 c j hc]
  · rw [hfr3.2 _ _ (by unfold sPl; omega)]; exact hs.2.2.1
  · rw [hfr3.2 _ _ (by unfold sPl; omega)]; exact hs.2.2.2.1 i hi
end RGO
