/-! ===== the reference: letters of fields ===== -/
def sLe (X c j : Nat) : Prop := rsc X c j ∨ (c = X + 49 ∧ (j = 0 ∨ j = 47))
section RHL
variable {C : sm_K} {X N : Nat} {T : Nat → Int32} {D E : sm_D} {Q : (Option Value ⊕ Nat) → sm_D → Prop} {m : md_M} {l xs : List Int32}
theorem RM.of2 (h : RM X T N D m l) (g : ∀ c j, rmc X c j → ¬ rsc X c j → E.1 c j = D.1 c j) (hT : RT X l E) (g2 : E.2 = D.2) : RM X T N E m l := by
  obtain ⟨a1, a2, a3, a4, a5, a6, a7, a8, a9, a10, a11⟩ := h
  refine ⟨by rw [g _ _ (by unfold rmc; omega) (by unfold rsc; omega)]; exact a1, by rw [g _ _ (by unfold rmc; omega) (by unfold rsc; omega)]; exact a2, a3, a4, hT, ⟨by rw [g _ _ (by unfold rmc; omega) (by unfold rsc; omega)]; exact a6.1, fun k hk => by rw [g _ _ (by unfold rmc; omega) (by unfold rsc; omega)]; exact a6.2 k hk⟩, fun j u hj => ?_, ⟨by rw [g _ _ (by unfold rmc; omega) (by unfold rsc; omega)]; exact a8.1, fun k hk => by rw [g _ _ (by unfold rmc; omega) (by unfold rsc; omega)]; exact a8.2 k hk⟩, ⟨by rw [g2]; exact a9.1, by rw [g _ _ (by unfold rmc; omega) (by unfold rsc; omega)]; exact a9.2⟩, a10.of (fun c j hc => g _ _ (by unfold rmc; omega) (by unfold rsc; omega)), a11.of (fun c j hc => g _ _ (by unfold rmc; omega) (by unfold rsc; omega))⟩
  have hj2 : j < m.1.length := by
    rcases Nat.lt_or_ge j m.1.length with z | z
    · exact z
    · rw [List.getElem?_eq_none z] at hj; cases hj
  have := REN_old (n := []) (E := E) (a7 j u hj) hj2 (md_tb_get hj) (fun c j hc => g _ _ (by unfold oldc at hc; unfold rmc; omega) (by unfold oldc at hc; unfold rsc; omega))
  rw [List.append_nil] at this
  exact this
theorem RV.of2 (h1 : 1 ≤ m.1.length) (hH : rH C X T N D) (h8 : D.1 (X + 49) 8 = sm_k (-1)) (hM : RM X T N D m l) (hl : l.length ≤ 16400) (g : ∀ c j, (rmc X c j ∨ c = X + 51 ∨ (c = X + 49 ∧ j = 8)) → ¬ rsc X c j → E.1 c j = D.1 c j) (hT : RT X l E) (g2 : E.2 = D.2) : RV C X T N m E :=
  ⟨hH.1, hH.2.1, Or.inr ⟨h1, ⟨hH.1, hH.2.1, hH.2.2.1, fun k hk => by rw [g _ _ (by omega) (by unfold rsc; omega)]; exact hH.2.2.2.1 k hk, hH.2.2.2.2⟩, by rw [g _ _ (by omega) (by unfold rsc; omega)]; exact h8, l, hM.of2 (fun c j hc hn => g c j (Or.inl hc) hn) hT g2, hl⟩⟩
/-- a letter of the document -/
theorem r239d (hH : rH C X T N E) {a b : Nat} (hab : a ≤ b) (hb : b ≤ N) {v : Int32} (h0 : E.1 (X + 49) 0 = ni 0) (hq : ∀ E', fr (s0 X) E E' → E'.1 (X + 49) 0 = a_c (ac_item (md_sl T a b) v) → Q (.inl (some (.int (a_v (ac_item (md_sl T a b) v))))) E') : sw (sm_fe C 239 [.ref (X + 49), .int v, .int (ni a), .int (ni (b - a)), .int (ni 1)] E) Q := by
  have hX := hH.1
  have hN := hH.2.2.1
  refine sw_ge (f239 hX) ?_
  rw [sw_ite]
  unfold ac_item at hq
  rw [md_sl_len] at hq
  by_cases hv : v = sm_k (-1)
  · rw [if_pos hv, sw_some]
    rw [if_pos hv] at hq
    exact hq E fr.refl h0
  · rw [if_neg hv, sw_bi, r157a (by omega), sw_some]
    rw [if_neg hv] at hq
    show sw (sm_bi _ _) Q
    refine r155q hX rfl (fun E' hf h0' => ?_)
    rw [sw_ite]
    simp only [md_b_0]
    cases h1 : ac_in v (b - a) with
    | none =>
      rw [h1] at h0' hq
      rw [if_pos (show Option.isSome (none : Option Nat) = false from rfl), sw_some]
      exact hq E' hf h0'
    | some k =>
      rw [h1] at h0' hq
      obtain ⟨hk, rfl⟩ := ac_in_some h1
      rw [if_neg (show ¬ (Option.isSome (some k) = false) by exact Bool.noConfusion), sw_ite, if_neg (show ¬ (ni 1 = ni 0) by decide)]
      obtain ⟨n, hn, hne⟩ := hH.2.2.2.2 (a + k) (by omega)
      have e51 : E'.1 (X + 51) (a + k) &&& ni 255 = md_nth (md_sl T a b) k := by
        rw [hf.2 _ _ (by unfold s0; omega), hH.2.2.2.1 _ (by omega), md_sl_nth hk, hne]
        exact md_a255 n hn
      simp (disch := omega) only [sw_gu, ni_add, ni_in, ni_nat, sw_some, e51]
      exact ⟨decide_eq_true (by omega), hq E' hf h0'⟩
theorem md_chs_nx {e q : Nat} (h : q < e) : md_chs T e q = T q :: md_chs T e (md_nx T e q) := by
  conv => lhs; rw [md_chs, dif_pos h]
theorem md_chs_end {e q : Nat} (h : ¬ q < e) : md_chs T e q = [] := by rw [md_chs, dif_neg h]
/-- the walk along a field's text -/
theorem r238_77 {e : Nat} (hW : rW C X T N e D) {b a z v : Int32} (h0 : D.1 (X + 49) 0 = ni 0) (h7 : ∀ k, k < e → T k ≠ sm_k (-1)) : ∀ (L : List Int32) (q s : Nat) (E : sm_D), md_chs T e q = L → md_ok T e q → RS X D q l b a z E → s + L.length ≤ 8000 → (v.toInt < 0 ∨ (s : Int) ≤ v.toInt) →
    (∀ E', (∃ E'' q', RS X D q' l b a z E'' ∧ fr (s0 X) E'' E') → E'.1 (X + 49) 0 = a_c (if v = sm_k (-1) then .ok (ni (s + L.length)) else match ac_in v (s + L.length) with | some j => (.ok (md_nth L (j - s)) : Except Nat Int32) | none => .error 2) → Q (.inl (some (.int (a_v (if v = sm_k (-1) then .ok (ni (s + L.length)) else match ac_in v (s + L.length) with | some j => (.ok (md_nth L (j - s)) : Except Nat Int32) | none => .error 2))))) E') →
    sw (sm_fx C 238 77 [.ref (X + 49), sm_junk, sm_junk, sm_junk, .int v, sm_junk, .int (ni s)] [] E) Q := by
  have hX := hW.1.1
  intro L
  induction L with
  | nil =>
    intro q s E hL hok hs hsl hv hq
    have hqe : ¬ q < e := fun g => by rw [md_chs_nx g] at hL; cases hL
    refine sw_ge (n238_77 hX) ?_
    rw [sw_bi, RS.cur hW hs hok.1, sw_some, md_cu_ge hqe]
    simp only [sb_i, sw_ite, if_true]
    simp only [List.length_nil, Nat.add_zero] at hq
    by_cases hv1 : v = sm_k (-1)
    · rw [if_pos hv1]
      rw [if_pos hv1] at hq
      refine sw_ge (n238_119 hX) ?_
      refine r155q hX (b := true) rfl (fun E' hf h0' => ?_)
      rw [if_neg (show ¬ (md_b true = ni 0) by decide), sw_some]
      exact hq E' ⟨E, q, hs, hf⟩ h0'
    · rw [if_neg hv1]
      rw [if_neg hv1] at hq
      have hin : ac_in v s = none := by
        unfold ac_in
        rw [if_neg (by omega)]
      rw [hin] at hq
      refine sw_ge (n238_119 hX) ?_
      refine r155q hX (b := false) rfl (fun E' hf h0' => ?_)
      rw [if_pos (show md_b false = ni 0 from rfl), sw_some]
      exact hq E' ⟨E, q, hs, hf⟩ h0'
  | cons x L ih =>
    intro q s E hL hok hs hsl hv hq
    have hqe : q < e := by
      rcases Nat.lt_or_ge q e with g | g
      · exact g
      · rw [md_chs_end (by omega)] at hL; cases hL
    rw [md_chs_nx hqe] at hL
    obtain ⟨hx, hL2⟩ := List.cons.inj hL
    rw [List.length_cons] at hsl hq
    refine sw_ge (n238_77 hX) ?_
    rw [sw_bi, RS.cur hW hs hok.1, sw_some, md_cu_lt hqe]
    simp only [sb_i, sw_ite, sw_bi, sw_bv]
    rw [if_neg (h7 q hqe)]
    by_cases hvs : ni s = v
    · rw [if_pos hvs, RS.cur hW hs hok.1, sw_some, md_cu_lt hqe]
      simp only [sb_i, sw_some]
      subst hvs
      have hne : ¬ (ni s = sm_k (-1)) := by rw [ni_ne_k (by omega)]; exact id
      rw [if_neg hne, ac_in_ni (by omega) (by omega)] at hq
      dsimp only at hq
      rw [Nat.sub_self] at hq
      have : md_nth (x :: L) 0 = T q := hx.symm
      rw [this] at hq
      exact hq E ⟨E, q, hs, fr.refl⟩ (by rw [hs.o (by unfold rsc; omega)]; exact h0)
    · rw [if_neg hvs]
      refine r181 hW hs hok hqe (fun E' hs' => ?_)
      simp only [sb_v, ni_add]
      have hsv : v.toInt < 0 ∨ ((s + 1 : Nat) : Int) ≤ v.toInt := by
        rcases hv with g | g
        · exact Or.inl g
        · right
          rcases Int.lt_or_le (s : Int) v.toInt with g2 | g2
          · omega
          · exfalso
            apply hvs
            rw [← Int32.toInt_inj, ni_toInt (by omega)]
            omega
      refine ih (md_nx T e q) (s + 1) E' hL2 hok.nx hs' (by omega) hsv ?_
      rw [show s + 1 + L.length = s + (L.length + 1) from by omega]
      intro E2 hE2
      have key : (match ac_in v (s + (L.length + 1)) with | some j => (.ok (md_nth L (j - (s + 1))) : Except Nat Int32) | none => .error 2) = (match ac_in v (s + (L.length + 1)) with | some j => .ok (md_nth (x :: L) (j - s)) | none => .error 2) := by
        cases hin : ac_in v (s + (L.length + 1)) with
        | none => rfl
        | some j =>
          obtain ⟨hj, rfl⟩ := ac_in_some hin
          rw [ni_toInt (by omega)] at hsv
          dsimp only
          have e1 : j - s = (j - (s + 1)) + 1 := by omega
          rw [e1]
          rfl
      rw [key]
      exact hq E2 hE2
theorem r238 (h : RV C X T N m D) {v1 v2 v3 v4 : Int32} (hq : ∀ E, fr (sLe X) D E → RV C X T N m E → E.1 (X + 49) 0 = a_c (ac_letter T m v1 v2 v3 v4) → Q (.inl (some (.int (a_v (ac_letter T m v1 v2 v3 v4))))) E) : sw (sm_fe C 238 [.ref (X + 49), .int v1, .int v2, .int v3, .int v4] D) Q := by
  have hX := h.1
  have f0 : ∀ {E : sm_D}, fr (s0 X) D E → fr (sLe X) D E := fun hf => hf.mono (fun c j hc => by unfold s0 at hc; unfold sLe; omega)
  have bad : ac_letter T m v1 v2 v3 v4 = .error 2 → sw (sm_fx C 238 23 [.ref (X + 49), .int v1, .int v2, .int v3, .int v4, sm_junk, sm_junk] [.ref (X + 49)] D) Q := by
    intro e
    rw [e] at hq
    refine sw_ge (n238_23 hX) ?_
    refine sw_ge (n238_24 hX) ?_
    refine r155q hX (b := false) rfl (fun E hf h0 => ?_)
    rw [if_pos (show md_b false = ni 0 from rfl), sw_some]
    exact hq _ (f0 hf) (h.f hf) h0
  refine sw_ge (f238 hX) ?_
  rw [sw_bi, r237 h, sw_some]
  simp only [sb_i, sw_ite, sw_bi, md_b_0]
  cases hfl : ac_fld m v1 v2 with
  | error e =>
    dsimp only
    rw [if_pos rfl]
    have he2 : e = 2 := by
      unfold ac_fld at hfl
      cases h1 : ac_in v1 m.1.length with
      | none => rw [ac_ent_none h1] at hfl; cases hfl; rfl
      | some j =>
        obtain ⟨u, hu, hv, he⟩ := ac_ent_some h1
        rw [he] at hfl
        simp only [bind, Except.bind] at hfl
        split at hfl
        · cases hfl; rfl
        · split at hfl
          · cases hfl; rfl
          · cases hfl
    subst he2
    exact bad (by unfold ac_letter; rw [hfl]; rfl)
  | ok f =>
    dsimp only
    rw [if_neg (show ¬ (true = false) from Bool.noConfusion), r157n (by omega), sw_some]
    simp only [sb_i, sw_ite, md_b_0]
    cases h3 : ac_in v3 2 with
    | none =>
      rw [if_pos (show Option.isSome (none : Option Nat) = false from rfl)]
      exact bad (by unfold ac_letter; rw [hfl]; simp only [bind, Except.bind, h3])
    | some w =>
      obtain ⟨hw, hv3⟩ := ac_in_some h3
      rw [if_neg (show ¬ (Option.isSome (some w) = false) by exact Bool.noConfusion)]
      refine sw_ge (n238_24 hX) ?_
      refine r155q hX (b := true) rfl (fun E hf h0 => ?_)
      rw [if_neg (show ¬ (md_b true = ni 0) by decide)]
      have hV := h.f hf
      obtain ⟨j, u, k, hj, hk, hv1, hv2⟩ := ac_fld_ok hfl
      obtain ⟨b1, b2, b3, b4, b5, b6, b7⟩ := hV.fl hj hk
      obtain ⟨hjl, hH, h8, l, hM, hl16, -⟩ := hV.e hj
      obtain ⟨r1, r2, r3, r4, r5⟩ := b5
      obtain ⟨z1, z2, z3, z4, z5⟩ := b6
      have hN := hH.2.2.1
      unfold ac_letter at hq
      rw [hfl] at hq
      simp only [bind, Except.bind, h3] at hq
      rw [hv1, hv2, hv3]
      simp (disch := omega) only [sw_gu, ni_in, ni_nat, b4, ni_add, sw_ite, r2, r3, sw_bi, sw_bv]
      refine ⟨decide_eq_true b1, ?_⟩
      have hw' : w = 0 ∨ w = 1 := by omega
      rcases hw' with rfl | rfl
      · rw [if_pos rfl]
        refine ⟨decide_eq_true b3, decide_eq_true b3, ?_⟩
        refine r239d hH (by omega) (by omega) h0 (fun E' hf' h0' => ?_)
        simp only [sb_i, sw_some]
        exact hq E' (f0 (hf.trans hf')) (hV.f hf') h0'
      · rw [if_neg (show ¬ (ni 1 = ni 0) by decide)]
        have hFT : FT X T N (md_tb m.1 j + k) f.2.2.1 f.2.2.2 E := ⟨b3, r4, r5, z1, z2, z3, z4⟩
        refine r176' hH h8 hM.2.2.2.2.1 hFT (fun E2 hW hs => ?_)
        simp only [sb_v]
        have hok : md_ok T f.2.2.2 (md_go T f.2.2.2 (f.2.2.1 + 1)) := md_go_ok (by omega) (fun r hr => z3 r (by omega))
        have hlen := md_chs_len (T := T) (z := f.2.2.2) (q := md_go T f.2.2.2 (f.2.2.1 + 1))
        have hgo : f.2.2.1 + 1 ≤ md_go T f.2.2.2 (f.2.2.1 + 1) := by unfold md_go; split <;> omega
        have hE0 : (sm_dI E (X + 49) 47 (ni f.2.2.2)).1 (X + 49) 0 = ni 0 := by rw [dI_ne (by omega)]; exact h0
        have hnk : ∀ q, q < f.2.2.2 → T q ≠ sm_k (-1) := fun q hq => by
          obtain ⟨n, hn, hne⟩ := hH.2.2.2.2 q (by omega)
          rw [hne]
          exact fun z => by rw [ni_ne_k (by omega)] at z; exact z
        refine r238_77 (v := v4) hW hE0 hnk _ _ 0 E2 rfl hok hs (by omega) (by omega) (fun E3 hE3 h03 => ?_)
        obtain ⟨E4, q', hs4, hf4⟩ := hE3
        have hag : ∀ c i, ¬ sLe X c i → E3.1 c i = D.1 c i := fun c i hc => by
          rw [hf4.2 _ _ (fun z => hc (by unfold s0 at z; unfold sLe; omega)), hs4.o (fun z => hc (by unfold sLe; exact Or.inl z)), dI_ne (fun z => hc (by unfold sLe; omega)), hf.2 _ _ (fun z => hc (by unfold s0 at z; unfold sLe; omega))]
        have hf3 : fr (sLe X) D E3 := ⟨by rw [hf4.1, hs4.1]; exact hf.1, hag⟩
        have hT3 : RT X l E3 := ⟨by rw [hf4.2 _ _ (by unfold s0; omega)]; exact hs4.2.2.1, fun i hi => by rw [hf4.2 _ _ (by unfold s0; omega)]; exact hs4.2.2.2.1 i hi⟩
        have hV3 : RV C X T N m E3 := by
          refine RV.of2 (D := E) (by omega) hH h8 hM hl16 (fun c i hc hn => ?_) hT3 (by rw [hf4.1, hs4.1])
          rw [hf4.2 _ _ (fun z => by unfold s0 at z; unfold rmc at hc; omega), hs4.o hn, dI_ne (fun z => by unfold rmc at hc; omega)]
        rw [Nat.zero_add] at h03 ⊢
        unfold ac_item at hq
        have key : (match ac_in v4 (md_chs T f.2.2.2 (md_go T f.2.2.2 (f.2.2.1 + 1))).length with | some j => (.ok (md_nth (md_chs T f.2.2.2 (md_go T f.2.2.2 (f.2.2.1 + 1))) (j - 0)) : Except Nat Int32) | none => .error 2) = (match ac_in v4 (md_chs T f.2.2.2 (md_go T f.2.2.2 (f.2.2.1 + 1))).length with | some j => .ok (md_nth (md_chs T f.2.2.2 (md_go T f.2.2.2 (f.2.2.1 + 1))) j) | none => .error 2) := by
          cases ac_in v4 (md_chs T f.2.2.2 (md_go T f.2.2.2 (f.2.2.1 + 1))).length with
          | none => rfl
          | some j => rfl
        rw [key] at h03 ⊢
        exact hq E3 hf3 hV3 h03
end RHL
