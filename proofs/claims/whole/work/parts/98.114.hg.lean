section RHI
variable {C : sm_K} {X N : Nat} {T : Nat → Int32} {D E F D0 : sm_D} {Q : (Option Value ⊕ Nat) → sm_D → Prop} {l : List Int32} {m : md_M} {st : List md_O}
theorem BB_part (hL : LN T N) {v : List Int32} {b q : Nat} {d : md_D} (hb : b ≤ N) (h : md_del T v b q = some d) : BB T q (max q (d.1 - 2)) := by
  have hdo := md_del_ok h
  intro k k1 k2 k3
  rcases md_del_line h with w | w
  · omega
  · have e : max q (d.1 - 2) = d.1 - 2 := by omega
    rw [e] at k2 ⊢
    rcases Nat.lt_or_ge (k + 2) (d.1 - 2 + 1) with z | z
    · omega
    · have hk : k + 1 = d.1 - 2 := by omega
      have := (hL k (by omega) k3).2
      rw [hk, w.2] at this
      exact absurd this (by decide)
theorem r159_81 (hL : LN T N) (hL2 : LN2 T N) : ∀ (n : Nat) (m : md_M) (st : List md_O) (E : sm_D), m.1.length + n = 40 → RINV C X T N D0 m st E →
    (∀ m', md_cont T n m st = .ok m' → ∀ E' l', rF2 X D0 E' → RM X T N E' m' l' → E'.1 (X + 49) 8 = sm_k (-1) → l'.length ≤ 16400 → 1 ≤ m'.1.length → Q (.inl none) E') →
    (∀ f, md_cont T n m st = .error f → ∀ E', rE2 X D0 f E' → Q (.inl none) E') →
    sw (sm_fx C 159 81 [.ref (X + 49), sm_junk, sm_junk, sm_junk, sm_junk, sm_junk] [] E) Q := by
  intro n
  induction n with
  | zero =>
    intro m st E hn hI hok her
    obtain ⟨hH, h8, h54, hF, h60, hS, hDp, ⟨l, hM, hl, hlo⟩, h6, ho, hpw, h1⟩ := hI
    have hX := hH.1
    have hN := hH.2.2.1
    unfold md_cont at hok her
    have hnp := nop_drop (st := st)
    have hS2 := hS.drop
    have hsub : ∀ o ∈ st.dropWhile (fun o => o.2.2.2.2), o ∈ st := fun o h => (List.dropWhile_sublist _).subset h
    cases hdw : st.dropWhile (fun o => o.2.2.2.2) with
    | nil =>
      rw [hdw] at hok hnp
      refine sw_ge (n159_81 hX) ?_
      simp (disch := omega) only [sw_ite, h8, if_true, h60, ← hnp, sw_some]
      rw [if_pos (by decide)]
      exact hok m rfl E l hF hM h8 hl h1
    | cons o r =>
      rw [hdw] at her hnp hS2 hsub
      have hoc : o.2.2.2.2 = false := by
        have := List.head?_dropWhile_not (fun o : md_O => o.2.2.2.2) st
        rw [hdw] at this
        simpa using this
      obtain ⟨s1, s2, s3, s4, s5⟩ := hS2.1 hoc
      have hnr : nop st = nop r + 1 := by rw [← hnp]; conv => lhs; unfold nop
                                          rw [if_neg (by rw [hoc]; exact Bool.false_ne_true)]
      have hn8 : nop r < 8 := by have := nop_le (st := st); omega
      obtain ⟨⟨z1, z2, z3, z4, z5, u', z6, z7⟩, -⟩ := ho o (hsub o List.mem_cons_self)
      have h9 : E.1 (X + 49) 9 = ni 40 := by rw [hM.1, show m.1.length = 40 from by omega]
      refine sw_ge (n159_81 hX) ?_
      simp (disch := omega) only [sw_ite, sw_gu, h8, if_true, h60, hnr, ni_le, ni_sub, Nat.add_sub_cancel, ni_in, ni_nat, s1, s2, s4, s5, h9, sw_bv, r162 hX h8, sw_some, sb_v]
      rw [if_neg (by omega), if_neg (by rw [ni_ne_k (by omega)]; exact id)]
      refine ⟨decide_eq_true hn8, decide_eq_true hn8, decide_eq_true hn8, decide_eq_true hn8, ?_⟩
      have hE2 : rE2 X D0 o.2.2.1 (sm_dI E (X + 49) 8 (ni o.2.2.1)) := rE2_lp hF (fr.refl.dI (Or.inr (Or.inl ⟨rfl, Or.inl rfl⟩))) (by omega) dI_eq
      exact r159_e hX hE2 (her _ rfl _ hE2)
  | succ n ih =>
    intro m st E hn hI hok her
    obtain ⟨hH, h8, h54, hF, h60, hS, hDp, ⟨l, hM, hl, hlo⟩, h6, ho, hpw, h1⟩ := hI
    have hX := hH.1
    have hN := hH.2.2.1
    unfold md_cont at hok her
    have hnp := nop_drop (st := st)
    have hS2 := hS.drop
    have hDp2 := hDp.drop
    have hsub : ∀ o ∈ st.dropWhile (fun o => o.2.2.2.2), o ∈ st := fun o h => (List.dropWhile_sublist _).subset h
    have hpw2 : (st.dropWhile (fun o => o.2.2.2.2)).Pairwise (fun o o' => o.2.1 ≤ o'.2.2.2.1) := hpw.sublist (List.dropWhile_sublist _)
    have hl2 : (st.dropWhile (fun o => o.2.2.2.2)).length ≤ st.length := (List.dropWhile_sublist _).length_le
    cases hdw : st.dropWhile (fun o => o.2.2.2.2) with
    | nil =>
      rw [hdw] at hok hnp
      refine sw_ge (n159_81 hX) ?_
      simp (disch := omega) only [sw_ite, h8, if_true, h60, ← hnp, sw_some]
      rw [if_pos (by decide)]
      exact hok m rfl E l hF hM h8 hl h1
    | cons o r =>
      rw [hdw] at hok her hnp hS2 hDp2 hsub hpw2 hl2
      have hoc : o.2.2.2.2 = false := by
        have := List.head?_dropWhile_not (fun o : md_O => o.2.2.2.2) st
        rw [hdw] at this
        simpa using this
      obtain ⟨s1, s2, s3, s4, s5⟩ := hS2.1 hoc
      have hnr : nop st = nop r + 1 := by rw [← hnp]; conv => lhs; unfold nop
                                          rw [if_neg (by rw [hoc]; exact Bool.false_ne_true)]
      have hn8 : nop r < 8 := by have := nop_le (st := st); omega
      obtain ⟨⟨z1, z2, z3, z4, z5, u', z6, z7⟩, z8, z9, z10⟩ := ho o (hsub o List.mem_cons_self)
      have zl := hlo o (hsub o List.mem_cons_self)
      have h40 : m.1.length < 40 := by omega
      dsimp only at hok her
      refine sw_ge (n159_81 hX) ?_
      simp (disch := omega) only [sw_ite, sw_gu, h8, if_true, h60, hnr, ni_le, ni_sub, Nat.add_sub_cancel, ni_in, ni_nat, s1, s2, s4, s5, hM.1, ni_inj]
      rw [if_neg (by omega), if_neg (by rw [ni_ne_k (by omega)]; exact id), if_neg (by omega)]
      refine ⟨decide_eq_true hn8, decide_eq_true hn8, decide_eq_true hn8, ?_⟩
      refine sw_ge (n159_149 hX) ?_
      simp (disch := omega) only [sw_gu, ni_in, ni_nat, s3, sw_bi]
      refine ⟨decide_eq_true hn8, ?_⟩
      have hren := (hM.2.2.2.2.2.2.1 _ _ z6).2.2.2.2.2.2
      refine r229 (l := l) hH z2 (by omega) hM.2.2.2.2.1 (by omega) hren z7 z8 (by omega) z9 (fun hno E' hf => ?_) (fun d hd E' hf k65 k66 k67 => ?_)
      · simp only [sb_i, sw_ite, if_true, sw_bv]
        rw [r162 hX (by rw [hf.2 _ _ (by unfold sDe; omega)]; exact h8), sw_some]
        simp only [sb_v]
        have hf2 : fr (sLp X) E (sm_dI E' (X + 49) 8 (ni o.2.1)) := (hf.mono (fun c j hc => Or.inl hc)).dI (Or.inr (Or.inl ⟨rfl, Or.inl rfl⟩))
        have hE2 : rE2 X D0 o.2.1 (sm_dI E' (X + 49) 8 (ni o.2.1)) := rE2_lp hF hf2 (by omega) dI_eq
        exact r159_e hX hE2 (her _ (by rw [hno]) _ hE2)
      · have hdo := md_del_ok hd
        rw [hd] at hok her
        dsimp only at hok her
        have hs : ∀ c j, ¬ sDe X c j → E'.1 c j = E.1 c j := hf.2
        have hf2 : fr (sLp X) E E' := hf.mono (fun c j hc => Or.inl hc)
        have k87 : E'.1 (X + 87) (nop r) = ni o.2.2.2.1 := by rw [hs _ _ (by unfold sDe; omega)]; exact s4
        have k60 : E'.1 (X + 49) 60 = ni (nop r + 1) := by rw [hs _ _ (by unfold sDe; omega), h60, hnr]
        -- the part is read
        have part : ∀ G : sm_D, fr (sLp X) E G → G.1 (X + 49) 8 = sm_k (-1) → G.1 (X + 49) 60 = ni (nop ((o.1, o.2.1, d) :: r)) → STR X G ((o.1, o.2.1, d) :: r) → sw (sm_fx C 159 307 [.ref (X + 49), sm_junk, .int (ni o.1), sm_junk, .int (ni o.2.2.2.1), .int (ni (max o.2.2.2.1 (d.1 - 2)))] [] G) Q := by
          intro G g1 g8 g60 gS
          refine sw_ge (n159_307 hX) ?_
          rw [sw_bv]
          refine sw_ge (f230 hX) ?_
          rw [sw_bv]
          have hHG := rH_lp hH g1
          have g54 : G.1 (X + 49) 54 = ni 0 := by rw [g1.2 _ _ (by unfold sLp sDe; omega)]; exact h54
          have hFG : rF2 X D0 G := hF.trans (g1.Fr2 (fun c j hc => sLp_R2 hc))
          have hMG := hM.lp g1
          have hdG : DPT X G ((o.1, o.2.1, d) :: r) := ⟨by rw [g1.2 _ _ (by unfold sLp sDe; omega)]; exact hDp2.1, hDp2.2.of (fun o' _ => g1.2 _ _ (by unfold sLp sDe; omega))⟩
          have hb : max o.2.2.2.1 (d.1 - 2) ≤ N := by omega
          have hbd : max o.2.2.2.1 (d.1 - 2) < d.2.1 := by omega
          have hBB := BB_part hL z2 hd
          have hlen : ((o.1, o.2.1, d) :: r).length = r.length + 1 := rfl
          have hl7 : r.length + 1 ≤ 6 := by rw [List.length_cons] at hl2; omega
          rw [md_msg_cont] at hok her
          refine r163 (s := nop ((o.1, o.2.1, d) :: r)) (dep := ((o.1, o.2.1, d) :: r).length) hL hL2 hHG g8 g54 hMG h40 (Or.inr ⟨o.1, rfl, z1, by rw [hlen]; omega, by rw [hlen, Nat.add_sub_cancel]; exact hdG.1⟩) (by rw [hlen]; omega) g60 nop_le hb (by omega) hBB (by omega) z10 (fun q => by omega) (fun m1 body hent E4 hE4 => ?_) (fun f hf E4 hE4 => ?_)
          · simp only [sb_v, sw_some]
            rw [hent] at hok her
            dsimp only at hok her
            refine r159_aft (D0 := D0) (n := n) hHG g54 hFG gS hdG (by rw [hlen]; omega) (fun o' ho' => ?_) ?_ h40 hb (by omega) hBB rfl hent hE4 (fun st1 E5 hst1 hI5 => ?_) (fun f hf E5 hE5 => ?_)
            · rcases List.mem_cons.mp ho' with rfl | w
              · exact ⟨⟨z1, z2, by dsimp only; omega, by dsimp only; omega, hdo.2.1, u', z6, z7⟩, z8, fun q g => z9 q (by dsimp only at g; omega), by dsimp only; omega⟩
              · obtain ⟨v1, v2, v3, v4⟩ := ho o' (hsub o' (List.mem_cons_of_mem _ w))
                have := (List.pairwise_cons.mp hpw2).1 o' w
                exact ⟨v1, v2, v3, by omega⟩
            · rw [List.pairwise_cons] at hpw2 ⊢
              exact ⟨hpw2.1, hpw2.2⟩
            · rw [hst1] at hok her
              have hl1 := hE4.2.2.2.2.2.2.1
              exact ih m1 st1 E5 (by omega) hI5 hok her
            · rw [hf] at her
              exact her f rfl E5 hE5
          · simp only [sb_v, sw_some]
            rw [hf] at her
            have hE5 := hE4.of hFG
            exact r159_e hX hE5 (her f rfl E4 hE5)
        have c258 : sw (sm_fx C 159 258 [.ref (X + 49), .int (ni (nop r)), .int (ni o.1), sm_junk, .int (ni o.2.2.2.1), sm_junk] [.int (ni (max o.2.2.2.1 (d.1 - 2)))] E') Q := by
          refine sw_ge (n159_258 hX) ?_
          have u1 : sm_up E'.1 (X + 87) (nop r) (ni d.2.1) (X + 49) 65 = ni d.1 := by rw [up_ne (by omega)]; exact k65
          have u2 : sm_up (sm_up E'.1 (X + 87) (nop r) (ni d.2.1)) (X + 88) (nop r) (ni d.1) (X + 49) 66 = ni d.2.1 := by rw [up_ne (by omega), up_ne (by omega)]; exact k66
          have u3 : sm_up (sm_up (sm_up E'.1 (X + 87) (nop r) (ni d.2.1)) (X + 88) (nop r) (ni d.1)) (X + 86) (nop r) (ni d.2.1) (X + 49) 67 = md_b d.2.2 := by rw [up_ne (by omega), up_ne (by omega), up_ne (by omega)]; exact k67
          have u4 : sm_up (sm_up (sm_up E'.1 (X + 87) (nop r) (ni d.2.1)) (X + 88) (nop r) (ni d.1)) (X + 86) (nop r) (ni d.2.1) (X + 49) 60 = ni (nop r + 1) := by rw [up_ne (by omega), up_ne (by omega), up_ne (by omega)]; exact k60
          simp (disch := omega) only [sw_gu, ni_in, ni_nat, k66, u1, u2, u3, u4, sw_ite, ni_sub, Nat.add_sub_cancel]
          refine ⟨decide_eq_true hn8, decide_eq_true hn8, decide_eq_true hn8, ?_⟩
          have f3 : fr (sLp X) E (sm_dI (sm_dI (sm_dI E' (X + 87) (nop r) (ni d.2.1)) (X + 88) (nop r) (ni d.1)) (X + 86) (nop r) (ni d.2.1)) := ((hf2.dI (by unfold sLp; omega)).dI (by unfold sLp; omega)).dI (by unfold sLp; omega)
          have g8 : (sm_dI (sm_dI (sm_dI E' (X + 87) (nop r) (ni d.2.1)) (X + 88) (nop r) (ni d.1)) (X + 86) (nop r) (ni d.2.1)).1 (X + 49) 8 = sm_k (-1) := by rw [dI_ne (by omega), dI_ne (by omega), dI_ne (by omega), hs _ _ (by unfold sDe; omega)]; exact h8
          have rest : ∀ c j, X + 84 ≤ c → j < nop r → (sm_dI (sm_dI (sm_dI E' (X + 87) (nop r) (ni d.2.1)) (X + 88) (nop r) (ni d.1)) (X + 86) (nop r) (ni d.2.1)).1 c j = E.1 c j := fun c j hc hj => by
            rw [dI_ne (by omega), dI_ne (by omega), dI_ne (by omega), hs _ _ (by unfold sDe; omega)]
          cases hcl : d.2.2
          · rw [if_pos (show md_b false = ni 0 from rfl)]
            refine part _ f3 g8 ?_ ⟨fun _ => ⟨?_, ?_, ?_, ?_, ?_⟩, hS2.2.of (fun c j c1 _ hj => rest c j c1 hj)⟩
            · conv => rhs; unfold nop
              dsimp only
              rw [hcl, if_neg Bool.false_ne_true]
              exact u4
            · rw [dI_ne (by omega), dI_ne (by omega), dI_ne (by omega), hs _ _ (by unfold sDe; omega)]; exact s1
            · rw [dI_ne (by omega), dI_ne (by omega), dI_ne (by omega), hs _ _ (by unfold sDe; omega)]; exact s2
            · exact dI_eq
            · rw [dI_ne (by omega), dI_ne (by omega), dI_eq]
            · rw [dI_ne (by omega), dI_eq]
          · rw [if_neg (show ¬ (md_b true = ni 0) by decide)]
            refine part _ (f3.dI (Or.inr (Or.inl ⟨rfl, Or.inr rfl⟩))) (by rw [dI_ne (by omega)]; exact g8) ?_ ⟨fun z => ?_, hS2.2.of (fun c j c1 _ hj => by rw [dI_ne (by omega)]; exact rest c j c1 hj)⟩
            · conv => rhs; unfold nop
              dsimp only
              rw [hcl, if_pos rfl]
              exact up_eq
            · dsimp only at z
              rw [hcl] at z
              exact nomatch z
        simp (disch := omega) only [sb_i, sw_ite, sw_gu, ni_in, ni_nat, k87, k65, ni_le, ni_sub]
        rw [if_neg (show ¬ (ni 1 = ni 0) by decide), if_neg (by rw [ni_ne_k (by omega)]; exact id)]
        refine ⟨decide_eq_true hn8, decide_eq_true hn8, ?_⟩
        by_cases hle : d.1 ≤ o.2.2.2.1
        · rw [if_pos hle]
          rw [show max o.2.2.2.1 (d.1 - 2) = o.2.2.2.1 from by omega] at c258
          exact c258
        · rw [if_neg hle]
          rcases md_del_line hd with w | w
          · omega
          · rw [show max o.2.2.2.1 (d.1 - 2) = d.1 - 2 from by omega] at c258
            exact c258
/-- a message is read -/
theorem r159 (hH : rH C X T N D) (h4 : D.1 (X + 49) 4 = ni N) (h54 : D.1 (X + 49) 54 = ni 0)
    (hok : ∀ m, md_read T N = .ok m → ∀ E' l', rF2 X D E' → RM X T N E' m l' → E'.1 (X + 49) 8 = sm_k (-1) → l'.length ≤ 16400 → 1 ≤ m.1.length → Q (.inl none) E')
    (her : ∀ f, md_read T N = .error f → ∀ E', rE2 X D f E' → Q (.inl none) E') :
    sw (sm_fe C 159 [.ref (X + 49)] D) Q := by
  have hX := hH.1
  have hN := hH.2.2.1
  refine sw_ge (f159 hX) ?_
  have i0 : sm_in_b (ni 0) 2 = true := by decide
  have i1 : sm_in_b (ni 1) 2 = true := by decide
  have t0 : (ni 0).toNatClampNeg = 0 := by decide
  have t1 : (ni 1).toNatClampNeg = 1 := by decide
  simp only [sw_gu, i0, i1, t0, t1, true_and, sw_bv]
  generalize hG : sm_dI (sm_dI (sm_dI (sm_dI (sm_dI (sm_dJ (sm_dI (sm_dI (sm_dI (sm_dI (sm_dI D (X + 49) 9 (ni 0)) (X + 49) 28 (ni 0)) (X + 49) 20 (ni 0)) (X + 49) 34 (ni 0)) (X + 49) 36 (ni 0)) (X + 49) 38 (Int64.ofNat 0)) (X + 49) 39 (ni 0)) (X + 77) 0 (ni 0)) (X + 77) 1 (ni 0)) (X + 49) 60 (ni 0)) (X + 49) 8 (sm_k (-1)) = G
  have gF : rF2 X D G := by
    rw [← hG]
    refine rF2.dI (rF2.dI (rF2.dI (rF2.dI (rF2.dI ?_ (by unfold rR2; omega)) (by unfold rR2; omega)) (by unfold rR2; omega)) (by unfold rR2; omega)) (by unfold rR2; omega)
    have : rF2 X D (sm_dI (sm_dI (sm_dI (sm_dI (sm_dI D (X + 49) 9 (ni 0)) (X + 49) 28 (ni 0)) (X + 49) 20 (ni 0)) (X + 49) 34 (ni 0)) (X + 49) 36 (ni 0)) := ((((rF2.refl.dI (by unfold rR2; omega)).dI (by unfold rR2; omega)).dI (by unfold rR2; omega)).dI (by unfold rR2; omega)).dI (by unfold rR2; omega)
    exact ⟨this.1, this.2.1, fun c j hc => (up_ne hc).trans (this.2.2 c j hc)⟩
  have jj : ∀ {H : sm_D} {v : Int64} {c j : Nat}, (sm_dJ H (X + 49) 38 v).1 c j = H.1 c j := rfl
  have g9 : G.1 (X + 49) 9 = ni 0 := by rw [← hG, dI_ne (by omega), dI_ne (by omega), dI_ne (by omega), dI_ne (by omega), dI_ne (by omega), jj, dI_ne (by omega), dI_ne (by omega), dI_ne (by omega), dI_ne (by omega), dI_eq]
  have g28 : G.1 (X + 49) 28 = ni 0 := by rw [← hG, dI_ne (by omega), dI_ne (by omega), dI_ne (by omega), dI_ne (by omega), dI_ne (by omega), jj, dI_ne (by omega), dI_ne (by omega), dI_ne (by omega), dI_eq]
  have g20 : G.1 (X + 49) 20 = ni 0 := by rw [← hG, dI_ne (by omega), dI_ne (by omega), dI_ne (by omega), dI_ne (by omega), dI_ne (by omega), jj, dI_ne (by omega), dI_ne (by omega), dI_eq]
  have g34 : G.1 (X + 49) 34 = ni 0 := by rw [← hG, dI_ne (by omega), dI_ne (by omega), dI_ne (by omega), dI_ne (by omega), dI_ne (by omega), jj, dI_ne (by omega), dI_eq]
  have g36 : G.1 (X + 49) 36 = ni 0 := by rw [← hG, dI_ne (by omega), dI_ne (by omega), dI_ne (by omega), dI_ne (by omega), dI_ne (by omega), jj, dI_eq]
  have g39 : G.1 (X + 49) 39 = ni 0 := by rw [← hG, dI_ne (by omega), dI_ne (by omega), dI_ne (by omega), dI_ne (by omega), dI_eq]
  have g770 : G.1 (X + 77) 0 = ni 0 := by rw [← hG, dI_ne (by omega), dI_ne (by omega), dI_ne (by omega), dI_eq]
  have g771 : G.1 (X + 77) 1 = ni 0 := by rw [← hG, dI_ne (by omega), dI_ne (by omega), dI_eq]
  have g60 : G.1 (X + 49) 60 = ni 0 := by rw [← hG, dI_ne (by omega), dI_eq]
  have g8 : G.1 (X + 49) 8 = sm_k (-1) := by rw [← hG, dI_eq]
  have g38 : G.2.1 (X + 49) 38 = Int64.ofInt 0 := by rw [← hG]; show sm_up _ _ _ _ _ _ = _; rw [up_eq]; rfl
  clear hG
  have hHG : rH C X T N G := ⟨hH.1, hH.2.1, hH.2.2.1, fun k hk => by rw [gF.2.1 _ _ (by unfold rR2; omega)]; exact hH.2.2.2.1 k hk, hH.2.2.2.2⟩
  have g4 : G.1 (X + 49) 4 = ni N := by rw [gF.2.1 _ _ (by unfold rR2; omega)]; exact h4
  have g54 : G.1 (X + 49) 54 = ni 0 := by rw [gF.2.1 _ _ (by unfold rR2; omega)]; exact h54
  unfold md_read at hok her
  refine r160 hHG g8 g4 (fun h0 => ?_) (fun f hf hfN => ?_)
  · rw [h0] at hok her
    dsimp only at hok her
    have hL : LN T N := fun i hi h13 => md_lns_LN h0 i (Nat.zero_le _) hi h13
    have hL2 : LN2 T N := fun i hi h10 => md_lns_LN2 h0 (Or.inl rfl) i (Nat.zero_le _) hi h10
    simp only [sb_v, sw_ite, sw_bv]
    rw [if_pos g8, g4]
    have hM : RM X T N G ([], [], (0, 0), fun _ => []) [] := ⟨g9, g28, by decide, by decide, ⟨g20, fun k hk => by cases hk⟩, ⟨g34, fun k hk => by cases hk⟩, (fun j u hj => by cases hj), ⟨g36, fun k hk => by cases hk⟩, ⟨g38, g39⟩, ⟨g770, by decide, fun n w hw => by cases hw⟩, ⟨g771, by decide, fun n w hw => by cases hw⟩⟩
    have hBB : BB T 0 N := fun q _ hq h13 => by have := (hL q hq h13).1; omega
    rw [md_msg_cont] at hok her
    rw [show (ni 0) = ni 0 from rfl]
    refine r163 (s := 0) (dep := 0) hL hL2 hHG g8 g54 hM (by decide) (Or.inl ⟨rfl, rfl⟩) (by decide) g60 (Nat.le_refl _) (Nat.le_refl _) (Nat.zero_le _) hBB (by decide) (by decide) (fun _ => ⟨rfl, fun _ => rfl⟩) (fun m1 body hent E4 hE4 => ?_) (fun f hf E4 hE4 => ?_)
    · simp only [sb_v]
      dsimp only [List.length_nil] at hok her
      rw [hent] at hok her
      dsimp only at hok her
      refine r159_aft (D0 := D) (n := 39) (st := []) hHG g54 gF trivial trivial (by decide) (fun o ho => by cases ho) List.Pairwise.nil (by decide) (Nat.le_refl _) (Nat.zero_le _) hBB rfl hent hE4 (fun st1 E5 hst1 hI5 => ?_) (fun f hf E5 hE5 => ?_)
      · rw [hst1] at hok her
        have hl1 := hE4.2.2.2.2.2.2.1
        dsimp only [List.length_nil] at hl1
        exact r159_81 hL hL2 39 m1 st1 E5 (by omega) hI5 hok her
      · rw [hf] at her
        exact her f rfl E5 hE5
    · simp only [sb_v]
      dsimp only [List.length_nil] at her
      rw [hf] at her
      have hE5 := hE4.of gF
      exact r159_e hX hE5 (her f rfl E4 hE5)
  · rw [hf] at her
    have hE2 : rE2 X D f (sm_dI G (X + 49) 8 (ni f)) := ⟨by omega, dI_eq, gF.dI (by unfold rR2; omega)⟩
    simp only [sb_v, sw_ite]
    rw [if_neg (by rw [hE2.ne]; exact id)]
    exact r159_e hX hE2 (her f rfl _ hE2)
end RHI
