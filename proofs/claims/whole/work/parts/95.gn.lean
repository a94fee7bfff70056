/-- the addresses of a kind -/
def RA (X wh : Nat) (as : List (List Int32 × List Int32 × List Int32)) (l : List Int32) (D : sm_D) : Prop := D.1 (X + 77) wh = ni as.length ∧ as.length ≤ 10 ∧ ∀ n w, as[n]? = some w → SLT l (D.1 (X + 78) (30 * wh + 3 * n)) (D.1 (X + 79) (30 * wh + 3 * n)) w.1 ∧ SLT l (D.1 (X + 78) (30 * wh + 3 * n + 1)) (D.1 (X + 79) (30 * wh + 3 * n + 1)) w.2.1 ∧ SLT l (D.1 (X + 78) (30 * wh + 3 * n + 2)) (D.1 (X + 79) (30 * wh + 3 * n + 2)) w.2.2
def sAb (X wh c j : Nat) : Prop := (c = X + 49 ∧ j = 53) ∨ (c = X + 77 ∧ j = wh) ∨ ((c = X + 78 ∨ c = X + 79) ∧ 30 * wh ≤ j ∧ j < 30 * wh + 30)
def sAd (X wh c j : Nat) : Prop := rsc X c j ∨ (c = X + 49 ∧ j = 47) ∨ sAb X wh c j
section RGN
variable {C : sm_K} {X N e q wh : Nat} {T : Nat → Int32} {D B E : sm_D} {Q : (Option Value ⊕ Nat) → sm_D → Prop} {l : List Int32} {b a z : Int32} {as : List (List Int32 × List Int32 × List Int32)}
theorem RA.mono {m : List Int32} (h : RA X wh as l D) : RA X wh as (l ++ m) D := ⟨h.1, h.2.1, fun n w hw => ⟨(h.2.2 n w hw).1.mono, (h.2.2 n w hw).2.1.mono, (h.2.2 n w hw).2.2.mono⟩⟩
theorem RA.of (h : RA X wh as l D) (g : ∀ c j, (c = X + 77 ∧ j = wh) ∨ ((c = X + 78 ∨ c = X + 79) ∧ 30 * wh ≤ j ∧ j < 30 * wh + 3 * as.length) → E.1 c j = D.1 c j) : RA X wh as l E := by
  refine ⟨by rw [g _ _ (Or.inl ⟨rfl, rfl⟩)]; exact h.1, h.2.1, fun n w hw => ?_⟩
  have hn : n < as.length := by
    rcases Nat.lt_or_ge n as.length with h1 | h1
    · exact h1
    · rw [List.getElem?_eq_none h1] at hw; cases hw
  rw [g (X + 78) _ (Or.inr (by omega)), g (X + 79) _ (Or.inr (by omega)), g (X + 78) _ (Or.inr (by omega)), g (X + 79) _ (Or.inr (by omega)), g (X + 78) _ (Or.inr (by omega)), g (X + 79) _ (Or.inr (by omega))]
  exact h.2.2 n w hw
theorem r206 (h : rW C X T N e D) (hwh : wh < 2) (h54 : D.1 (X + 49) 54 = ni 0) (hA : RA X wh as l D) (h10 : as.length < 10) (hs : RS X D q l b a z E) (hq : ro T e q) (hl : l.length + 2 * (e - q) ≤ 24000)
    (hok : ∀ w p', md_adr T e q = (md_space T e 0 p').map (fun p2 => (w, p2)) → ro T e p' → ∀ B' E' m b' a' z', RS X B' p' (l ++ m) b' a' z' E' → fr (sAb X wh) D B' → RA X wh (as ++ [w]) (l ++ m) B' → m.length + 2 * (e - p') ≤ 2 * (e - q) → Q (.inl none) E')
    (her : ∀ f, md_adr T e q = .error f → ∀ E', rX X D f E' → Q (.inl none) E') :
    sw (sm_fe C 206 [.ref (X + 49), .int (ni wh)] E) Q := by
  have hX := h.1.1
  have e77 : E.1 (X + 77) wh = ni as.length := by rw [hs.o (by unfold rsc; omega)]; exact hA.1
  have hk : 30 * wh + 3 * as.length + 2 < 60 := by omega
  have sub : ∀ c j, sAb X wh c j → rRR X c j := by intro c j; unfold sAb rRR; omega
  refine sw_ge (f206 hX) ?_
  have e77' : sm_up E.1 (X + 49) 53 (ni (30 * wh + 3 * as.length)) (X + 77) wh = ni as.length := by rw [up_ne (by omega), e77]
  simp (disch := omega) only [sw_gu, ni_in, ni_nat, e77, ni_mul, ni_add, e77', sw_bv]
  have hs2 := (hs.dI (c := X + 49) (j := 53) (ni (30 * wh + 3 * as.length)) (by unfold rsc; omega)).dI (c := X + 77) (j := wh) (ni (as.length + 1)) (by unfold rsc; omega)
  have hfr : fr (sAb X wh) D (sm_dI (sm_dI D (X + 49) 53 (ni (30 * wh + 3 * as.length))) (X + 77) wh (ni (as.length + 1))) := (fr.refl.dI (by unfold sAb; omega)).dI (by unfold sAb; omega)
  have d53 : (sm_dI (sm_dI D (X + 49) 53 (ni (30 * wh + 3 * as.length))) (X + 77) wh (ni (as.length + 1))).1 (X + 49) 53 = ni (30 * wh + 3 * as.length) := by rw [dI_ne (by omega), dI_eq]
  have d54 : (sm_dI (sm_dI D (X + 49) 53 (ni (30 * wh + 3 * as.length))) (X + 77) wh (ni (as.length + 1))).1 (X + 49) 54 = ni 0 := by rw [dI_ne (by omega), dI_ne (by omega), h54]
  have d77 : (sm_dI (sm_dI D (X + 49) 53 (ni (30 * wh + 3 * as.length))) (X + 77) wh (ni (as.length + 1))).1 (X + 77) wh = ni (as.length + 1) := dI_eq
  have dold : ∀ c j, (c = X + 78 ∨ c = X + 79) → (sm_dI (sm_dI D (X + 49) 53 (ni (30 * wh + 3 * as.length))) (X + 77) wh (ni (as.length + 1))).1 c j = D.1 c j := fun c j hc => by rw [dI_ne (by omega), dI_ne (by omega)]
  have hW2 : rW C X T N e (sm_dI (sm_dI D (X + 49) 53 (ni (30 * wh + 3 * as.length))) (X + 77) wh (ni (as.length + 1))) := hfr.W h (fun c j hc => by unfold sAb at hc; omega)
  have e20 : sm_up (sm_up E.1 (X + 49) 53 (ni (30 * wh + 3 * as.length))) (X + 77) wh (ni (as.length + 1)) (X + 49) 20 = ni l.length := hs2.2.2.1
  rw [e20]
  generalize sm_dI (sm_dI D (X + 49) 53 (ni (30 * wh + 3 * as.length))) (X + 77) wh (ni (as.length + 1)) = D2 at hs2 hfr d53 d54 d77 dold hW2
  generalize sm_dI (sm_dI E (X + 49) 53 (ni (30 * wh + 3 * as.length))) (X + 77) wh (ni (as.length + 1)) = E2 at hs2
  refine ⟨decide_eq_true hwh, decide_eq_true hwh, decide_eq_true hwh, ?_⟩
  rw [r207 hX (k := 30 * wh + 3 * as.length) (by rw [hs2.o (by unfold rsc; omega), d53]) (j := 0) (by omega), sw_some, Nat.add_zero]
  simp only [sb_v]
  have hs3 := hs2.pc (30 * wh + 3 * as.length) (ni l.length) (ni 0)
  refine r206_44 (pc_W hW2) (by rw [pc_o (by omega), d53]) hk (by rw [pc_o (by omega), d54]) hs3 hq hl (fun w p' g1 o' B' E' m b' a' z' hE' hfr' s1 s2 s3 hb => ?_) (fun f g1 E' hE' => her f g1 E' (hE'.of ((hfr.Fr sub).trans pc_F)))
  have dd : ∀ c j, ¬ ((c = X + 78 ∨ c = X + 79) ∧ 30 * wh + 3 * as.length ≤ j ∧ j < 30 * wh + 3 * as.length + 3) → B'.1 c j = D2.1 c j := fun c j hc => by
    rw [hfr'.2 c j (fun g => hc g), pc_o (by omega)]
  refine hok w p' g1 o' B' E' m b' a' z' hE' ?_ ?_ hb
  · exact ⟨by rw [hfr'.1]; exact hfr.1, fun c j hc => by rw [dd c j (fun g => hc (by unfold sAb; omega)), hfr.2 c j hc]⟩
  · have hA2 : RA X wh as (l ++ m) D := hA.mono
    refine ⟨by rw [dd _ _ (by omega), d77, List.length_append]; rfl, by rw [List.length_append, List.length_singleton]; omega, fun n u hu => ?_⟩
    by_cases hn : n < as.length
    · rw [List.getElem?_append_left hn] at hu
      have r : ∀ c j, (c = X + 78 ∨ c = X + 79) → j < 30 * wh + 3 * as.length → B'.1 c j = D.1 c j := fun c j h1 h2 => by rw [dd c j (by omega), dold c j h1]
      rw [r _ _ (by omega) (by omega), r _ _ (by omega) (by omega), r _ _ (by omega) (by omega), r _ _ (by omega) (by omega), r _ _ (by omega) (by omega), r _ _ (by omega) (by omega)]
      exact hA2.2.2 n u hu
    · rw [List.getElem?_append_right (by omega)] at hu
      have hn2 : n = as.length := by
        rcases Nat.lt_or_ge (n - as.length) 1 with g | g
        · omega
        · rw [List.getElem?_eq_none (by rw [List.length_singleton]; exact g)] at hu; cases hu
      subst hn2
      rw [Nat.sub_self] at hu
      cases hu
      exact ⟨s1, s2, s3⟩
/-- all of a field -/
theorem r205 (h : rH C X T N D) (h8 : D.1 (X + 49) 8 = sm_k (-1)) (h54 : D.1 (X + 49) 54 = ni 0) (hT : RT X l D) {f c y : Nat} (hf : FT X T N f c y D) (hwh : wh < 2) (h77 : D.1 (X + 77) wh = ni 0) (hl : l.length + 2 * (y - c) ≤ 24000)
    (hok : ∀ as, md_adrs T y 10 [] (md_go T y (c + 1)) = .ok as → ∀ E' m, fr (sAd X wh) D E' → RT X (l ++ m) E' → RA X wh as (l ++ m) E' → (l ++ m).length ≤ l.length + 2 * (y - c) → Q (.inl none) E')
    (her : ∀ f, md_adrs T y 10 [] (md_go T y (c + 1)) = .error f → ∀ E', rE X D f E' → Q (.inl none) E') :
    sw (sm_fe C 205 [.ref (X + 49), .int (ni wh), .int (ni f)] D) Q := by
  have hX := h.1
  have hN := h.2.2.1
  have hyN := hf.2.2.2.2.1
  have hcy := hf.2.2.2.1
  have hro := hf.ro
  have hle := md_go_le (T := T) (show c + 1 ≤ y by omega)
  have subB : ∀ c j, sAb X wh c j → rRR X c j := by intro c j; unfold sAb rRR; omega
  have x97 : ∀ {E : sm_D} {f : Nat}, rX X D f E → Q (.inl none) E → sw (sm_fx C 205 97 [.ref (X + 49), sm_junk, sm_junk, sm_junk] [] E) Q := by
    intro E f hE hQ
    refine sw_ge (n205_97 hX) ?_
    simp only [sw_bv, r191x hX hE.ne, sw_some, sb_v]
    exact hQ
  have x7 : ∀ {E : sm_D} {f : Nat} {v3 : Int32}, rX X D f E → Q (.inl none) E → sw (sm_fx C 205 7 [.ref (X + 49), .int (ni wh), sm_junk, .int v3] [] E) Q := by
    intro E f v3 hE hQ
    refine sw_ge (n205_7 hX) ?_
    simp only [sw_ite, hE.ne, if_false]
    split <;> exact x97 hE hQ
  have x59 : ∀ {E : sm_D} {f : Nat}, rX X D f E → Q (.inl none) E → sw (sm_fx C 205 59 [.ref (X + 49), .int (ni wh), sm_junk, sm_junk] [] E) Q := by
    intro E f hE hQ
    refine sw_ge (n205_59 hX) ?_
    simp only [sw_bv, r199x hX hE.ne, sw_some, sb_v, sw_ite, hE.ne, if_false]
    refine sw_ge (n205_84 hX) ?_
    refine sw_ge (n205_85 hX) ?_
    simp only [sw_ite, if_true]
    exact x7 hE hQ
  have x46 : ∀ {E : sm_D} {f : Nat}, rX X D f E → Q (.inl none) E → sw (sm_fx C 205 46 [.ref (X + 49), .int (ni wh), sm_junk, sm_junk] [] E) Q := by
    intro E f hE hQ
    refine sw_ge (n205_46 hX) ?_
    simp only [sw_ite, hE.ne, if_false]
    exact x59 hE hQ
  refine sw_ge (f205 hX) ?_
  simp only [sw_bv]
  refine r176' h h8 hT hf (fun E1 hW hE1 => ?_)
  have hF1 : rF X D (sm_dI D (X + 49) 47 (ni y)) := rF.refl.dI (Or.inl (by omega))
  have hA0 : RA X wh [] l (sm_dI D (X + 49) 47 (ni y)) := ⟨by rw [dI_ne (by omega), h77]; rfl, by decide, fun n w hw => by cases hw⟩
  have h54' : (sm_dI D (X + 49) 47 (ni y)).1 (X + 49) 54 = ni 0 := by rw [dI_ne (by omega), h54]
  have hfr0 : ∀ c j, ¬ sAd X wh c j → (sm_dI D (X + 49) 47 (ni y)).1 c j = D.1 c j := fun c j hc => dI_ne (fun g => hc (by unfold sAd; omega))
  have h20 : (sm_dI D (X + 49) 47 (ni y)).2 = D.2 := rfl
  generalize sm_dI D (X + 49) 47 (ni y) = D1 at hW hE1 hF1 hA0 h54' hfr0 h20
  simp only [sb_v]
  have loop : ∀ (n p : Nat) (as : List (List Int32 × List Int32 × List Int32)) (m : List Int32) (B E : sm_D) (b a z : Int32), as.length + n = 10 → rW C X T N y B → fr (sAb X wh) D1 B → B.1 (X + 49) 54 = ni 0 → RA X wh as (l ++ m) B → RS X B p (l ++ m) b a z E → ro T y p → (l ++ m).length + 2 * (y - p) ≤ l.length + 2 * (y - c) →
      (∀ as', md_adrs T y n as p = .ok as' → ∀ E' m', fr (sAd X wh) D E' → RT X (l ++ m') E' → RA X wh as' (l ++ m') E' → (l ++ m').length ≤ l.length + 2 * (y - c) → Q (.inl none) E') →
      (∀ f, md_adrs T y n as p = .error f → ∀ E', rX X D f E' → Q (.inl none) E') →
      sw (sm_fx C 205 7 [.ref (X + 49), .int (ni wh), sm_junk, .int (ni 1)] [] E) Q := by
    intro n
    induction n with
    | zero =>
      intro p as m B E b a z hn hB hfr hb54 hA hs hp hlen hok her
      have hFB : rF X D B := hF1.trans (hfr.Fr subB)
      have e77 : ∀ {q : Nat} {l : List Int32} {b a z : Int32} {E : sm_D}, RS X B q l b a z E → E.1 (X + 77) wh = ni as.length := fun g => by rw [g.o (by unfold rsc; omega)]; exact hA.1
      unfold md_adrs at her
      refine sw_ge (n205_7 hX) ?_
      simp only [sw_ite, ni_10, if_false, (hs.W hB).2.2.2, if_true, sw_bv]
      refine r178 hB hs hp.1 (fun p1 h1 E2 hE2 => ?_) (fun f h1 E2 hE2 => ?_)
      · obtain ⟨o1, l1⟩ := md_space_ok hp.1 h1
        simp only [h1, bind, Except.bind] at her
        simp (disch := omega) only [sb_v, sw_ite, (hE2.W hB).2.2.2, if_true, sw_gu, ni_in, ni_nat, e77 hE2, ni_inj, sw_bv]
        rw [if_pos (by omega)]
        refine ⟨decide_eq_true hwh, ?_⟩
        refine r180b hB hE2 o1.1 (fun E3 hE3 => ?_)
        simp only [sb_v]
        exact x46 (hE3.of hFB) (her p1 rfl _ (hE3.of hFB))
      · simp only [sb_v, sw_ite, hE2.ne, if_false]
        exact x46 (hE2.of hFB) (her f (by rw [h1]; rfl) _ (hE2.of hFB))
    | succ n ih =>
      intro p as m B E b a z hn hB hfr hb54 hA hs hp hlen hok her
      have hFB : rF X D B := hF1.trans (hfr.Fr subB)
      have e77 : ∀ {q : Nat} {l : List Int32} {b a z : Int32} {E : sm_D}, RS X B q l b a z E → E.1 (X + 77) wh = ni as.length := fun g => by rw [g.o (by unfold rsc; omega)]; exact hA.1
      unfold md_adrs at hok her
      refine sw_ge (n205_7 hX) ?_
      simp only [sw_ite, ni_10, if_false, (hs.W hB).2.2.2, if_true, sw_bv]
      refine r178 hB hs hp.1 (fun p1 h1 E2 hE2 => ?_) (fun f h1 E2 hE2 => ?_)
      rotate_left
      · simp only [sb_v, sw_ite, hE2.ne, if_false]
        exact x46 (hE2.of hFB) (her f (by rw [h1]; rfl) _ (hE2.of hFB))
      obtain ⟨o1, l1⟩ := md_space_ok hp.1 h1
      have o1e := o1.1
      have q1 := hp.le o1 l1
      simp only [h1, bind, Except.bind] at hok her
      simp (disch := omega) only [sb_v, sw_ite, (hE2.W hB).2.2.2, if_true, sw_gu, ni_in, ni_nat, e77 hE2, ni_inj, sw_bv]
      rw [if_neg (by omega)]
      refine ⟨decide_eq_true hwh, ?_⟩
      refine sw_ge (n205_46 hX) ?_
      simp only [sw_ite, (hE2.W hB).2.2.2, if_true, sw_bv]
      refine r206 hB hwh hb54 hA (by omega) hE2 q1 (by omega) (fun w p' g1 o' B' E' m' b' a' z' hE' hfr' hA' hb => ?_) (fun f g1 E' hE' => ?_)
      rotate_left
      · simp only [sb_v]
        exact x59 (hE'.of hFB) (her f (by rw [g1]) _ (hE'.of hFB))
      have hB' : rW C X T N y B' := hfr'.W hB (fun c j hc => by unfold sAb at hc; omega)
      have hFB' : rF X D B' := hFB.trans (hfr'.Fr subB)
      rw [g1] at hok her
      rw [List.append_assoc] at hE' hA'
      simp only [sb_v]
      refine sw_ge (n205_59 hX) ?_
      simp only [sw_bv]
      refine r199 hB' hE' o'.1 (fun p2 h2 E3 hE3 => ?_) (fun f h2 E3 hE3 => ?_)
      rotate_left
      · simp only [sb_v, sw_ite, hE3.ne, if_false]
        refine sw_ge (n205_84 hX) ?_
        refine sw_ge (n205_85 hX) ?_
        simp only [sw_ite, if_true]
        exact x7 (hE3.of hFB') (her f (by rw [h2]; rfl) _ (hE3.of hFB'))
      obtain ⟨o2, l2⟩ := md_space_ok o'.1 h2
      have o2e := o2.1
      have o'e := o'.1.1
      have q2 := o'.le o2 l2
      simp only [h2, Except.map] at hok her
      have hlen' : (l ++ (m ++ m')).length + 2 * (y - p2) ≤ l.length + 2 * (y - c) := by
        rw [List.length_append, List.length_append]
        rw [List.length_append] at hlen
        omega
      simp only [sb_v, sw_ite, (hE3.W hB').2.2.2, if_true, sw_bi, hE3.cur hB' o2e, sw_some, sb_i, md_cu_is (show 44 < 2147483648 by omega)]
      by_cases h44 : p2 < y ∧ T p2 = ni 44
      · rw [if_pos h44]
        rw [if_pos h44.1] at hok her
        unfold md_eat at hok her
        simp only [if_pos h44] at hok her
        have hlt := md_nx_lt (T := T) h44.1
        refine sw_ge (n205_85 hX) ?_
        simp only [sw_ite, ni_10, if_false, sw_bv]
        refine r181 hB' hE3 o2 h44.1 (fun E4 hE4 => ?_)
        simp only [sb_v]
        exact ih _ (as ++ [w]) (m ++ m') B' E4 _ _ _ (by rw [List.length_append, List.length_singleton]; omega) hB' (hfr.trans hfr') (by rw [hfr'.2 _ _ (by unfold sAb; omega), hb54]) hA' hE4 q2.nx (by omega) hok her
      · rw [if_neg h44]
        refine sw_ge (n205_84 hX) ?_
        refine sw_ge (n205_85 hX) ?_
        simp only [sw_ite, if_true]
        refine sw_ge (n205_7 hX) ?_
        simp only [sw_ite, if_true]
        refine sw_ge (n205_97 hX) ?_
        simp only [sw_bv]
        refine r191 hB' hE3 o2 (fun h3 => ?_) (fun f h3 E4 hE4 => ?_)
        · have hge : ¬ p2 < y := fun g => by unfold md_end at h3; rw [if_pos g] at h3; cases h3
          rw [if_neg hge] at hok
          simp only [sb_v, sw_some]
          refine hok _ rfl E3 (m ++ m') ⟨?_, fun c j hc => ?_⟩ hE3.RT ?_ (by omega)
          · rw [hE3.1, hfr'.1, hfr.1, h20]
          · rw [hE3.o (fun g => hc (Or.inl g)), hfr'.2 c j (fun g => hc (Or.inr (Or.inr g))), hfr.2 c j (fun g => hc (Or.inr (Or.inr g))), hfr0 c j hc]
          · exact hA'.of (fun c j hc => by rw [hE3.o (by unfold rsc; omega)])
        · simp only [sb_v, sw_some]
          unfold md_end at h3
          by_cases hlt : p2 < y
          · rw [if_pos hlt] at h3 her
            cases h3
            unfold md_eat at her
            simp only [if_neg h44] at her
            exact her p2 rfl E4 (hE4.of hFB')
          · rw [if_neg hlt] at h3; cases h3
  exact loop 10 _ [] [] D1 E1 _ _ _ rfl hW fr.refl h54' (by rw [List.append_nil]; exact hA0) (by rw [List.append_nil]; exact hE1) hro (by rw [List.append_nil]; omega) hok (fun f hf E' hE => her f hf E' hE.1)
end RGN
