section CMI
variable {C : sm_K} {X t N : Nat} {T : Nat → Int32} {Q : (Option Value ⊕ Nat) → sm_D → Prop}
theorem TXa_fr {kd : Nat} {D E : sm_D} {σ σ' : Nat → List Int32} {l : List (List Int32 × List Int32 × List Int32)} (hk : kd = 5 ∨ kd = 6) (h : TXa t kd D σ l) (e1 : E.1 (t + 12) (kd - 5) = D.1 (t + 12) (kd - 5)) (e2 : ∀ k, 960 ≤ k → k < 1020 → σ' k = σ k) : TXa t kd E σ' l := by
  obtain ⟨a1, a2, a3, a4⟩ := h
  refine ⟨e1.trans a1, a2, fun m q hq => ?_, fun hl m hm => (e2 _ (by omega) (by omega)).trans (a4 hl m hm)⟩
  have hm10 : m < 10 := by
    rcases Nat.lt_or_ge m l.length with z | z
    · omega
    · rw [List.getElem?_eq_none z] at hq; cases hq
  obtain ⟨b1, b2, b3⟩ := a3 m q hq
  exact ⟨(e2 _ (by omega) (by omega)).trans b1, (e2 _ (by omega) (by omega)).trans b2, (e2 _ (by omega) (by omega)).trans b3⟩
/-- an open multipart stands right -/
def OK1 (N : Nat) (m : md_M) (o : md_O) : Prop := o.1 < m.1.length ∧ o.2.1 ≤ N ∧ 2 ≤ o.2.2.2.1 ∧ o.2.2.2.1 ≤ o.2.1 ∧ o.2.2.1 < o.2.2.2.1 ∧ ∃ u, m.1[o.1]? = some u ∧ md_bv u.2.2.1.2.2 = some (md_bnd m o.1)
def OKS (N b : Nat) (m : md_M) (st : List md_O) : Prop := st.length ≤ 6 ∧ (∀ o ∈ st, OK1 N m o ∧ b ≤ o.2.2.2.1) ∧ st.Pairwise (fun o o' => o.2.1 ≤ o'.2.2.2.1)
theorem OK1_app {m : md_M} {u : md_E} {r : List Int32 × (Int × Int) × md_A} {o : md_O} (h : OK1 N m o) : OK1 N (m.1 ++ [u], r) o := by
  obtain ⟨a1, a2, a3, a4, a5, v, a6, a7⟩ := h
  have e1 : ((m.1 ++ [u], r) : md_M).1[o.1]? = m.1[o.1]? := List.getElem?_append_left a1
  refine ⟨by dsimp only; rw [List.length_append]; omega, a2, a3, a4, a5, v, by rw [e1]; exact a6, ?_⟩
  rw [a7]
  unfold md_bnd
  rw [e1]
theorem md_type_bv {e dep p : Nat} {τ : md_Ty} (h : md_type T e dep p = .ok τ) (hm : md_Ty.multi τ = true) : dep < 6 ∧ ∃ v, md_bv τ.2.2 = some v := by
  unfold md_type at h
  cases h1 : md_space T e 0 p with
  | error x => rw [h1] at h; cases h
  | ok p1 =>
    simp only [h1, bind, Except.bind] at h
    cases h2 : md_word T e md_tok 0 p1 with
    | error x => simp only [h2] at h; cases h
    | ok a =>
      simp only [h2] at h
      cases h3 : md_space T e 0 a.2 with
      | error x => simp only [h3] at h; cases h
      | ok p3 =>
        simp only [h3] at h
        cases h4 : md_eat T e (ni 47) p3 with
        | error x => simp only [h4] at h; cases h
        | ok p4 =>
          simp only [h4] at h
          cases h5 : md_space T e 0 p4 with
          | error x => simp only [h5] at h; cases h
          | ok p5 =>
            simp only [h5] at h
            cases h6 : md_word T e md_tok 0 p5 with
            | error x => simp only [h6] at h; cases h
            | ok b =>
              simp only [h6] at h
              cases h7 : md_space T e 0 b.2 with
              | error x => simp only [h7] at h; cases h
              | ok p7 =>
                simp only [h7] at h
                cases h8 : md_pars T e 6 [] p7 with
                | error x => simp only [h8] at h; cases h
                | ok c =>
                  simp only [h8] at h
                  cases h9 : md_end e c.2 with
                  | error x => simp only [h9] at h; cases h
                  | ok d =>
                    simp only [h9] at h
                    split at h
                    · cases h
                    · next hno =>
                      cases h
                      have hmu : a.1.map md_sm = md_w "multipart" := beq_iff_eq.mp hm
                      by_cases hc : dep < 6 ∧ (md_bv c.1).any md_rb = true
                      · refine ⟨hc.1, ?_⟩
                        cases hv : md_bv c.1 with
                        | none => rw [hv] at hc; exact nomatch hc.2
                        | some v => exact ⟨v, rfl⟩
                      · exact absurd ⟨hmu, hc⟩ hno
theorem md_txts_ty {dep : Nat} {fs : List md_F} {x y : md_X} (h : md_txts T dep fs x = .ok y) (hx : x.1 = none) : ∀ τ, y.1 = some τ → md_Ty.multi τ = true → dep < 6 ∧ ∃ v, md_bv τ.2.2 = some v := by
  have key : ∀ (fs : List md_F) (x y : md_X), md_txts T dep fs x = .ok y → (∀ τ, x.1 = some τ → md_Ty.multi τ = true → dep < 6 ∧ ∃ v, md_bv τ.2.2 = some v) → ∀ τ, y.1 = some τ → md_Ty.multi τ = true → dep < 6 ∧ ∃ v, md_bv τ.2.2 = some v := by
    intro fs
    induction fs with
    | nil => intro x y hxy hp; unfold md_txts at hxy; cases hxy; exact hp
    | cons h fs ih =>
      intro x y hxy hp
      unfold md_txts at hxy
      cases g1 : md_txt1 T dep h x with
      | error q => rw [g1] at hxy; cases hxy
      | ok w =>
        rw [g1] at hxy
        refine ih w y hxy (fun τ hτ hm => ?_)
        unfold md_txt1 at g1
        by_cases k1 : h.1 = 1
        · rw [if_pos k1] at g1
          cases g2 : md_type T h.2.2.2 dep (md_go T h.2.2.2 (h.2.2.1 + 1)) with
          | error q => rw [g2] at g1; cases g1
          | ok q =>
            rw [g2] at g1
            cases g1
            cases hτ
            exact md_type_bv g2 hm
        · rw [if_neg k1] at g1
          have hx1 : x.1 = w.1 := by
            by_cases k2 : h.1 = 2
            · rw [if_pos k2] at g1
              cases g2 : md_code T h.2.2.2 (md_go T h.2.2.2 (h.2.2.1 + 1)) with
              | error q => rw [g2] at g1; cases g1
              | ok q => rw [g2] at g1; cases g1; rfl
            · rw [if_neg k2] at g1
              by_cases k3 : h.1 = 3
              · rw [if_pos k3] at g1; cases g1; rfl
              · rw [if_neg k3] at g1
                by_cases k4 : h.1 = 4
                · rw [if_pos k4] at g1
                  cases g2 : md_date T h.2.2.2 (md_go T h.2.2.2 (h.2.2.1 + 1)) with
                  | error q => rw [g2] at g1; cases g1
                  | ok q => rw [g2] at g1; cases g1; rfl
                · rw [if_neg k4] at g1
                  by_cases k5 : h.1 = 5 ∨ h.1 = 6
                  · rw [if_pos k5] at g1
                    cases g2 : md_adrs T h.2.2.2 10 [] (md_go T h.2.2.2 (h.2.2.1 + 1)) with
                    | error q => rw [g2] at g1; cases g1
                    | ok q => rw [g2] at g1; cases g1; rfl
                  · rw [if_neg k5] at g1; cases g1; rfl
          exact hp τ (hx1.trans hτ) hm
  exact key fs x y h (fun τ hτ => by rw [hx] at hτ; cases hτ)
theorem md_pln_len {b code q : Nat} {ys : List Int32} (h : md_pln T b code q = .ok ys) : ys.length ≤ b - q := by
  rw [md_pln] at h
  split at h
  · next g =>
    split at h
    · cases h
    · cases h1 : md_pln T b code (q + 1) with
      | error x => rw [h1] at h; cases h
      | ok zs =>
        rw [h1] at h
        cases h
        have := md_pln_len h1
        rw [List.length_cons]
        omega
  · cases h; exact Nat.zero_le _
termination_by b - q
theorem md_qp_len {b q : Nat} {ys : List Int32} (h : md_qp T b q = .ok ys) : ys.length ≤ b - q := by
  rw [md_qp] at h
  split at h
  · next g =>
    split at h
    · split at h
      · have := md_qp_len h
        omega
      · split at h
        · cases h1 : md_qp T b (q + 3) with
          | error x => rw [h1] at h; cases h
          | ok zs =>
            rw [h1] at h
            cases h
            have := md_qp_len h1
            rw [List.length_cons]
            omega
        · cases h
    · split at h
      · cases h1 : md_qp T b (q + 1) with
        | error x => rw [h1] at h; cases h
        | ok zs =>
          rw [h1] at h
          cases h
          have := md_qp_len h1
          rw [List.length_cons]
          omega
      · cases h
  · cases h; exact Nat.zero_le _
termination_by b - q
theorem md_b64_len {b : Nat} {v : Int32} {k pd last q : Nat} {ys : List Int32} (hJ : md_J k pd) (h : md_b64 T b v k pd last q = .ok ys) : ys.length ≤ (b - q) + k := by
  rw [md_b64] at h
  split at h
  · next g =>
    split at h
    · have := md_b64_len hJ h
      omega
    · cases htk : md_tk v k pd (T q) with
      | error bb => rw [htk] at h; cases bb <;> cases h
      | ok w =>
        obtain ⟨v', k', pd', xs⟩ := w
        rw [htk] at h
        dsimp only at h
        obtain ⟨t1, t2⟩ := md_tk_J hJ htk
        cases h1 : md_b64 T b v' k' pd' (if T q = ni 61 then last else q) (q + 1) with
        | error x => rw [h1] at h; cases h
        | ok zs =>
          rw [h1] at h
          cases h
          have := md_b64_len t1 h1
          rw [List.length_append]
          omega
  · split at h
    · cases h; exact Nat.zero_le _
    · cases h
termination_by b - q
theorem md_leaf_len {code a b : Nat} {ys : List Int32} (h : md_leaf T code a b = .ok ys) : ys.length ≤ b - a := by
  unfold md_leaf at h
  split at h
  · have := md_b64_len (⟨by omega, by omega⟩ : md_J 0 0) h; omega
  · split at h
    · exact md_qp_len h
    · exact md_pln_len h
theorem MG_cQ {m : md_M} {D E : sm_D} {σ : Nat → List Int32} (ht : t = X + 23 ∨ t = X + 36) (h : MG T t D σ m) (hq : cQ X D E) : MG T t E σ m := by
  obtain ⟨a1, a2, a3, a4, a5, a6, a7, a8, a9, a10⟩ := h
  have rr : ∀ a j, t ≤ a → E.1 a j = D.1 a j := fun a j ha => hq.2 a j (by omega)
  refine ⟨by rw [rr _ _ (by omega)]; exact a1, by rw [rr _ _ (by omega)]; exact a2, a3, a4, fun j u hj => ?_, a6, ⟨by rw [hq.1]; exact a7.1, by rw [rr _ _ (by omega)]; exact a7.2⟩, TXa_fr (Or.inl rfl) a8 (rr _ _ (by omega)) (fun _ _ _ => rfl), TXa_fr (Or.inr rfl) a9 (rr _ _ (by omega)) (fun _ _ _ => rfl), a10⟩
  obtain ⟨b1, ⟨c1, c2, c3, c4, c5⟩, ⟨d1, d2, d3, d4, d5, d6⟩, e1, e2⟩ := a5 j u hj
  exact ⟨by rw [rr _ _ (by omega)]; exact b1, ⟨by rw [rr _ _ (by omega)]; exact c1, by rw [rr _ _ (by omega)]; exact c2, c3, fun q h hq => by rw [rr _ _ (by omega)]; exact c4 q h hq, c5⟩, ⟨d1, d2, d3, d4, by rw [rr _ _ (by omega)]; exact d5, by rw [rr _ _ (by omega)]; exact d6⟩, by rw [rr _ _ (by omega)]; exact e1, e2⟩
def INV (C : sm_K) (X t : Nat) (T : Nat → Int32) (N : Nat) (D0 : sm_D) (m : md_M) (st : List md_O) (par : Int32) (a b : Nat) (D : sm_D) (f g : Nat → Int32) (σ : Nat → List Int32) (pl : List Int32) : Prop := cH C X t T N D ∧ cF X t D0 D ∧ MG T t D σ m ∧ STK X D st ∧ OKS N b m st ∧ SL f g pl σ ∧ (D.1 (X + 14) 7 = par ∧ D.1 (X + 14) 8 = ni a ∧ D.1 (X + 14) 9 = ni b) ∧ (a ≤ b ∧ b ≤ N ∧ (a < b → b < N → T b ≠ ni 10)) ∧ pl.length ≤ 2 * a + 9 * m.1.length ∧ (m.1.length = 0 → ∀ k, m.2.2.2 k = [])
def md_st1 (T : Nat → Int32) (m1 : md_M) (body b : Nat) (st : List md_O) : Except Nat (List md_O) := if md_last m1 then (md_open T m1 body b).map (fun o => o :: st) else .ok st
theorem c48_it (hM : sm_mv C) (hL : LN T N) {D0 : sm_D} {m : md_M} {st : List md_O} {par : Int32} {a b : Nat} {D : sm_D} {f g : Nat → Int32} {σ : Nat → List Int32} {pl : List Int32} {T0 : Nat → Int32} {e p : Nat} (hi : m.1.length < 40) (hI : INV C X t T N D0 m st par a b D f g σ pl)
    (hend : ∀ m1 body st1, md_ent T st.length par a b m = .ok (m1, body) → md_st1 T m1 body b st = .ok st1 → st1.dropWhile (fun o => o.2.2.2.2) = [] → ∀ D' f' g' pl' σ' T0' e' p', cF X t D0 D' → cH C X t T N D' → MG T t D' σ' m1 → SL f' g' pl' σ' → pl'.length ≤ 16400 → 1 ≤ m1.1.length → Q (.inl none) (cs X t T0' e' (ts t D' f' g') p' pl'))
    (hnext : ∀ m1 body st1 o r d, md_ent T st.length par a b m = .ok (m1, body) → md_st1 T m1 body b st = .ok st1 → st1.dropWhile (fun o => o.2.2.2.2) = o :: r → m1.1.length = m.1.length + 1 → m1.1.length < 40 → md_del T (md_bnd m1 o.1) o.2.1 o.2.2.2.1 = some d → ∀ D' f' g' pl' σ' T0' e' p', INV C X t T N D0 m1 ((o.1, o.2.1, d) :: r) (ni o.1) o.2.2.2.1 (max o.2.2.2.1 (d.1 - 2)) D' f' g' σ' pl' → sw (sm_fx C 48 17 [.ref (X + 4), .ref t, .int (ni (m.1.length + 1)), sm_junk] [] (cs X t T0' e' (ts t D' f' g') p' pl')) Q)
    (her : ∀ x z D', (md_ent T st.length par a b m = .error x ∨ (∃ m1 body, md_ent T st.length par a b m = .ok (m1, body) ∧ (md_st1 T m1 body b st = .error x ∨ ∃ st1 o r, md_st1 T m1 body b st = .ok st1 ∧ st1.dropWhile (fun o => o.2.2.2.2) = o :: r ∧ m1.1.length = m.1.length + 1 ∧ ((40 ≤ m1.1.length ∧ x = o.2.2.1) ∨ (m1.1.length < 40 ∧ md_del T (md_bnd m1 o.1) o.2.1 o.2.2.2.1 = none ∧ x = o.2.1))))) → cT X t D0 x z D' → Q (.inr z) D') :
    sw (sm_fx C 48 17 [.ref (X + 4), .ref t, .int (ni m.1.length), sm_junk] [] (cs X t T0 e (ts t D f g) p pl)) Q := by
  obtain ⟨hH, hF0, hG, hST, hO, hS, ⟨p7, p8, p9⟩, ⟨hab, hbN, hb10⟩, hpl, hA⟩ := hI
  have hX := hH.1
  have ht := hH.2.1
  have hN := hH.2.2.2.1
  have tr := (sm_tree_of hX ht).1
  obtain ⟨g11, g12, g40, g200, gE, gs, gd, g5, g6, gf⟩ := id hG
  obtain ⟨hst6, hsto, hstp⟩ := hO
  have r : ∀ {D : sm_D} {f g : Nat → Int32} {pl : List Int32} {T0 : Nat → Int32} {e p : Nat} (a j), a ≠ X + 1 → a ≠ t + 1 → a ≠ t + 2 → a ≠ t + 3 → a ≠ t + 4 → (cs X t T0 e (ts t D f g) p pl).1 a j = D.1 a j := fun a j h1 h2 h3 h4 h5 => by
    rw [cs_o h1 h2 h3, ts_o h4 h5]
  refine sw_ge (n48_17 hX tr) ?_
  simp (disch := omega) only [sw_ite, ni_le, sw_bv]
  rw [if_neg (by omega), r _ _ (by omega) (by omega) (by omega) (by omega) (by omega), p7, c126 ht tr hi g11 g12, sw_some]
  simp only [sb_v, sw_bi]
  rw [r _ _ (by omega) (by omega) (by omega) (by omega) (by omega), r _ _ (by omega) (by omega) (by omega) (by omega) (by omega), D126_o (by omega) (by omega), D126_o (by omega) (by omega), p8, p9]
  refine sw_ge (f50 hX tr) ?_
  have hH1 : cH C X t T N (D126 t m.1.length m.tot par D) := D126_cH hH
  have q5 : (D126 t m.1.length m.tot par D).1 (t + 5) m.1.length = par := by unfold D126; rw [dI_ne (by omega), dI_ne (by omega), dI_ne (by omega), dI_ne (by omega), dI_ne (by omega), dI_ne (by omega), dI_eq]
  have q6 : (D126 t m.1.length m.tot par D).1 (t + 6) m.1.length = ni m.tot := by unfold D126; rw [dI_ne (by omega), dI_ne (by omega), dI_ne (by omega), dI_ne (by omega), dI_ne (by omega), dI_eq]
  have q7 : (D126 t m.1.length m.tot par D).1 (t + 7) m.1.length = ni 0 := by unfold D126; rw [dI_ne (by omega), dI_ne (by omega), dI_ne (by omega), dI_ne (by omega), dI_eq]
  have q8 : (D126 t m.1.length m.tot par D).1 (t + 8) m.1.length = ni 0 := by unfold D126; rw [dI_ne (by omega), dI_ne (by omega), dI_ne (by omega), dI_eq]
  have q9 : (D126 t m.1.length m.tot par D).1 (t + 9) m.1.length = ni 0 := by unfold D126; rw [dI_ne (by omega), dI_ne (by omega), dI_eq]
  have q10 : (D126 t m.1.length m.tot par D).1 (t + 10) m.1.length = md_b false := by unfold D126; rw [dI_ne (by omega), dI_eq]
  have q11 : (D126 t m.1.length m.tot par D).1 t 11 = ni (m.1.length + 1) := by unfold D126; rw [dI_eq]
  have hF1 : FS t (D126 t m.1.length m.tot par D) m.1.length m.tot [] := ⟨q6, q7, by rw [D126_o (by omega) (by omega)]; exact g12, by rw [List.length_nil]; omega, Nat.zero_le _, fun j h hj => by cases hj⟩
  have herE : ∀ x z D', md_ent T st.length par a b m = .error x → cT X t D0 x z D' → Q (.inr z) D' := fun x z D' hx => her x z D' (Or.inl hx)
  unfold md_ent at herE
  refine c50_6 (D0 := D126 t m.1.length m.tot par D) (σ0 := σ) hL (n := m.1.length + 1) (by omega) (Nat.lt_succ_self _) hbN 20 _ f g σ a pl [] rfl hH1 (cN.refl _) q11 hF1 (fun j h hj => by cases hj) (fun j h hj => by cases hj) (fun h hm => by cases hm) (fun _ _ => rfl) hS (by omega) (by omega) (fun fs body hfs D2 f2 g2 pl2 σ2 n1 n2 n3 n4 n5 n6 n7 n8 n9 n10 => ?_) (fun x z D' hx hT => ⟨hT.tw, herE x z D' (by rw [hx]; rfl) ((hT.of D126_cF).of hF0)⟩)
  obtain ⟨w1, w2, w3, w4, w5, w6⟩ := md_fs_ok hL hbN hfs
  have hWn : md_W [] = 0 := rfl
  rw [hWn] at w4
  have habl : a < b := by omega
  have hbody : body ≤ b := by
    rcases Nat.lt_or_ge b body with z | z
    · exfalso
      have hb1 : body = b + 1 := by omega
      have hcr : T (b - 1) = ni 13 := by rw [← w3]; congr 1; omega
      have hlf := hL (b - 1) (by omega) hcr
      rw [show b - 1 + 1 = b from by omega] at hlf
      exact hb10 habl hlf.1 hlf.2
    · exact z
  simp only [hfs, bind, Except.bind] at herE
  simp only [sb_i, sw_bv]
  have hd2 : ∀ a j, ¬ (a = X + 5 ∨ a = X + 6 ∨ (a = t + 7 ∧ j = m.1.length) ∨ (a = t + 11 ∧ m.tot ≤ j) ∨ (a = t ∧ j = 12)) → D2.1 a j = (D126 t m.1.length m.tot par D).1 a j := n1.2
  have hlf : 2 * (m.tot + fs.length) ≤ 400 := by have := n2.2.2.2.1; omega
  have h5K : ∀ h ∈ fs, h.1 = 5 → m.2.2.2 false = [] := fun h hm hk => by
    rcases Nat.eq_zero_or_pos m.1.length with z | z
    · exact hA z false
    · have := w6 z (fun h hm => by cases hm) h hm; omega
  have h6K : ∀ h ∈ fs, h.1 = 6 → m.2.2.2 true = [] := fun h hm hk => by
    rcases Nat.eq_zero_or_pos m.1.length with z | z
    · exact hA z true
    · have := w6 z (fun h hm => by cases hm) h hm; omega
  have hFW : ∀ h ∈ fs, FW T N h := fun h hm => by
    obtain ⟨v1, v2, v3, v4⟩ := n5 h hm
    exact ⟨v1, v2, by omega, v4⟩
  refine c56 (x := (none, (0, 0), m.2)) hM (n := m.1.length + 1) (dep := st.length) (tot := m.tot) (by omega) (Nat.lt_succ_self _) (by omega) (n1.cH hH1) (by rw [hd2 _ _ (by omega)]; exact q11) (by rw [hd2 _ _ (by omega), D126_o (by omega) (by omega)]; exact hST.1) n2 n3 n4 hFW (w5 List.Pairwise.nil) n6 rfl ⟨by rw [hd2 _ _ (by omega)]; exact q8, by rw [hd2 _ _ (by omega)]; exact q10⟩ ⟨by rw [hd2 _ _ (by omega)]; exact q9, rfl⟩ (by rw [n7 1060 (by omega)]; exact gs) ⟨by rw [n1.1]; exact gd.1, by rw [hd2 _ _ (by omega), D126_o (by omega) (by omega)]; exact gd.2⟩ (TXa_fr (Or.inl rfl) g5 (by rw [hd2 _ _ (by omega), D126_o (by omega) (by omega)]) (fun k _ _ => n7 k (by omega))) (TXa_fr (Or.inr rfl) g6 (by rw [hd2 _ _ (by omega), D126_o (by omega) (by omega)]) (fun k _ _ => n7 k (by omega))) h5K h6K (by omega) (fun y hy hno D3 f3 g3 pl3 σ3 T3 e3 p3 a1 a2 a3 a4 a5 => ?_) (fun x z D' hx hT => ⟨hT.tw, ?_⟩)
  · obtain ⟨⟨y1, y2, y3, y4, y5, y6⟩, ⟨yc1, yc2, yc3⟩, ys1, yd, ya5, ya6⟩ := id a3
    dsimp only at y1 y2 y3 y4 y5 y6 yc1 yc2 yc3 ys1 yd ya5 ya6
    have hd3 : ∀ a j, ¬ (a = X + 1 ∨ a = X + 7 ∨ a = X + 10 ∨ a = X + 12 ∨ a = X + 13 ∨ ((a = t + 8 ∨ a = t + 9 ∨ a = t + 10) ∧ j = m.1.length) ∨ a = t + 12 ∨ (a = t ∧ j = 14)) → D3.1 a j = D2.1 a j := a1.2.2
    have hsig : ∀ k, ¬ sX m.1.length k → ¬ (2 * m.tot ≤ k ∧ k < 2 * (m.tot + fs.length)) → σ3 k = σ k := fun k h1 h2 => (a4 k h1).trans (n7 k h2)
    have hold : OLD t m.1.length m.tot D D3 σ σ3 := by
      refine ⟨fun a j h1 h2 h3 => ?_, fun k hk => ?_, fun k hk => hsig k (fun z => ?_) (by omega)⟩
      · rw [hd3 _ _ (by omega), hd2 _ _ (by omega), D126_o (by omega) (by omega)]
      · rw [hd3 _ _ (by omega), hd2 _ _ (by omega), D126_o (by omega) (by omega)]
      · unfold sX at z; omega
    have hF3 : cF X t D0 D3 := ((hF0.trans D126_cF).trans n1.cF).trans a1.cF
    have hH3 : cH C X t T N D3 := a1.cH (n1.cH hH1)
    have c9 : D3.1 (X + 14) 9 = ni b := by rw [hd3 _ _ (by omega), hd2 _ _ (by omega), D126_o (by omega) (by omega)]; exact p9
    have c11 : D3.1 t 11 = ni (m.1.length + 1) := by rw [hd3 _ _ (by omega), hd2 _ _ (by omega)]; exact q11
    have c12 : D3.1 t 12 = ni (m.tot + fs.length) := by rw [hd3 _ _ (by omega)]; exact n2.2.2.1
    have hST3 : STK X D3 st := by
      refine ⟨by rw [hd3 _ _ (by omega), hd2 _ _ (by omega), D126_o (by omega) (by omega)]; exact hST.1, fun j o hj => ?_⟩
      have := hST.2 j o hj
      rw [hd3 _ _ (by omega), hd2 _ _ (by omega), D126_o (by omega) (by omega), hd3 _ _ (by omega), hd2 _ _ (by omega), D126_o (by omega) (by omega), hd3 _ _ (by omega), hd2 _ _ (by omega), D126_o (by omega) (by omega), hd3 _ _ (by omega), hd2 _ _ (by omega), D126_o (by omega) (by omega), hd3 _ _ (by omega), hd2 _ _ (by omega), D126_o (by omega) (by omega)]
      exact this
    have hEN : ∀ (E : sm_D) (σE : Nat → List Int32) (mu : Bool) (oct : List Int32), (∀ a j, t ≤ a → E.1 a j = D3.1 a j) → (∀ k, k ≠ 1020 + m.1.length → σE k = σ3 k) → σE (1020 + m.1.length) = oct → mu = md_Ty.multi (y.1.getD md_plain) → EN T t E σE m.1.length m.tot (par, fs, y.1.getD md_plain, y.2.1.1, mu, oct) := by
      intro E σE mu oct hE hσ ho hmu
      refine ⟨by rw [hE _ _ (by omega), hd3 _ _ (by omega), hd2 _ _ (by omega)]; exact q5, ⟨by rw [hE _ _ (by omega), hd3 _ _ (by omega)]; exact n2.1, by rw [hE _ _ (by omega), hd3 _ _ (by omega)]; exact n2.2.1, n2.2.2.2.2.1, fun q h hq => by rw [hE _ _ (by omega), hd3 _ _ (by omega)]; exact n2.2.2.2.2.2 q h hq, fun q h hq => ?_⟩, ⟨by rw [hσ _ (by omega)]; exact y1, by rw [hσ _ (by omega)]; exact y2, fun q w hw => ?_, y4, by rw [hE _ _ (by omega)]; exact y5, by rw [hE _ _ (by omega), hmu]; exact y6⟩, by rw [hE _ _ (by omega)]; exact yc1, ho⟩
      · have hq2 : q < fs.length := by
          rcases Nat.lt_or_ge q fs.length with z | z
          · exact z
          · rw [List.getElem?_eq_none z] at hq; cases hq
        obtain ⟨u1, u2⟩ := n4 q h hq
        refine ⟨?_, ?_⟩
        · rw [hσ _ (by omega), a4 _ (fun z => by unfold sX at z; omega)]; exact u1
        · rw [hσ _ (by omega), a4 _ (fun z => by unfold sX at z; omega)]; exact u2
      · have hw6 : q < 6 := by
          rcases Nat.lt_or_ge q (y.1.getD md_plain).2.2.length with z | z
          · omega
          · rw [List.getElem?_eq_none z] at hw; cases hw
        obtain ⟨u1, u2, u3, u4⟩ := y3 q w hw
        exact ⟨by rw [hσ _ (by omega)]; exact u1, by rw [hσ _ (by omega)]; exact u2, u3, u4⟩
    have hMG : ∀ (E : sm_D) (σE : Nat → List Int32) (mu : Bool) (oct : List Int32), (∀ a j, t ≤ a → E.1 a j = D3.1 a j) → E.2 = D3.2 → (∀ k, k ≠ 1020 + m.1.length → σE k = σ3 k) → σE (1020 + m.1.length) = oct → mu = md_Ty.multi (y.1.getD md_plain) → MG T t E σE (m.1 ++ [(par, fs, y.1.getD md_plain, y.2.1.1, mu, oct)], y.2.2) := by
      intro E σE mu oct hE hE2 hσ ho hmu
      have hold2 : OLD t m.1.length m.tot D E σ σE := ⟨fun a j h1 h2 h3 => (hE _ _ (by omega)).trans (hold.1 a j h1 h2 h3), fun k hk => (hE _ _ (by omega)).trans (hold.2.1 k hk), fun k hk => (hσ k (by omega)).trans (hold.2.2 k hk)⟩
      refine MG_new hG hi hold2 (hEN E σE mu oct hE hσ ho hmu) (by rw [hE _ _ (by omega)]; exact c11) (by rw [hE _ _ (by omega)]; exact c12) n2.2.2.2.1 (by rw [hσ _ (by omega)]; exact ys1) ⟨by rw [hE2]; exact yd.1, by rw [hE _ _ (by omega)]; exact yd.2⟩ (TXa_fr (Or.inl rfl) ya5 (hE _ _ (by omega)) (fun k h1 h2 => hσ k (by omega))) (TXa_fr (Or.inr rfl) ya6 (hE _ _ (by omega)) (fun k h1 h2 => hσ k (by omega))) (fun j h1 h2 => ?_)
      rw [hσ _ (by omega), hsig _ (fun z => by unfold sX at z; omega) (by omega)]
      exact gf j (by omega) h2
    have hplb : pl3.length ≤ 2 * body + 9 * (m.1.length + 1) := by omega
    -- behind the entity
    have tail : ∀ (u : md_E) (st1 : List md_O) (D4 : sm_D) (f4 g4 : Nat → Int32) (pl4 : List Int32) (σ4 : Nat → List Int32) (T4 : Nat → Int32) (e4 p4 : Nat), md_ent T st.length par a b m = .ok ((m.1 ++ [u], y.2.2), body) → md_st1 T (m.1 ++ [u], y.2.2) body b st = .ok st1 → cF X t D0 D4 → cH C X t T N D4 → MG T t D4 σ4 (m.1 ++ [u], y.2.2) → STK X D4 st1 → st1.length ≤ 6 → (∀ o ∈ st1, OK1 N (m.1 ++ [u], y.2.2) o ∧ pl4.length ≤ 2 * o.2.2.2.1 + 9 * (m.1.length + 1)) → st1.Pairwise (fun o o' => o.2.1 ≤ o'.2.2.2.1) → SL f4 g4 pl4 σ4 → pl4.length ≤ 16400 → sw (sm_fx C 48 100 [.ref (X + 4), .ref t, .int (ni m.1.length), sm_junk] [] (cs X t T4 e4 (ts t D4 f4 g4) p4 pl4)) Q := by
      intro u st1 D4 f4 g4 pl4 σ4 T4 e4 p4 hent hst1 hF4 hH4 hG4 hST4 hl6 ho4 hp4 hS4 hpl4
      have hlen : ((m.1 ++ [u], y.2.2) : md_M).1.length = m.1.length + 1 := by dsimp only; rw [List.length_append]; rfl
      refine sw_ge (n48_100 hX tr) ?_
      rw [sw_bi]
      refine sw_ge (f108 hX tr) ?_
      refine c108 (D0 := D4) (V := fun k => md_bnd (m.1 ++ [u], y.2.2) k) (n := m.1.length + 1) (by omega) hS4 hpl4 st1 D4 hH4 (cQ.refl X D4) hST4 hl6 (by rw [← hlen]; exact hG4.1) (fun o ho => ?_) (fun hdw D5 hq5 => ?_) (fun o r' d hdw h40 hdel D5 hST5 hq5 k7 k8 k9 => ?_) (fun x z D' ⟨o, r', hdw, hx⟩ hT => ⟨hT.tw, ?_⟩)
      · obtain ⟨⟨z1, z2, z3, z4, z5, u', z6, z7⟩, -⟩ := ho4 o ho
        have en := hG4.2.2.2.2.1 o.1 u' z6
        exact ⟨by rw [hlen] at z1; exact z1, z2, z3, z4, by omega, u'.2.2.1.2.2, en.2.2.1.2.2.1, en.2.2.1.2.2.2.1, en.2.2.1.2.2.2.2.1, z7⟩
      · simp only [sb_i, sw_ite, md_b_0, if_true, sw_some]
        exact hend _ _ _ hent hst1 hdw D5 f4 g4 pl4 σ4 T4 e4 p4 (hF4.trans hq5.cF) (hq5.cH hH4) (MG_cQ ht hG4 hq5) hS4 hpl4 (by rw [hlen]; omega)
      · simp only [sb_i, sw_ite, md_b_0, Bool.true_eq_false, if_false, ni_add]
        have hsub : ∀ o' ∈ o :: r', o' ∈ st1 := fun o' ho' => by rw [← hdw] at ho'; exact (List.dropWhile_sublist _).subset ho'
        have hpw : (o :: r').Pairwise (fun o o' => o.2.1 ≤ o'.2.2.2.1) := by rw [← hdw]; exact hp4.sublist (List.dropWhile_sublist _)
        have hl7 : (o :: r').length ≤ st1.length := by rw [← hdw]; exact (List.dropWhile_sublist _).length_le
        obtain ⟨⟨z1, z2, z3, z4, z5, u', z6, z7⟩, zp⟩ := ho4 o (hsub o List.mem_cons_self)
        have hdo := md_del_ok hdel
        refine hnext _ _ _ o r' d hent hst1 hdw hlen (by rw [hlen]; exact h40) hdel D5 f4 g4 pl4 σ4 T4 e4 p4 ⟨hq5.cH hH4, hF4.trans hq5.cF, MG_cQ ht hG4 hq5, hST5, ⟨by rw [List.length_cons] at hl7 ⊢; omega, fun o' ho' => ?_, ?_⟩, hS4, ⟨k7, k8, k9⟩, ⟨by omega, by omega, fun q1 q2 => ?_⟩, by rw [hlen]; exact zp, fun q => by rw [hlen] at q; omega⟩
        · rcases List.mem_cons.mp ho' with w | w
          · subst w
            exact ⟨⟨z1, z2, by dsimp only; omega, by dsimp only; omega, hdo.2.1, u', z6, z7⟩, by dsimp only; omega⟩
          · obtain ⟨v1, -⟩ := ho4 o' (hsub o' (List.mem_cons_of_mem _ w))
            have := (List.pairwise_cons.mp hpw).1 o' w
            exact ⟨v1, by omega⟩
        · rw [List.pairwise_cons] at hpw ⊢
          exact ⟨hpw.1, hpw.2⟩
        · rcases md_del_line hdel with w | w
          · omega
          · have hmx : max o.2.2.2.1 (d.1 - 2) = d.1 - 2 := by omega
            rw [hmx, w.2]
            decide
      · refine her x z D' (Or.inr ⟨_, _, hent, Or.inr ⟨st1, o, r', hst1, hdw, hlen, ?_⟩⟩) (hT.of hF4)
        rw [hlen]
        exact hx
    have hentM : md_Ty.multi (y.1.getD md_plain) = true → md_ent T st.length par a b m = .ok ((m.1 ++ [(par, fs, y.1.getD md_plain, y.2.1.1, true, [])], y.2.2), body) := by
      intro hmu
      unfold md_ent
      simp only [hfs, hy, bind, Except.bind]
      rw [if_pos hmu, if_neg (fun z => hno ⟨hmu, z⟩)]
    have hlastv : ∀ (u : md_E), md_last (m.1 ++ [u], y.2.2) = u.2.2.2.2.1 := fun u => by
      unfold md_last
      dsimp only
      rw [List.getLast?_append]
      rfl
    simp (disch := omega) only [sb_v, sw_gu, ni_in, ni_nat, sw_ite]
    refine ⟨decide_eq_true hi, ?_⟩
    rw [r _ _ (by omega) (by omega) (by omega) (by omega) (by omega), y6, r _ _ (by omega) (by omega) (by omega) (by omega) (by omega), c9]
    cases hmu : md_Ty.multi (y.1.getD md_plain)
    · rw [if_pos (show md_b false = ni 0 from rfl), sw_bv]
      have hentL : md_ent T st.length par a b m = (match md_leaf T y.2.1.1 body b with | .error x => .error x | .ok o => .ok ((m.1 ++ [(par, fs, y.1.getD md_plain, y.2.1.1, false, o)], y.2.2), body)) := by
        unfold md_ent
        simp only [hfs, hy, bind, Except.bind]
        rw [if_neg (by rw [hmu]; exact Bool.false_ne_true)]
        cases md_leaf T y.2.1.1 body b <;> rfl
      refine c85 hH3 c11 (by omega) (Nat.lt_succ_self _) yc1 yc2 hbN hbody a2 (by omega) (fun ys hys v' h' q' f4 g4 hS4 => ?_) (fun x z D' hx hT => ⟨hT.tw, her x z D' (Or.inl (by rw [hentL, hx])) (hT.of hF3)⟩)
      have hyl := md_leaf_len hys
      rw [hys] at hentL
      dsimp only at hentL
      simp only [sb_v]
      have hkst : ∀ a j, t ≤ a → (kst X D3 v' h' q').1 a j = D3.1 a j := fun a j ha => kst_o (by omega)
      refine tail _ st _ f4 g4 _ _ T3 e3 p3 hentL (by unfold md_st1; rw [hlastv, if_neg Bool.false_ne_true]) (hF3.trans cF_kst) (cH_kst hH3) (hMG _ (up1 σ3 (1020 + m.1.length) ys) false ys hkst rfl (fun k hk => by unfold up1; rw [if_neg hk]) (by unfold up1; rw [if_pos rfl]) hmu.symm) ⟨by rw [kst_o (by omega)]; exact hST3.1, fun j o hj => by rw [kst_o (by omega), kst_o (by omega), kst_o (by omega), kst_o (by omega), kst_o (by omega)]; exact hST3.2 j o hj⟩ hst6 (fun o ho => ⟨OK1_app (hsto o ho).1, by have := (hsto o ho).2; rw [List.length_append]; omega⟩) hstp hS4 (by rw [List.length_append]; omega)
    · rw [if_neg (show ¬ (md_b true = ni 0) by decide), sw_bv]
      have hent := hentM hmu
      have hy1 : ∃ τ, y.1 = some τ := by
        cases hyy : y.1 with
        | none =>
          rw [hyy] at hmu
          exact absurd hmu (by decide)
        | some τ => exact ⟨τ, rfl⟩
      obtain ⟨τ, hτ⟩ := hy1
      have hgd : y.1.getD md_plain = τ := by rw [hτ]; rfl
      obtain ⟨hdep6, v, hv⟩ := md_txts_ty hy rfl τ hτ (by rw [← hgd]; exact hmu)
      have hlen : (m.1 ++ [(par, fs, y.1.getD md_plain, y.2.1.1, true, [])]).length = m.1.length + 1 := by rw [List.length_append]; rfl
      have hgetu : (m.1 ++ [(par, fs, y.1.getD md_plain, y.2.1.1, true, ([] : List Int32))])[m.1.length]? = some (par, fs, y.1.getD md_plain, y.2.1.1, true, []) := by
        rw [List.getElem?_append_right (Nat.le_refl _), Nat.sub_self]; rfl
      have hbnd : md_bnd (m.1 ++ [(par, fs, y.1.getD md_plain, y.2.1.1, true, [])], y.2.2) m.1.length = v := by
        unfold md_bnd
        dsimp only
        rw [hgetu]
        dsimp only
        rw [hgd, hv]
        rfl
      have hopen : md_open T (m.1 ++ [(par, fs, y.1.getD md_plain, y.2.1.1, true, [])], y.2.2) body b = (match md_del T v b body with | none => .error b | some d => if d.2.2 then .error d.1 else .ok (m.1.length, b, d)) := by
        unfold md_open
        dsimp only
        rw [hlen, Nat.add_sub_cancel, hbnd]
        cases md_del T v b body <;> rfl
      refine c103 hH3 hST3 hdep6 c9 c11 (by omega) (Nat.lt_succ_self _) a2 (by omega) y3 y4 y5 (by rw [hgd]; exact hv) hbN (by omega) (fun d hd hcl D4 hST4 hq4 => ?_) (fun x z D' hx hT => ⟨hT.tw, her x z D' (Or.inr ⟨_, _, hent, Or.inl ?_⟩) (hT.of hF3)⟩)
      · have hdo := md_del_ok hd
        simp only [sb_v]
        have hf1020 : σ3 (1020 + m.1.length) = [] := by
          rw [hsig _ (fun z => by unfold sX at z; omega) (by omega)]
          exact gf _ (Nat.le_refl _) hi
        refine tail _ ((m.1.length, b, d) :: st) D4 f3 g3 pl3 σ3 T3 e3 p3 hent ?_ (hF3.trans hq4.cF) (hq4.cH hH3) (hMG D4 σ3 true [] (fun a j ha => hq4.2 a j (by omega)) hq4.1 (fun _ _ => rfl) hf1020 hmu.symm) hST4 (by rw [List.length_cons]; omega) (fun o ho => ?_) ?_ a2 (by omega)
        · unfold md_st1
          rw [hlastv]
          dsimp only
          rw [if_pos rfl, hopen, hd]
          dsimp only
          rw [hcl, if_neg Bool.false_ne_true]
          rfl
        · rcases List.mem_cons.mp ho with w | w
          · subst w
            refine ⟨⟨by dsimp only; rw [hlen]; omega, hbN, by dsimp only; omega, by dsimp only; omega, hdo.2.1, _, hgetu, ?_⟩, by dsimp only; omega⟩
            dsimp only
            rw [hbnd, hgd, hv]
          · refine ⟨OK1_app (hsto o w).1, ?_⟩
            have := (hsto o w).2
            omega
        · rw [List.pairwise_cons]
          exact ⟨fun o' ho' => (hsto o' ho').2, hstp⟩
      · unfold md_st1
        rw [hlastv]
        dsimp only
        rw [if_pos rfl, hopen]
        rcases hx with ⟨hd, rfl⟩ | ⟨d, hd, hcl, rfl⟩
        · rw [hd]; rfl
        · rw [hd]
          dsimp only
          rw [hcl, if_pos rfl]
          rfl
  · have hfr := ((hT.of n1.cF).of D126_cF).of hF0
    rcases hx with hx | ⟨y, hy, hmu, hcd, rfl⟩
    · exact herE x z D' (by rw [hx]) hfr
    · refine herE _ z D' ?_ hfr
      rw [hy]
      dsimp only
      rw [if_pos hmu, if_pos hcd]
end CMI
