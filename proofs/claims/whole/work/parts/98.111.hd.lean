/-- an entity is in -/
def rEN (X : Nat) (T : Nat → Int32) (N : Nat) (D : sm_D) (m m1 : md_M) (dep s a b body : Nat) (E : sm_D) : Prop :=
  rF2 X D E ∧ E.1 (X + 49) 8 = sm_k (-1) ∧ (∃ l1, RM X T N E m1 l1 ∧ l1.length ≤ 2 * body + 9 * (m.1.length + 1)) ∧ E.1 (X + 62) m.1.length = ni dep ∧ (∀ c j, oldc X m.1.length m.tot c j → E.1 c j = D.1 c j) ∧ (a + 2 ≤ body ∧ body ≤ b) ∧ m1.1.length = m.1.length + 1 ∧ (∃ u, m1.1 = m.1 ++ [u]) ∧
  ((md_last m1 = false ∧ E.1 (X + 49) 60 = ni s ∧ (∀ c j, X + 84 ≤ c → c ≤ X + 88 → E.1 c j = D.1 c j) ∧ (md_oc m1.1).length ≤ b) ∨
   (md_last m1 = true ∧ dep < 6 ∧ E.1 (X + 49) 60 = ni (s + 1) ∧ (E.1 (X + 84) s = ni m.1.length ∧ E.1 (X + 85) s = ni b ∧ E.1 (X + 86) s = ni body ∧ E.1 (X + 87) s = sm_k (-1)) ∧ (∀ c j, X + 84 ≤ c → c ≤ X + 88 → j ≠ s → E.1 c j = D.1 c j) ∧ (md_oc m1.1).length ≤ a ∧ ∃ u, m1.1[m.1.length]? = some u ∧ md_bv u.2.2.1.2.2 = some (md_bnd m1 m.1.length) ∧ md_rb (md_bnd m1 m.1.length) = true))
section RHF
variable {C : sm_K} {X N s dep a b body : Nat} {T : Nat → Int32} {D E F : sm_D} {Q : (Option Value ⊕ Nat) → sm_D → Prop} {l l2 : List Int32} {m : md_M} {par : Int32} {fs : List md_F} {W : Bool}
theorem md_type_rb {e q : Nat} {τ : md_Ty} (h : md_type T e dep q = .ok τ) (hm : md_Ty.multi τ = true) : (md_bv τ.2.2).any md_rb = true := by
  unfold md_type at h
  simp only [bind, Except.bind] at h
  cases h1 : md_space T e 0 q with
  | error x => simp only [h1] at h; cases h
  | ok p1 =>
    simp only [h1] at h
    cases h2 : md_word T e md_tok 0 p1 with
    | error x => simp only [h2] at h; cases h
    | ok a =>
      simp only [h2] at h
      cases h3 : md_space T e 0 a.2 with
      | error x => simp only [h3] at h; cases h
      | ok p3 =>
        simp only [h3] at h
        cases h4 : md_eat T e (ni 47) p3 with
        | error x => simp only [h4] at h; cases h
        | ok p4 =>
          simp only [h4] at h
          cases h5 : md_space T e 0 p4 with
          | error x => simp only [h5] at h; cases h
          | ok p5 =>
            simp only [h5] at h
            cases h6 : md_word T e md_tok 0 p5 with
            | error x => simp only [h6] at h; cases h
            | ok b =>
              simp only [h6] at h
              cases h7 : md_space T e 0 b.2 with
              | error x => simp only [h7] at h; cases h
              | ok p7 =>
                simp only [h7] at h
                cases h8 : md_pars T e 6 [] p7 with
                | error x => simp only [h8] at h; cases h
                | ok c =>
                  simp only [h8] at h
                  cases h9 : md_end e c.2 with
                  | error x => simp only [h9] at h; cases h
                  | ok d =>
                    simp only [h9] at h
                    split at h
                    · cases h
                    · next hno =>
                      cases h
                      have hmu : a.1.map md_sm = md_w "multipart" := beq_iff_eq.mp hm
                      by_cases hc : dep < 6 ∧ (md_bv c.1).any md_rb = true
                      · exact hc.2
                      · exact absurd ⟨hmu, hc⟩ hno
theorem md_txts_rb : ∀ (fs : List md_F) {x y : md_X}, md_txts T dep fs x = .ok y → (∀ τ, x.1 = some τ → md_Ty.multi τ = true → (md_bv τ.2.2).any md_rb = true) → ∀ τ, y.1 = some τ → md_Ty.multi τ = true → (md_bv τ.2.2).any md_rb = true := by
  intro fs
  induction fs with
  | nil => intro x y h hx; cases h; exact hx
  | cons f fs ih =>
    intro x y h hx
    unfold md_txts at h
    cases h1 : md_txt1 T dep f x with
    | error e => rw [h1] at h; cases h
    | ok w =>
      simp only [h1, bind, Except.bind] at h
      refine ih h (fun τ hτ hm => ?_)
      by_cases hf : f.1 = 1
      · unfold md_txt1 at h1
        rw [if_pos hf] at h1
        cases ht : md_type T f.2.2.2 dep (md_go T f.2.2.2 (f.2.2.1 + 1)) with
        | error e => rw [ht] at h1; cases h1
        | ok t =>
          rw [ht] at h1
          cases h1
          cases hτ
          exact md_type_rb ht hm
      · rw [md_txt1_ty h1 hf] at hτ
        exact hx τ hτ hm
theorem REN_mk {tot off i : Nat} {y : md_X} {o : List Int32} (h53 : E.1 (X + 53) i = par) (hF : RFS X i tot fs E) (hZ : ∀ h ∈ fs, FZ T N h ∧ h.2.1 < h.2.2.1) (h59 : E.1 (X + 59) i = ni off) (h60 : E.1 (X + 60) i = ni o.length) (hx : RTX X i l W E y) (hW : y.1 = none → W = true) {mu : Bool} (hmu : mu = md_mu y.1) : REN X T N E l i tot off (par, fs, y.1.getD md_plain, y.2.1.1, mu, o) := by
  obtain ⟨a1, a2, a3, a4, a5, a6⟩ := hF
  obtain ⟨⟩ := hmu
  obtain ⟨b1, ⟨b2, b3, b4⟩, b5⟩ := hx
  have key : E.1 (X + 56) i = md_b (md_mu y.1) ∧ SLT l (E.1 (X + 64) (2 * i)) (E.1 (X + 65) (2 * i)) (y.1.getD md_plain).1 ∧ SLT l (E.1 (X + 64) (2 * i + 1)) (E.1 (X + 65) (2 * i + 1)) (y.1.getD md_plain).2.1 ∧ RP X i (y.1.getD md_plain).2.2 l E := by
    cases hy : y.1 with
    | none =>
      rw [hy] at b1
      obtain ⟨c1, c2, c3⟩ := b1
      obtain ⟨c4, c5⟩ := c3 (hW hy)
      exact ⟨by rw [c2]; decide, c4, c5, c1, Nat.zero_le _, fun n w hw => by cases hw⟩
    | some τ =>
      rw [hy] at b1
      obtain ⟨c1, c2, c3, c4⟩ := b1
      exact ⟨c4, c1, c2, c3⟩
  exact ⟨h53, ⟨a1, a2, a5, fun k h hk => ⟨(a6 k h hk).1, (a6 k h hk).2, (hZ h (List.mem_of_getElem? hk)).1, (hZ h (List.mem_of_getElem? hk)).2⟩⟩, ⟨key.1, b2, b3⟩, ⟨h59, h60⟩, key.2.1, key.2.2.1, key.2.2.2⟩
theorem frS.o {i c j : Nat} (h : frS X i D E) (h1 : sTX X i c j → False) (h2 : sSx X c j → False) : E.1 c j = D.1 c j := h.2.1 c j (fun g => g.elim h1 h2)
theorem r163_131 (hL : LN T N) (hL2 : LN2 T N) (h : rH C X T N E) (h8 : E.1 (X + 49) 8 = sm_k (-1)) (h54 : E.1 (X + 49) 54 = ni 0) (hm : RM X T N D m l) (hi : m.1.length < 40) (hfr : rF2 X D E) (ho : ∀ c j, oldc X m.1.length m.tot c j → E.1 c j = D.1 c j) (h84 : ∀ c j, X + 84 ≤ c → c ≤ X + 88 → E.1 c j = D.1 c j)
    (h9 : E.1 (X + 49) 9 = ni (m.1.length + 1)) (h60 : E.1 (X + 49) 60 = ni s) (hs : s ≤ dep) (h53 : E.1 (X + 53) m.1.length = par) (h62 : E.1 (X + 62) m.1.length = ni dep) (hdep : dep < 1000) (h59 : E.1 (X + 59) m.1.length = ni (md_oc m.1).length) (hz60 : E.1 (X + 60) m.1.length = ni 0) (hF : RFS X m.1.length m.tot fs E) (hfs : md_fs T m.1.length b m.tot [] a = .ok (fs, body)) (hbody : body ≤ b)
    (hb : b ≤ N) (hB : BB T a b) {n : List Int32} (hl2 : l2 = l ++ n) (hl : l2.length + 2 * a ≤ 2 * a + 9 * (m.1.length + 1) + 2 * a) (hT : RT X l2 E) (hx : RTX X m.1.length l2 W E (none, (0, 0), m.2)) (hW : (∀ h ∈ fs, h.1 ≠ 1) → W = true) (hS : SUB X m.2.1 E) (hO : OCT X (md_oc m.1) E) (hoc : (md_oc m.1).length ≤ a) (hA : m.1.length = 0 → m.2.1 = [] ∧ ∀ k, m.2.2.2 k = [])
    (hok : ∀ m1, md_ent T dep par a b m = .ok (m1, body) → ∀ E', rEN X T N D m m1 dep s a b body E' → Q (.inl none) E')
    (her : ∀ f, md_ent T dep par a b m = .error f → ∀ E', rE2 X D f E' → Q (.inl none) E') :
    sw (sm_fx C 163 131 [.ref (X + 49), sm_junk, sm_junk, .int (ni b), .int (ni m.1.length), .int (ni body)] [] E) Q := by
  have hX := h.1
  have hN := h.2.2.1
  obtain ⟨w1, w2, w3, w4, w5, w6⟩ := md_fs_ok hL hb hfs
  have hZ := md_fs_FZ hL hb 20 [] a (by decide) hfs (fun g hg => by cases hg)
  have hWn : md_W [] = 0 := rfl
  rw [hWn] at w4
  have hk2 : 0 < m.1.length → ∀ h ∈ fs, h.1 ≤ 2 := fun z => w6 z (fun g hg => by cases hg)
  have hT1 : T (body - 1) ≠ ni 13 := by
    have := (hL (body - 2) (by omega) w3).2
    rw [show body - 2 + 1 = body - 1 from by omega] at this
    rw [this]; decide
  have eent : md_ent T dep par a b m = (match md_txts T dep fs (none, (0, 0), m.2) with
      | .error x => .error x
      | .ok y => if md_mu y.1 = true then (if 2 < y.2.1.1 then .error y.2.1.2 else .ok ((m.1 ++ [(par, fs, y.1.getD md_plain, y.2.1.1, true, [])], y.2.2), body)) else (match md_leaf T y.2.1.1 body b with | .error x => .error x | .ok o => .ok ((m.1 ++ [(par, fs, y.1.getD md_plain, y.2.1.1, false, o)], y.2.2), body))) := by
    unfold md_ent md_mu
    simp only [hfs, bind, Except.bind]
    cases md_txts T dep fs (none, (0, 0), m.2) with
    | error x => rfl
    | ok y =>
      dsimp only
      cases md_leaf T y.2.1.1 body b <;> rfl
  rw [eent] at her
  refine sw_ge (n163_131 hX) ?_
  rw [sw_bv]
  refine r174 h h8 h54 hT hx hi hF (fun g hg => (hZ g hg).1) h62 hdep (w5 List.Pairwise.nil) (fun _ _ _ => rfl) (fun g hg g5 => ?_) (fun g hg g6 => ?_) hS (fun ⟨g, hg, g3⟩ => ?_) (by omega) (fun y hy hno E3 p hf3 hT3 hx3 hS3 h83 hlen3 => ?_) (fun f hf E' hE' => ?_)
  · rcases Nat.eq_zero_or_pos m.1.length with z | z
    · exact (hA z).2 false
    · have := hk2 z g hg; omega
  · rcases Nat.eq_zero_or_pos m.1.length with z | z
    · exact (hA z).2 true
    · have := hk2 z g hg; omega
  · rcases Nat.eq_zero_or_pos m.1.length with z | z
    · exact (hA z).1
    · have := hk2 z g hg; omega
  · have kp : ∀ c j, kpc X c j → E3.1 c j = E.1 c j := fun c j hc => hf3.o (kpc_TX hc) (kpc_Sx hc)
    have od : ∀ c j, oldc X m.1.length m.tot c j → E3.1 c j = D.1 c j := fun c j hc => (hf3.o (old_TX hc) (old_Sx hc)).trans (ho c j hc)
    have hF3 : RFS X m.1.length m.tot fs E3 := hF.of (fun c j hc => hf3.o (fic_TX hc) (fic_Sx hc))
    have hr3 : rF2 X D E3 := hfr.trans hf3.toF.to2
    have hH3 : rH C X T N E3 := ⟨h.1, h.2.1, h.2.2.1, fun k hk => by rw [kp _ _ (by unfold kpc; omega)]; exact h.2.2.2.1 k hk, h.2.2.2.2⟩
    have hO3 : OCT X (md_oc m.1) E3 := ⟨by rw [kp _ _ (by unfold kpc; omega)]; exact hO.1, fun k hk => by rw [kp _ _ (by unfold kpc; omega)]; exact hO.2 k hk⟩
    have hW3 : y.1 = none → W = true := fun hy1 => hW (fun g hg g1 => md_txts_1 fs hy (Or.inl ⟨g, hg, g1⟩) hy1)
    have hmu3 : E3.1 (X + 56) m.1.length = md_b (md_mu y.1) := by
      have := (REN_mk (o := []) (par := par) (off := (md_oc m.1).length) (by rw [kp _ _ (by unfold kpc; omega)]; exact h53) hF3 hZ (by rw [kp _ _ (by unfold kpc; omega)]; exact h59) (by rw [kp _ _ (by unfold kpc; omega)]; exact hz60) hx3 hW3 rfl).2.2.1.1
      exact this
    have h9' : E3.1 (X + 49) 9 = ni (m.1.length + 1) := by rw [kp _ _ (by unfold kpc; omega)]; exact h9
    have h60' : E3.1 (X + 49) 60 = ni s := by rw [kp _ _ (by unfold kpc; omega)]; exact h60
    have h84' : ∀ c j, X + 84 ≤ c → c ≤ X + 88 → E3.1 c j = D.1 c j := fun c j c1 c2 => (kp _ _ (by unfold kpc; omega)).trans (h84 c j c1 c2)
    have h53' : E3.1 (X + 53) m.1.length = par := by rw [kp _ _ (by unfold kpc; omega)]; exact h53
    have h59' : E3.1 (X + 59) m.1.length = ni (md_oc m.1).length := by rw [kp _ _ (by unfold kpc; omega)]; exact h59
    have hz60' : E3.1 (X + 60) m.1.length = ni 0 := by rw [kp _ _ (by unfold kpc; omega)]; exact hz60
    have h62' : E3.1 (X + 62) m.1.length = ni dep := by rw [kp _ _ (by unfold kpc; omega)]; exact h62
    have hlen : ∀ u : md_E, (m.1 ++ [u]).length = m.1.length + 1 := fun u => by rw [List.length_append]; rfl
    simp (disch := omega) only [sb_v, sw_ite, sw_gu, ni_in, ni_nat]
    rw [if_pos h83, hmu3]
    refine ⟨decide_eq_true hi, ?_⟩
    rw [hy] at her
    simp only [hy] at eent
    dsimp only at her
    cases hmu : md_mu y.1
    · rw [if_pos (show md_b false = ni 0 from rfl), sw_bv]
      rw [hmu, if_neg Bool.false_ne_true] at her eent
      refine r225 hL hL2 hb hi hx3.2.1.2.1 hH3 h83 hx3.2.1.1 h59' hO3 (by omega) hbody (fun q q1 => hB q (by omega)) ⟨by omega, hT1⟩ (fun ys hys E4 hf4 hO4 h604 h84 => ?_) (fun f hf E' hE' => ?_)
      · rw [hys] at eent
        dsimp only at eent
        have hyl := md_leaf_len hys
        have lf : ∀ c j, ¬ sLf X m.1.length c j → E4.1 c j = E3.1 c j := hf4.2
        have hx4 : RTX X m.1.length (l2 ++ p) W E4 y := by
          obtain ⟨q1, ⟨q2, q3, q4⟩, q5, q6, q7⟩ := hx3
          refine ⟨?_, ⟨by rw [lf _ _ (by unfold sLf sOc; omega)]; exact q2, q3, fun z => ⟨by rw [lf _ _ (by unfold sLf sOc; omega)]; exact (q4 z).1, (q4 z).2⟩⟩, ⟨by rw [hf4.1]; exact q5.1, by rw [lf _ _ (by unfold sLf sOc; omega)]; exact q5.2⟩, q6.fr hf4 (fun c j hc => by unfold sLf sOc at hc; omega), q7.fr hf4 (fun c j hc => by unfold sLf sOc at hc; omega)⟩
          cases hy1 : y.1 with
          | none =>
            rw [hy1] at q1
            obtain ⟨c1, c2, c3⟩ := q1
            refine ⟨by rw [lf _ _ (by unfold sLf sOc; omega)]; exact c1, by rw [lf _ _ (by unfold sLf sOc; omega)]; exact c2, fun z => ?_⟩
            rw [lf _ _ (by unfold sLf sOc; omega), lf _ _ (by unfold sLf sOc; omega), lf _ _ (by unfold sLf sOc; omega), lf _ _ (by unfold sLf sOc; omega)]
            exact c3 z
          | some τ =>
            rw [hy1] at q1
            obtain ⟨c1, c2, c3, c4⟩ := q1
            refine ⟨?_, ?_, c3.of (fun c j hc => lf _ _ (by unfold sLf sOc; omega)), by rw [lf _ _ (by unfold sLf sOc; omega)]; exact c4⟩
            · rw [lf _ _ (by unfold sLf sOc; omega), lf _ _ (by unfold sLf sOc; omega)]; exact c1
            · rw [lf _ _ (by unfold sLf sOc; omega), lf _ _ (by unfold sLf sOc; omega)]; exact c2
        simp only [sb_v, sw_some]
        have hF4 : RFS X m.1.length m.tot fs E4 := hF3.of (fun c j hc => lf _ _ (fun g => fic_Lf hc g))
        refine hok _ eent E4 ⟨hr3.trans (hf4.Fr2 (fun c j hc => sLf_R2 hc)), h84, ⟨l2 ++ p, ?_, by omega⟩, by rw [lf _ _ (by unfold sLf sOc; omega)]; exact h62', fun c j hc => (lf _ _ (fun g => old_Lf hc g)).trans (od c j hc), ⟨w1, hbody⟩, hlen _, ⟨_, rfl⟩, Or.inl ⟨md_last_app, by rw [lf _ _ (by unfold sLf sOc; omega)]; exact h60', fun c j c1 c2 => (lf _ _ (by unfold sLf sOc; omega)).trans (h84' c j c1 c2), ?_⟩⟩
        · subst hl2
          rw [List.append_assoc] at hT3 hx4 ⊢
          refine RM_new hm hi (fun c j hc => (lf _ _ (fun g => old_Lf hc g)).trans (od c j hc)) (REN_mk (by rw [lf _ _ (by unfold sLf sOc; omega)]; exact h53') hF4 hZ (by rw [lf _ _ (by unfold sLf sOc; omega)]; exact h59') h604 hx4 hW3 hmu.symm) (by rw [lf _ _ (by unfold sLf sOc; omega)]; exact h9') hF4.2.2.1 hF4.2.2.2.1 ⟨by rw [lf _ _ (by unfold sLf sOc; omega)]; exact hT3.1, fun k hk => by rw [lf _ _ (by unfold sLf sOc; omega)]; exact hT3.2 k hk⟩ hO4 (hS3.fr hf4 (fun c j hc => by unfold sLf sOc at hc; omega)) hx4.2.2.1 hx4.2.2.2.1 hx4.2.2.2.2
        · dsimp only
          rw [md_oc_app, List.length_append]
          dsimp only
          omega
      · simp only [sb_v, sw_some]
        exact her f (by rw [hf]) E' (hE'.to2.of hr3)
    · rw [if_neg (show ¬ (md_b true = ni 0) by decide)]
      rw [hmu, if_pos rfl] at her eent
      have hno2 : ¬ 2 < y.2.1.1 := fun z => hno ⟨hmu, z⟩
      rw [if_neg hno2] at eent
      have hy1 : ∃ τ, y.1 = some τ := by
        cases hyy : y.1 with
        | none =>
          rw [hyy] at hmu
          exact absurd hmu (by decide)
        | some τ => exact ⟨τ, rfl⟩
      obtain ⟨τ, hτ⟩ := hy1
      have hgd : y.1.getD md_plain = τ := by rw [hτ]; rfl
      obtain ⟨hdep6, v, hv⟩ := md_txts_ty hy rfl τ hτ (by rw [← hgd]; exact hmu)
      have hrb := md_txts_rb fs hy (fun τ hτ => nomatch hτ) τ hτ (by rw [← hgd]; exact hmu)
      rw [hv] at hrb
      have e1 : sm_up E3.1 (X + 84) s (ni m.1.length) (X + 49) 60 = ni s := by rw [up_ne (by omega)]; exact h60'
      have e2 : sm_up (sm_up E3.1 (X + 84) s (ni m.1.length)) (X + 85) s (ni b) (X + 49) 60 = ni s := by rw [up_ne (by omega)]; exact e1
      have e3 : sm_up (sm_up (sm_up E3.1 (X + 84) s (ni m.1.length)) (X + 85) s (ni b)) (X + 86) s (ni body) (X + 49) 60 = ni s := by rw [up_ne (by omega)]; exact e2
      have e4 : sm_up (sm_up (sm_up (sm_up E3.1 (X + 84) s (ni m.1.length)) (X + 85) s (ni b)) (X + 86) s (ni body)) (X + 87) s (sm_k (-1)) (X + 49) 60 = ni s := by rw [up_ne (by omega)]; exact e3
      simp (disch := omega) only [sw_gu, h60', ni_in, ni_nat, e1, e2, e3, e4, ni_add, sw_some]
      refine ⟨decide_eq_true (by omega), decide_eq_true (by omega), decide_eq_true (by omega), decide_eq_true (by omega), ?_⟩
      show Q (.inl none) (sm_dI (sm_dI (sm_dI (sm_dI (sm_dI E3 (X + 84) s (ni m.1.length)) (X + 85) s (ni b)) (X + 86) s (ni body)) (X + 87) s (sm_k (-1))) (X + 49) 60 (ni (s + 1)))
      have hf4 : fr (sPu X s) E3 (sm_dI (sm_dI (sm_dI (sm_dI (sm_dI E3 (X + 84) s (ni m.1.length)) (X + 85) s (ni b)) (X + 86) s (ni body)) (X + 87) s (sm_k (-1))) (X + 49) 60 (ni (s + 1))) := ((((fr.refl.dI (by unfold sPu; omega)).dI (by unfold sPu; omega)).dI (by unfold sPu; omega)).dI (by unfold sPu; omega)).dI (by unfold sPu; omega)
      have k1 : (sm_dI (sm_dI (sm_dI (sm_dI (sm_dI E3 (X + 84) s (ni m.1.length)) (X + 85) s (ni b)) (X + 86) s (ni body)) (X + 87) s (sm_k (-1))) (X + 49) 60 (ni (s + 1))).1 (X + 84) s = ni m.1.length := by rw [dI_ne (by omega), dI_ne (by omega), dI_ne (by omega), dI_ne (by omega), dI_eq]
      have k2 : (sm_dI (sm_dI (sm_dI (sm_dI (sm_dI E3 (X + 84) s (ni m.1.length)) (X + 85) s (ni b)) (X + 86) s (ni body)) (X + 87) s (sm_k (-1))) (X + 49) 60 (ni (s + 1))).1 (X + 85) s = ni b := by rw [dI_ne (by omega), dI_ne (by omega), dI_ne (by omega), dI_eq]
      have k3 : (sm_dI (sm_dI (sm_dI (sm_dI (sm_dI E3 (X + 84) s (ni m.1.length)) (X + 85) s (ni b)) (X + 86) s (ni body)) (X + 87) s (sm_k (-1))) (X + 49) 60 (ni (s + 1))).1 (X + 86) s = ni body := by rw [dI_ne (by omega), dI_ne (by omega), dI_eq]
      have k4 : (sm_dI (sm_dI (sm_dI (sm_dI (sm_dI E3 (X + 84) s (ni m.1.length)) (X + 85) s (ni b)) (X + 86) s (ni body)) (X + 87) s (sm_k (-1))) (X + 49) 60 (ni (s + 1))).1 (X + 87) s = sm_k (-1) := by rw [dI_ne (by omega), dI_eq]
      have k5 : (sm_dI (sm_dI (sm_dI (sm_dI (sm_dI E3 (X + 84) s (ni m.1.length)) (X + 85) s (ni b)) (X + 86) s (ni body)) (X + 87) s (sm_k (-1))) (X + 49) 60 (ni (s + 1))).1 (X + 49) 60 = ni (s + 1) := dI_eq
      generalize sm_dI (sm_dI (sm_dI (sm_dI (sm_dI E3 (X + 84) s (ni m.1.length)) (X + 85) s (ni b)) (X + 86) s (ni body)) (X + 87) s (sm_k (-1))) (X + 49) 60 (ni (s + 1)) = E4 at hf4 k1 k2 k3 k4 k5 ⊢
      have lf : ∀ c j, ¬ sPu X s c j → E4.1 c j = E3.1 c j := hf4.2
      have hx4 : RTX X m.1.length (l2 ++ p) W E4 y := by
        obtain ⟨q1, ⟨q2, q3, q4⟩, q5, q6, q7⟩ := hx3
        refine ⟨?_, ⟨by rw [lf _ _ (by unfold sPu; omega)]; exact q2, q3, fun z => ⟨by rw [lf _ _ (by unfold sPu; omega)]; exact (q4 z).1, (q4 z).2⟩⟩, ⟨by rw [hf4.1]; exact q5.1, by rw [lf _ _ (by unfold sPu; omega)]; exact q5.2⟩, q6.fr hf4 (fun c j hc => by unfold sPu at hc; omega), q7.fr hf4 (fun c j hc => by unfold sPu at hc; omega)⟩
        rw [hτ] at q1 ⊢
        obtain ⟨c1, c2, c3, c4⟩ := q1
        refine ⟨?_, ?_, c3.of (fun c j hc => lf _ _ (by unfold sPu; omega)), by rw [lf _ _ (by unfold sPu; omega)]; exact c4⟩
        · rw [lf _ _ (by unfold sPu; omega), lf _ _ (by unfold sPu; omega)]; exact c1
        · rw [lf _ _ (by unfold sPu; omega), lf _ _ (by unfold sPu; omega)]; exact c2
      have hF4 : RFS X m.1.length m.tot fs E4 := hF3.of (fun c j hc => lf _ _ (fun g => fic_Pu hc g))
      have hgetu : (m.1 ++ [(par, fs, y.1.getD md_plain, y.2.1.1, true, ([] : List Int32))])[m.1.length]? = some (par, fs, y.1.getD md_plain, y.2.1.1, true, []) := by
        rw [List.getElem?_append_right (Nat.le_refl _), Nat.sub_self]; rfl
      refine hok _ eent E4 ⟨hr3.trans (hf4.Fr2 (fun c j hc => sPu_R2 hc)), by rw [lf _ _ (by unfold sPu; omega)]; exact h83, ⟨l2 ++ p, ?_, by omega⟩, by rw [lf _ _ (by unfold sPu; omega)]; exact h62', fun c j hc => (lf _ _ (fun g => old_Pu hc g)).trans (od c j hc), ⟨w1, hbody⟩, hlen _, ⟨_, rfl⟩, Or.inr ⟨md_last_app, hdep6, k5, ⟨k1, k2, k3, k4⟩, fun c j c1 c2 c3 => (lf _ _ (by unfold sPu; omega)).trans (h84' c j c1 c2), ?_, ⟨_, hgetu, ?_⟩⟩⟩
      · subst hl2
        rw [List.append_assoc] at hT3 hx4 ⊢
        refine RM_new hm hi (fun c j hc => (lf _ _ (fun g => old_Pu hc g)).trans (od c j hc)) (REN_mk (by rw [lf _ _ (by unfold sPu; omega)]; exact h53') hF4 hZ (by rw [lf _ _ (by unfold sPu; omega)]; exact h59') (by rw [lf _ _ (by unfold sPu; omega)]; exact hz60') hx4 hW3 hmu.symm) (by rw [lf _ _ (by unfold sPu; omega)]; exact h9') hF4.2.2.1 hF4.2.2.2.1 ⟨by rw [lf _ _ (by unfold sPu; omega)]; exact hT3.1, fun k hk => by rw [lf _ _ (by unfold sPu; omega)]; exact hT3.2 k hk⟩ ?_ (hS3.fr hf4 (fun c j hc => by unfold sPu at hc; omega)) hx4.2.2.1 hx4.2.2.2.1 hx4.2.2.2.2
        dsimp only
        rw [List.append_nil]
        exact hO3.fr hf4 (fun c j hc => by unfold sPu at hc; omega)
      · dsimp only
        rw [md_oc_app]
        dsimp only
        rw [List.append_nil]
        exact hoc
      · have hbd : md_bnd (m.1 ++ [(par, fs, y.1.getD md_plain, y.2.1.1, true, ([] : List Int32))], y.2.2) m.1.length = v := by
          unfold md_bnd
          dsimp only
          rw [hgetu]
          dsimp only
          rw [hgd, hv]
          rfl
        rw [hbd]
        dsimp only
        rw [hgd]
        exact ⟨hv, hrb⟩
  · simp only [sb_v, sw_ite, sw_some, hE'.ne, if_false]
    refine her f ?_ E' (hE'.to2.of hfr)
    rcases hf with hf | ⟨y, hy, hmu, h2, rfl⟩
    · rw [hf]
    · rw [hy]
      dsimp only
      rw [if_pos hmu, if_pos h2]
theorem r163 (hL : LN T N) (hL2 : LN2 T N) (h : rH C X T N D) (h8 : D.1 (X + 49) 8 = sm_k (-1)) (h54 : D.1 (X + 49) 54 = ni 0) (hm : RM X T N D m l) (hi : m.1.length < 40) (hpar : (par = sm_k (-1) ∧ dep = 0) ∨ ∃ p, par = ni p ∧ p < m.1.length ∧ 1 ≤ dep ∧ D.1 (X + 62) p = ni (dep - 1)) (hdep : dep < 1000) (h60 : D.1 (X + 49) 60 = ni s) (hs : s ≤ dep) (hb : b ≤ N) (hab : a ≤ b) (hB : BB T a b) (hl : l.length ≤ 2 * a + 9 * m.1.length) (hoc : (md_oc m.1).length ≤ a) (hA : m.1.length = 0 → m.2.1 = [] ∧ ∀ k, m.2.2.2 k = [])
    (hok : ∀ m1 body, md_ent T dep par a b m = .ok (m1, body) → ∀ E', rEN X T N D m m1 dep s a b body E' → Q (.inl none) E')
    (her : ∀ f, md_ent T dep par a b m = .error f → ∀ E', rE2 X D f E' → Q (.inl none) E') :
    sw (sm_fe C 163 [.ref (X + 49), .int par, .int (ni a), .int (ni b)] D) Q := by
  have hX := h.1
  have hN := h.2.2.1
  obtain ⟨m9, m28, m40, m200, mT, mO, mE, mS, mD, mA0, mA1⟩ := id hm
  -- the cells of the new entity
  have go : ∀ (D2 : sm_D), D2 = sm_dI (sm_dI D (X + 49) 9 (ni (m.1.length + 1))) (X + 53) m.1.length par → sw (sm_fx C 163 47 [.ref (X + 49), sm_junk, .int (ni a), .int (ni b), .int (ni m.1.length), sm_junk] [.int (ni dep), .int (ni m.1.length), .ref (X + 62)] D2) Q := by
    intro D2 hD2
    have f2 : fr (sE0 X m.1.length) D D2 := by rw [hD2]; exact (fr.refl.dI (by unfold sE0; omega)).dI (by unfold sE0; omega)
    have k9 : D2.1 (X + 49) 9 = ni (m.1.length + 1) := by rw [hD2, dI_ne (by omega), dI_eq]
    have k53 : D2.1 (X + 53) m.1.length = par := by rw [hD2, dI_eq]
    refine sw_ge (n163_47 hX) ?_
    have n0 : sm_nar .boolean (ni 0) = ni 0 := rfl
    have e34 : sm_up (sm_up (sm_up (sm_up D2.1 (X + 62) m.1.length (ni dep)) (X + 56) m.1.length (ni 0)) (X + 57) m.1.length (ni 0)) (X + 61) m.1.length (ni 0) (X + 49) 34 = ni (md_oc m.1).length := by
      rw [up_ne (by omega), up_ne (by omega), up_ne (by omega), up_ne (by omega), f2.2 _ _ (by unfold sE0; omega)]; exact mO.1
    simp (disch := omega) only [sw_gu, ni_in, ni_nat, n0, e34, sw_bv]
    refine ⟨decide_eq_true hi, decide_eq_true hi, decide_eq_true hi, decide_eq_true hi, decide_eq_true hi, decide_eq_true hi, ?_⟩
    generalize hE1 : sm_dI (sm_dI (sm_dI (sm_dI (sm_dI (sm_dI D2 (X + 62) m.1.length (ni dep)) (X + 56) m.1.length (ni 0)) (X + 57) m.1.length (ni 0)) (X + 61) m.1.length (ni 0)) (X + 59) m.1.length (ni (md_oc m.1).length)) (X + 60) m.1.length (ni 0) = E1
    have f1 : fr (sE0 X m.1.length) D E1 := by
      rw [← hE1]
      exact (((((f2.dI (by unfold sE0; omega)).dI (by unfold sE0; omega)).dI (by unfold sE0; omega)).dI (by unfold sE0; omega)).dI (by unfold sE0; omega)).dI (by unfold sE0; omega)
    have q9 : E1.1 (X + 49) 9 = ni (m.1.length + 1) := by rw [← hE1, dI_ne (by omega), dI_ne (by omega), dI_ne (by omega), dI_ne (by omega), dI_ne (by omega), dI_ne (by omega)]; exact k9
    have q53 : E1.1 (X + 53) m.1.length = par := by rw [← hE1, dI_ne (by omega), dI_ne (by omega), dI_ne (by omega), dI_ne (by omega), dI_ne (by omega), dI_ne (by omega)]; exact k53
    have q62 : E1.1 (X + 62) m.1.length = ni dep := by rw [← hE1, dI_ne (by omega), dI_ne (by omega), dI_ne (by omega), dI_ne (by omega), dI_ne (by omega), dI_eq]
    have q56 : E1.1 (X + 56) m.1.length = ni 0 := by rw [← hE1, dI_ne (by omega), dI_ne (by omega), dI_ne (by omega), dI_ne (by omega), dI_eq]
    have q57 : E1.1 (X + 57) m.1.length = ni 0 := by rw [← hE1, dI_ne (by omega), dI_ne (by omega), dI_ne (by omega), dI_eq]
    have q61 : E1.1 (X + 61) m.1.length = ni 0 := by rw [← hE1, dI_ne (by omega), dI_ne (by omega), dI_eq]
    have q59 : E1.1 (X + 59) m.1.length = ni (md_oc m.1).length := by rw [← hE1, dI_ne (by omega), dI_eq]
    have q60 : E1.1 (X + 60) m.1.length = ni 0 := by rw [← hE1, dI_eq]
    clear hE1
    have o1 : ∀ c j, ¬ sE0 X m.1.length c j → E1.1 c j = D.1 c j := f1.2
    have hH1 : rH C X T N E1 := h.fr f1 (fun c j hc => by unfold sE0 at hc; omega)
    refine r164 hH1 (by rw [o1 _ _ (by unfold sE0; omega)]; exact h8) hb hab hB hi (by rw [o1 _ _ (by unfold sE0; omega)]; exact m28) m200 (fun fs body hfs hbody E2 f3 hF3 h83 h45 => ?_) (fun f hf E' hE' => ?_)
    · have o2 : ∀ c j, ¬ sFi X m.1.length m.tot c j → E2.1 c j = E1.1 c j := f3.2
      have hr2 : rF2 X D E2 := (f1.Fr2 (fun c j hc => sE0_R2 hc)).trans (f3.Fr2 (fun c j hc => sFi_R2 hc))
      have hH2 : rH C X T N E2 := hH1.fr f3 (fun c j hc => by unfold sFi at hc; omega)
      have old2 : ∀ c j, oldc X m.1.length m.tot c j → E2.1 c j = D.1 c j := fun c j hc => (o2 _ _ (fun g => old_Fi hc g)).trans (o1 _ _ (fun g => old_E0 hc g))
      have bo : ∀ c j, ¬ sE0 X m.1.length c j → ¬ sFi X m.1.length m.tot c j → E2.1 c j = D.1 c j := fun c j h1 h2 => (o2 _ _ h2).trans (o1 _ _ h1)
      have T2 : RT X l E2 := ⟨by rw [bo _ _ (by unfold sE0; omega) (by unfold sFi; omega)]; exact mT.1, fun k hk => by rw [bo _ _ (by unfold sE0; omega) (by unfold sFi; omega)]; exact mT.2 k hk⟩
      have S2 : SUB X m.2.1 E2 := (mS.fr f1 (fun c j hc => by unfold sE0 at hc; omega)).fr f3 (fun c j hc => by unfold sFi at hc; omega)
      have O2 : OCT X (md_oc m.1) E2 := (mO.fr f1 (fun c j hc => by unfold sE0 at hc; omega)).fr f3 (fun c j hc => by unfold sFi at hc; omega)
      have A20 : RA X 0 (m.2.2.2 false) l E2 := (mA0.fr f1 (fun c j hc => by unfold sE0 at hc; omega)).fr f3 (fun c j hc => by unfold sFi at hc; omega)
      have A21 : RA X 1 (m.2.2.2 true) l E2 := (mA1.fr f1 (fun c j hc => by unfold sE0 at hc; omega)).fr f3 (fun c j hc => by unfold sFi at hc; omega)
      have D2' : E2.2.1 (X + 49) 38 = Int64.ofInt m.2.2.1.1 ∧ E2.1 (X + 49) 39 = Int32.ofInt m.2.2.1.2 := ⟨by rw [f3.1, f1.1]; exact mD.1, by rw [bo _ _ (by unfold sE0; omega) (by unfold sFi; omega)]; exact mD.2⟩
      have c61 : E2.1 (X + 61) m.1.length = ni 0 := by rw [o2 _ _ (by unfold sFi; omega)]; exact q61
      have c56 : E2.1 (X + 56) m.1.length = ni 0 := by rw [o2 _ _ (by unfold sFi; omega)]; exact q56
      have c57 : E2.1 (X + 57) m.1.length = ni 0 := by rw [o2 _ _ (by unfold sFi; omega)]; exact q57
      have c54 : E2.1 (X + 49) 54 = ni 0 := by rw [bo _ _ (by unfold sE0; omega) (by unfold sFi; omega)]; exact h54
      have h84 : ∀ c j, X + 84 ≤ c → c ≤ X + 88 → E2.1 c j = D.1 c j := fun c j c1 c2 => bo _ _ (by unfold sE0; omega) (by unfold sFi; omega)
      have c9 : E2.1 (X + 49) 9 = ni (m.1.length + 1) := by rw [o2 _ _ (by unfold sFi; omega)]; exact q9
      have c60 : E2.1 (X + 49) 60 = ni s := by rw [bo _ _ (by unfold sE0; omega) (by unfold sFi; omega)]; exact h60
      have c53 : E2.1 (X + 53) m.1.length = par := by rw [o2 _ _ (by unfold sFi; omega)]; exact q53
      have c62 : E2.1 (X + 62) m.1.length = ni dep := by rw [o2 _ _ (by unfold sFi; omega)]; exact q62
      have c59 : E2.1 (X + 59) m.1.length = ni (md_oc m.1).length := by rw [o2 _ _ (by unfold sFi; omega)]; exact q59
      have cz60 : E2.1 (X + 60) m.1.length = ni 0 := by rw [o2 _ _ (by unfold sFi; omega)]; exact q60
      simp only [sb_v, sw_ite, sw_bi]
      rw [if_pos h83, h45, show ni 1 = ni 1 from rfl, r169 hX hi (by omega) hF3.1 hF3.2.1 hF3.2.2.2.1 (fun j g hj => ⟨(hF3.2.2.2.2.2 j g hj).1.1, (hF3.2.2.2.2.2 j g hj).2⟩), sw_some]
      simp only [sb_i, sw_ite, sw_bv]
      have hfx : (md_fx 1 m.tot fs 0 (sm_k (-1)) = sm_k (-1)) = (fs.any (fun h => h.1 == 1) = false) := md_fx_iff (by have := hF3.2.2.2.1; omega)
      by_cases hany : fs.any (fun h => h.1 == 1) = false
      · rw [if_pos (by rw [hfx]; exact hany)]
        refine r171 hX h.2.1 hi T2 (by omega) (fun E3 n f4 T3 s1 s2 hn => ?_)
        have o3 : ∀ c j, ¬ sPp X m.1.length c j → E3.1 c j = E2.1 c j := f4.2
        have kp3 : ∀ c j, kpc X c j → E3.1 c j = E2.1 c j := fun c j hc => o3 _ _ (fun g => kpc_Pp hc g)
        simp only [sb_v]
        exact r163_131 (W := true) (n := n) hL hL2 (hH2.fr f4 (fun c j hc => by unfold sPp rsc at hc; omega)) (by rw [o3 _ _ (by unfold sPp rsc; omega)]; exact h83) (by rw [kp3 _ _ (by unfold kpc; omega)]; exact c54) hm hi (hr2.trans (f4.Fr2 (fun c j hc => sPp_R2 hc))) (fun c j hc => (o3 _ _ (fun g => old_Pp hc g)).trans (old2 c j hc)) (fun c j c1 c2 => (kp3 _ _ (by unfold kpc; omega)).trans (h84 c j c1 c2)) (by rw [kp3 _ _ (by unfold kpc; omega)]; exact c9) (by rw [kp3 _ _ (by unfold kpc; omega)]; exact c60) hs (by rw [kp3 _ _ (by unfold kpc; omega)]; exact c53) (by rw [kp3 _ _ (by unfold kpc; omega)]; exact c62) hdep (by rw [kp3 _ _ (by unfold kpc; omega)]; exact c59) (by rw [kp3 _ _ (by unfold kpc; omega)]; exact cz60) (hF3.of (fun c j hc => o3 _ _ (fun g => fic_Pp hc g))) hfs hbody hb hB rfl (by rw [List.length_append]; omega) T3 ⟨⟨by rw [o3 _ _ (by unfold sPp rsc; omega)]; exact c61, by rw [o3 _ _ (by unfold sPp rsc; omega)]; exact c56, fun _ => ⟨s1, s2⟩⟩, ⟨by rw [o3 _ _ (by unfold sPp rsc; omega)]; exact c57, Nat.zero_le _, fun z => absurd z (show ¬ 2 < 0 by decide)⟩, ⟨by rw [f4.1]; exact D2'.1, by rw [o3 _ _ (by unfold sPp rsc; omega)]; exact D2'.2⟩, (A20.fr f4 (fun c j hc => by unfold sPp rsc at hc; omega)).mono, (A21.fr f4 (fun c j hc => by unfold sPp rsc at hc; omega)).mono⟩ (fun _ => rfl) (S2.fr f4 (fun c j hc => by unfold sPp rsc at hc; omega)) (O2.fr f4 (fun c j hc => by unfold sPp rsc at hc; omega)) hoc hA (fun m1 hm1 => hok m1 body hm1) her
      · rw [if_neg (by rw [hfx]; exact hany)]
        exact r163_131 (W := false) (n := []) hL hL2 hH2 h83 c54 hm hi hr2 old2 h84 c9 c60 hs c53 c62 hdep c59 cz60 hF3 hfs hbody hb hB (List.append_nil l).symm (by omega) T2 ⟨⟨c61, c56, fun z => nomatch z⟩, ⟨c57, Nat.zero_le _, fun z => absurd z (show ¬ 2 < 0 by decide)⟩, D2', A20, A21⟩ (fun z => absurd (List.any_eq_false.mpr (fun g hg => by simpa using z g hg)) hany) S2 O2 hoc hA (fun m1 hm1 => hok m1 body hm1) her
    · simp only [sb_v, sw_ite, sw_some, hE'.ne, if_false]
      refine her f ?_ E' (hE'.of (f1.Fr2 (fun c j hc => sE0_R2 hc)))
      unfold md_ent
      rw [hf]
      rfl
  refine sw_ge (f163 hX) ?_
  simp (disch := omega) only [sw_gu, m9, ni_in, ni_nat, ni_add, sw_ite]
  refine ⟨decide_eq_true hi, ?_⟩
  rcases hpar with ⟨hp, hd⟩ | ⟨p, hp, hpl, hd, hd2⟩
  · rw [if_pos hp]
    have := go _ rfl
    rw [hd] at this
    exact this
  · rw [if_neg (by rw [hp, ni_ne_k (by omega)]; exact id)]
    have e1 : sm_up (sm_up D.1 (X + 49) 9 (ni (m.1.length + 1))) (X + 53) m.1.length par (X + 62) p = ni (dep - 1) := by rw [up_ne (by omega), up_ne (by omega)]; exact hd2
    have go' := go _ rfl
    rw [hp] at go' e1 ⊢
    simp (disch := omega) only [ni_in, ni_nat, e1, ni_add]
    rw [show dep - 1 + 1 = dep from by omega]
    exact ⟨decide_eq_true (by omega), go'⟩
end RHF
