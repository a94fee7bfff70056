/-! ===== the reference: a message ===== -/
/-- open multiparts that wait for more -/
def nop : List md_O → Nat
  | [] => 0
  | o :: r => if o.2.2.2.2 = true then nop r else nop r + 1
def STR (X : Nat) (E : sm_D) : List md_O → Prop
  | [] => True
  | o :: r => (o.2.2.2.2 = false → E.1 (X + 84) (nop r) = ni o.1 ∧ E.1 (X + 85) (nop r) = ni o.2.1 ∧ E.1 (X + 86) (nop r) = ni o.2.2.2.1 ∧ E.1 (X + 87) (nop r) = ni o.2.2.2.1 ∧ E.1 (X + 88) (nop r) = ni o.2.2.1) ∧ STR X E r
def DPT (X : Nat) (E : sm_D) : List md_O → Prop
  | [] => True
  | o :: r => E.1 (X + 62) o.1 = ni r.length ∧ DPT X E r
def md_cont (T : Nat → Int32) (n : Nat) (m : md_M) (st : List md_O) : Except Nat md_M :=
  match st.dropWhile (fun o => o.2.2.2.2) with
  | [] => .ok m
  | o :: r => match n with
    | 0 => .error o.2.2.1
    | n + 1 => match md_del T (md_bnd m o.1) o.2.1 o.2.2.2.1 with
      | none => .error o.2.1
      | some d => md_msg T n (ni o.1) o.2.2.2.1 (max o.2.2.2.1 (d.1 - 2)) m ((o.1, o.2.1, d) :: r)
/-- cells that a message lies in -/
def rmc (X c j : Nat) : Prop := (c = X + 49 ∧ (j = 9 ∨ j = 28 ∨ j = 20 ∨ j = 34 ∨ j = 36 ∨ j = 39)) ∨ (X + 53 ≤ c ∧ c ≤ X + 79)
/-- what the loop over the parts may change -/
def sLp (X c j : Nat) : Prop := sDe X c j ∨ (c = X + 49 ∧ (j = 8 ∨ j = 60)) ∨ (X + 84 ≤ c ∧ c ≤ X + 88)
def RINV (C : sm_K) (X : Nat) (T : Nat → Int32) (N : Nat) (D0 : sm_D) (m : md_M) (st : List md_O) (E : sm_D) : Prop :=
  rH C X T N E ∧ E.1 (X + 49) 8 = sm_k (-1) ∧ E.1 (X + 49) 54 = ni 0 ∧ rF2 X D0 E ∧ E.1 (X + 49) 60 = ni (nop st) ∧ STR X E st ∧ DPT X E st ∧ (∃ l, RM X T N E m l ∧ l.length ≤ 16400 ∧ ∀ o ∈ st, l.length ≤ 2 * o.2.2.2.1 + 9 * m.1.length) ∧ st.length ≤ 6 ∧ (∀ o ∈ st, OK1 N m o ∧ md_rb (md_bnd m o.1) = true ∧ BB T o.2.2.2.1 o.2.1 ∧ (md_oc m.1).length ≤ o.2.2.2.1) ∧ st.Pairwise (fun o o' => o.2.1 ≤ o'.2.2.2.1) ∧ 1 ≤ m.1.length
section RHH
variable {C : sm_K} {X N : Nat} {T : Nat → Int32} {D E F D0 : sm_D} {Q : (Option Value ⊕ Nat) → sm_D → Prop} {l : List Int32} {m : md_M} {st : List md_O}
theorem nop_le : nop st ≤ st.length := by
  induction st with
  | nil => exact Nat.le_refl _
  | cons o r ih =>
    unfold nop
    rw [List.length_cons]
    split <;> omega
theorem nop_drop : nop (st.dropWhile (fun o => o.2.2.2.2)) = nop st := by
  induction st with
  | nil => rfl
  | cons o r ih =>
    rw [List.dropWhile_cons]
    split
    · next h => rw [ih]; conv => rhs; unfold nop
                rw [if_pos h]
    · rfl
theorem STR.of (h : STR X D st) (g : ∀ c j, X + 84 ≤ c → c ≤ X + 88 → j < nop st → E.1 c j = D.1 c j) : STR X E st := by
  induction st with
  | nil => trivial
  | cons o r ih =>
    refine ⟨fun ho => ?_, ih h.2 (fun c j c1 c2 hj => g c j c1 c2 ?_)⟩
    · have e : nop (o :: r) = nop r + 1 := by unfold nop; rw [if_neg (by rw [ho]; exact Bool.false_ne_true)]; cases r <;> rfl
      obtain ⟨a1, a2, a3, a4, a5⟩ := h.1 ho
      exact ⟨by rw [g _ _ (by omega) (by omega) (by omega)]; exact a1, by rw [g _ _ (by omega) (by omega) (by omega)]; exact a2, by rw [g _ _ (by omega) (by omega) (by omega)]; exact a3, by rw [g _ _ (by omega) (by omega) (by omega)]; exact a4, by rw [g _ _ (by omega) (by omega) (by omega)]; exact a5⟩
    · have : nop r ≤ nop (o :: r) := by
        conv => rhs; unfold nop
        split <;> omega
      omega
theorem STR.drop (h : STR X E st) : STR X E (st.dropWhile (fun o => o.2.2.2.2)) := by
  induction st with
  | nil => exact h
  | cons o r ih =>
    rw [List.dropWhile_cons]
    split
    · exact ih h.2
    · exact h
theorem DPT.drop (h : DPT X E st) : DPT X E (st.dropWhile (fun o => o.2.2.2.2)) := by
  induction st with
  | nil => exact h
  | cons o r ih =>
    rw [List.dropWhile_cons]
    split
    · exact ih h.2
    · exact h
theorem DPT.of (h : DPT X D st) (g : ∀ o ∈ st, E.1 (X + 62) o.1 = D.1 (X + 62) o.1) : DPT X E st := by
  induction st with
  | nil => trivial
  | cons o r ih => exact ⟨by rw [g o List.mem_cons_self]; exact h.1, ih h.2 (fun o' ho' => g o' (List.mem_cons_of_mem _ ho'))⟩
theorem RM.of (h : RM X T N D m l) (g : ∀ c j, rmc X c j → E.1 c j = D.1 c j) (g2 : E.2 = D.2) : RM X T N E m l := by
  obtain ⟨a1, a2, a3, a4, a5, a6, a7, a8, a9, a10, a11⟩ := h
  refine ⟨by rw [g _ _ (by unfold rmc; omega)]; exact a1, by rw [g _ _ (by unfold rmc; omega)]; exact a2, a3, a4, ⟨by rw [g _ _ (by unfold rmc; omega)]; exact a5.1, fun k hk => by rw [g _ _ (by unfold rmc; omega)]; exact a5.2 k hk⟩, ⟨by rw [g _ _ (by unfold rmc; omega)]; exact a6.1, fun k hk => by rw [g _ _ (by unfold rmc; omega)]; exact a6.2 k hk⟩, fun j u hj => ?_, ⟨by rw [g _ _ (by unfold rmc; omega)]; exact a8.1, fun k hk => by rw [g _ _ (by unfold rmc; omega)]; exact a8.2 k hk⟩, ⟨by rw [g2]; exact a9.1, by rw [g _ _ (by unfold rmc; omega)]; exact a9.2⟩, a10.of (fun c j hc => g _ _ (by unfold rmc; omega)), a11.of (fun c j hc => g _ _ (by unfold rmc; omega))⟩
  have hj2 : j < m.1.length := by
    rcases Nat.lt_or_ge j m.1.length with z | z
    · exact z
    · rw [List.getElem?_eq_none z] at hj; cases hj
  have := REN_old (n := []) (E := E) (a7 j u hj) hj2 (md_tb_get hj) (fun c j hc => g _ _ (by unfold oldc at hc; unfold rmc; omega))
  rw [List.append_nil] at this
  exact this
theorem sLp_rmc {c j : Nat} (h : sLp X c j) (g : rmc X c j) : False := by unfold sLp sDe at h; unfold rmc at g; omega
theorem sLp_R2 {c j : Nat} (h : sLp X c j) : rR2 X c j := by unfold sLp sDe at h; unfold rR2; omega
theorem RM.lp (h : RM X T N D m l) (g : fr (sLp X) D E) : RM X T N E m l := h.of (fun c j hc => g.2 c j (fun z => sLp_rmc z hc)) g.1
theorem rH_lp (h : rH C X T N D) (g : fr (sLp X) D E) : rH C X T N E := h.fr g (fun c j hc => by unfold sLp sDe at hc; omega)
theorem md_msg_cont {n : Nat} {par : Int32} {a b : Nat} : md_msg T n par a b m st = (match md_ent T st.length par a b m with
    | .error x => .error x
    | .ok w => match md_st1 T w.1 w.2 b st with
      | .error x => .error x
      | .ok st1 => md_cont T n w.1 st1) := by
  rw [md_msg_eq]
  cases md_ent T st.length par a b m with
  | error x => rfl
  | ok w =>
    obtain ⟨m1, body⟩ := w
    dsimp only
    cases md_st1 T m1 body b st with
    | error x => rfl
    | ok st1 =>
      dsimp only
      unfold md_cont
      cases st1.dropWhile (fun o => o.2.2.2.2) with
      | nil => rfl
      | cons o r =>
        cases n with
        | zero => rfl
        | succ n =>
          dsimp only
          cases md_del T (md_bnd m1 o.1) o.2.1 o.2.2.2.1 with
          | none => rfl
          | some d => rfl
theorem r159_e (hX : sm_Lay C X) {f : Nat} (h : rE2 X D f E) (hq : Q (.inl none) E) : sw (sm_fx C 159 81 [.ref (X + 49), sm_junk, sm_junk, sm_junk, sm_junk, sm_junk] [] E) Q := by
  refine sw_ge (n159_81 hX) ?_
  simp only [sw_ite, sw_some, h.ne, if_false]
  exact hq
theorem rE2_lp {f : Nat} (h : rF2 X D0 D) (g : fr (sLp X) D E) (hf : f ≤ 8000) (h8 : E.1 (X + 49) 8 = ni f) : rE2 X D0 f E := ⟨hf, h8, h.trans (g.Fr2 (fun c j hc => sLp_R2 hc))⟩
/-- behind an entity -/
theorem r159_aft {n dep a b body : Nat} {par : Int32} {m1 : md_M} (hH : rH C X T N D) (h54 : D.1 (X + 49) 54 = ni 0) (hF0 : rF2 X D0 D) (hS : STR X D st) (hDp : DPT X D st) (hst6 : st.length ≤ 6) (ho : ∀ o ∈ st, OK1 N m o ∧ md_rb (md_bnd m o.1) = true ∧ BB T o.2.2.2.1 o.2.1 ∧ b ≤ o.2.2.2.1) (hpw : st.Pairwise (fun o o' => o.2.1 ≤ o'.2.2.2.1)) (hm40 : m.1.length < 40) (hb : b ≤ N) (hab : a ≤ b) (hB : BB T a b) (hdep : dep = st.length)
    (hent : md_ent T dep par a b m = .ok (m1, body)) (hE : rEN X T N D m m1 dep (nop st) a b body E)
    (ih : ∀ st1 E', md_st1 T m1 body b st = .ok st1 → RINV C X T N D0 m1 st1 E' → sw (sm_fx C 159 81 [.ref (X + 49), sm_junk, sm_junk, sm_junk, sm_junk, sm_junk] [] E') Q)
    (her : ∀ f, md_st1 T m1 body b st = .error f → ∀ E', rE2 X D0 f E' → Q (.inl none) E') :
    sw (sm_fx C 159 81 [.ref (X + 49), sm_junk, sm_junk, sm_junk, sm_junk, sm_junk] [] E) Q := by
  have hX := hH.1
  have hN := hH.2.2.1
  obtain ⟨e1, e2, ⟨l1, e3, e4⟩, e5, e6, ⟨e7, e8⟩, e9, ⟨u, eu⟩, e10⟩ := hE
  obtain ⟨mE, mR⟩ := m1
  dsimp only at eu e9 e10
  subst eu
  have hH2 : rH C X T N E := ⟨hH.1, hH.2.1, hH.2.2.1, fun k hk => by rw [e1.2.1 _ _ (by unfold rR2; omega)]; exact hH.2.2.2.1 k hk, hH.2.2.2.2⟩
  have h542 : E.1 (X + 49) 54 = ni 0 := by rw [e1.2.1 _ _ (by unfold rR2; omega)]; exact h54
  have hDp2 : DPT X E st := hDp.of (fun o hos => e6 _ _ (Or.inl ⟨by omega, by omega, (ho o hos).1.1⟩))
  have bnd : ∀ o ∈ st, md_bnd (m.1 ++ [u], mR) o.1 = md_bnd m o.1 := fun o hos => by
    have := (ho o hos).1.1
    unfold md_bnd
    dsimp only
    rw [List.getElem?_append_left this]
  have ok1 : ∀ o ∈ st, OK1 N (m.1 ++ [u], mR) o := fun o hos => OK1_app (ho o hos).1
  unfold md_st1 at ih her
  rcases e10 with ⟨q1, q2, q3, q4⟩ | ⟨q1, q2, q3, ⟨q4, q5, q6, q7⟩, q8, q9, u', q10, q11, q12⟩
  · rw [q1, if_neg Bool.false_ne_true] at ih
    refine ih st E rfl ⟨hH2, e2, h542, hF0.trans e1, q2, hS.of (fun c j c1 c2 _ => q3 c j c1 c2), hDp2, ⟨l1, e3, by omega, fun o hos => ?_⟩, hst6, fun o hos => ⟨ok1 o hos, by rw [bnd o hos]; exact (ho o hos).2.1, (ho o hos).2.2.1, ?_⟩, hpw, by dsimp only; omega⟩
    · have := (ho o hos).2.2.2
      dsimp only
      omega
    · have := (ho o hos).2.2.2
      dsimp only
      omega
  · rw [q1, if_pos rfl] at ih her
    unfold md_open at ih her
    dsimp only at ih her q10
    rw [e9, Nat.add_sub_cancel] at ih her
    have hn8 : nop st < 8 := by have := nop_le (st := st); omega
    refine sw_ge (n159_81 hX) ?_
    simp (disch := omega) only [sw_ite, sw_gu, e2, if_true, q3, ni_le, ni_sub, Nat.add_sub_cancel, ni_in, ni_nat, q7, q4, q5]
    rw [if_neg (by omega)]
    refine ⟨decide_eq_true hn8, decide_eq_true hn8, decide_eq_true hn8, ?_⟩
    refine sw_ge (n159_149 hX) ?_
    simp (disch := omega) only [sw_gu, ni_in, ni_nat, q6, sw_bi]
    refine ⟨decide_eq_true hn8, ?_⟩
    have hren := (e3.2.2.2.2.2.2.1 _ _ q10).2.2.2.2.2.2
    refine r229 (l := l1) hH2 hb hm40 e3.2.2.2.2.1 (by omega) hren q11 q12 (by omega) (fun q g => hB q (by omega)) (fun hno E' hf => ?_) (fun d hd E' hf k65 k66 k67 => ?_)
    · simp only [sb_i, sw_ite, if_true, sw_bv]
      rw [r162 hX (by rw [hf.2 _ _ (by unfold sDe; omega)]; exact e2), sw_some]
      simp only [sb_v]
      have hf2 : fr (sLp X) E (sm_dI E' (X + 49) 8 (ni b)) := (hf.mono (fun c j hc => Or.inl hc)).dI (Or.inr (Or.inl ⟨rfl, Or.inl rfl⟩))
      have hE2 : rE2 X D0 b (sm_dI E' (X + 49) 8 (ni b)) := rE2_lp (hF0.trans e1) hf2 (by omega) dI_eq
      exact r159_e hX hE2 (her b (by rw [hno]; rfl) _ hE2)
    · have hdo := md_del_ok hd
      have hs : ∀ c j, ¬ sDe X c j → E'.1 c j = E.1 c j := hf.2
      have k87 : E'.1 (X + 87) (nop st) = sm_k (-1) := by rw [hs _ _ (by unfold sDe; omega)]; exact q7
      rw [hd] at ih her
      dsimp only at ih her
      simp (disch := omega) only [sb_i, sw_ite, sw_gu, ni_in, ni_nat, k87, if_true, sw_bv, k67, k65]
      rw [if_neg (show ¬ (ni 1 = ni 0) by decide)]
      refine ⟨decide_eq_true hn8, ?_⟩
      -- the cells are set
      have c197 : ∀ F : sm_D, fr (sLp X) E F → (∀ c j, X + 84 ≤ c → F.1 c j = E.1 c j) → F.1 (X + 49) 60 = E.1 (X + 49) 60 → F.1 (X + 49) 65 = ni d.1 → F.1 (X + 49) 66 = ni d.2.1 → (∀ G : sm_D, fr (sLp X) E G → G.1 (X + 49) 8 = F.1 (X + 49) 8 → G.1 (X + 49) 60 = E.1 (X + 49) 60 → (G.1 (X + 84) (nop st) = E.1 (X + 84) (nop st) ∧ G.1 (X + 85) (nop st) = E.1 (X + 85) (nop st) ∧ G.1 (X + 86) (nop st) = ni d.2.1 ∧ G.1 (X + 87) (nop st) = ni d.2.1 ∧ G.1 (X + 88) (nop st) = ni d.1) → (∀ c j, X + 84 ≤ c → j ≠ nop st → G.1 c j = E.1 c j) → sw (sm_fx C 159 81 [.ref (X + 49), sm_junk, sm_junk, sm_junk, sm_junk, sm_junk] [] G) Q) → sw (sm_fx C 159 197 [.ref (X + 49), .int (ni (nop st)), sm_junk, sm_junk, sm_junk, sm_junk] [] F) Q := by
        intro F f1 f2 f3 f4 f5 hG
        refine sw_ge (n159_197 hX) ?_
        have u1 : sm_up F.1 (X + 87) (nop st) (ni d.2.1) (X + 49) 65 = ni d.1 := by rw [up_ne (by omega)]; exact f4
        have u2 : sm_up (sm_up F.1 (X + 87) (nop st) (ni d.2.1)) (X + 88) (nop st) (ni d.1) (X + 49) 66 = ni d.2.1 := by rw [up_ne (by omega), up_ne (by omega)]; exact f5
        simp (disch := omega) only [sw_gu, ni_in, ni_nat, f5, u1, u2]
        refine ⟨decide_eq_true hn8, decide_eq_true hn8, decide_eq_true hn8, ?_⟩
        refine hG (sm_dI (sm_dI (sm_dI F (X + 87) (nop st) (ni d.2.1)) (X + 88) (nop st) (ni d.1)) (X + 86) (nop st) (ni d.2.1)) (((f1.dI (by unfold sLp; omega)).dI (by unfold sLp; omega)).dI (by unfold sLp; omega)) (by rw [dI_ne (by omega), dI_ne (by omega), dI_ne (by omega)]) (by rw [dI_ne (by omega), dI_ne (by omega), dI_ne (by omega)]; exact f3) ⟨?_, ?_, ?_, ?_, ?_⟩ (fun c j hc hj => ?_)
        · rw [dI_ne (by omega), dI_ne (by omega), dI_ne (by omega)]; exact f2 _ _ (by omega)
        · rw [dI_ne (by omega), dI_ne (by omega), dI_ne (by omega)]; exact f2 _ _ (by omega)
        · rw [dI_eq]
        · rw [dI_ne (by omega), dI_ne (by omega), dI_eq]
        · rw [dI_ne (by omega), dI_eq]
        · rw [dI_ne (by omega), dI_ne (by omega), dI_ne (by omega)]; exact f2 _ _ hc
      have hf2 : fr (sLp X) E E' := hf.mono (fun c j hc => Or.inl hc)
      cases hcl : d.2.2
      · rw [hcl, if_neg Bool.false_ne_true] at ih
        rw [if_pos (show md_b false = ni 0 from rfl)]
        refine c197 E' hf2 (fun c j hc => hs _ _ (by unfold sDe; omega)) (hs _ _ (by unfold sDe; omega)) k65 k66 (fun G g1 g2 g3 g4 g5 => ?_)
        have hnp : nop ((m.1.length, b, d) :: st) = nop st + 1 := by
          conv => lhs; unfold nop
          dsimp only
          rw [hcl, if_neg Bool.false_ne_true]
        refine ih ((m.1.length, b, d) :: st) G rfl ⟨rH_lp hH2 g1, ?_, ?_, (hF0.trans e1).trans (g1.Fr2 (fun c j hc => sLp_R2 hc)), ?_, ⟨fun _ => ?_, ?_⟩, ⟨?_, ?_⟩, ⟨l1, e3.lp g1, by omega, fun o hos => ?_⟩, by rw [List.length_cons]; omega, fun o hos => ?_, ?_, by dsimp only; omega⟩
        · rw [g2, hs _ _ (by unfold sDe; omega)]; exact e2
        · rw [g1.2 _ _ (by unfold sLp sDe; omega)]; exact h542
        · rw [g3, q3, hnp]
        · exact ⟨g4.1.trans q4, g4.2.1.trans q5, g4.2.2.1, g4.2.2.2.1, g4.2.2.2.2⟩
        · exact hS.of (fun c j c1 c2 hj => (g5 c j c1 (by omega)).trans (q8 c j c1 c2 (by omega)))
        · rw [g1.2 _ _ (by unfold sLp sDe; omega), e5, hdep]
        · exact hDp2.of (fun o hos => g1.2 _ _ (by unfold sLp sDe; omega))
        · dsimp only
          rcases List.mem_cons.mp hos with rfl | hos
          · dsimp only; omega
          · have := (ho o hos).2.2.2; omega
        · rcases List.mem_cons.mp hos with rfl | hos
          · refine ⟨⟨by dsimp only; omega, hb, by dsimp only; omega, by dsimp only; omega, hdo.2.1, u', q10, q11⟩, q12, fun q g => hB q (by dsimp only at g; omega), by dsimp only; omega⟩
          · have := (ho o hos).2.2.2
            exact ⟨ok1 o hos, by rw [bnd o hos]; exact (ho o hos).2.1, (ho o hos).2.2.1, by dsimp only; omega⟩
        · refine List.pairwise_cons.mpr ⟨fun o hos => ?_, hpw⟩
          exact (ho o hos).2.2.2
      · rw [hcl, if_pos rfl] at her
        rw [if_neg (show ¬ (md_b true = ni 0) by decide), r162 hX (by rw [hs _ _ (by unfold sDe; omega)]; exact e2), sw_some]
        simp only [sb_v]
        refine c197 (sm_dI E' (X + 49) 8 (ni d.1)) (hf2.dI (by unfold sLp; omega)) (fun c j hc => by rw [dI_ne (by omega)]; exact hs _ _ (by unfold sDe; omega)) (by rw [dI_ne (by omega)]; exact hs _ _ (by unfold sDe; omega)) (by rw [dI_ne (by omega)]; exact k65) (by rw [dI_ne (by omega)]; exact k66) (fun G g1 g2 g3 g4 g5 => ?_)
        have hE2 : rE2 X D0 d.1 G := rE2_lp (hF0.trans e1) g1 (by omega) (by rw [g2, dI_eq])
        exact r159_e hX hE2 (her d.1 rfl _ hE2)
end RHH
