/-! ===== the reference: an entity is read ===== -/
def sE0 (X i c j : Nat) : Prop := (c = X + 49 ∧ j = 9) ∨ ((c = X + 53 ∨ c = X + 62 ∨ c = X + 56 ∨ c = X + 57 ∨ c = X + 61 ∨ c = X + 59 ∨ c = X + 60) ∧ j = i)
/-- cells that the reading of a head's texts keeps -/
def kpc (X c j : Nat) : Prop := (c = X + 49 ∧ (j = 9 ∨ j = 34 ∨ j = 54 ∨ j = 60)) ∨ c = X + 75 ∨ c = X + 53 ∨ c = X + 62 ∨ c = X + 59 ∨ c = X + 60 ∨ (X + 84 ≤ c ∧ c ≤ X + 88) ∨ c = X + 51
/-- a push -/
def sPu (X s c j : Nat) : Prop := (c = X + 49 ∧ j = 60) ∨ (X + 84 ≤ c ∧ c ≤ X + 87 ∧ j = s)
section RHE
variable {C : sm_K} {X N i tot s : Nat} {T : Nat → Int32} {D E F : sm_D} {Q : (Option Value ⊕ Nat) → sm_D → Prop} {l : List Int32}
theorem kpc_Fi {c j : Nat} (h : kpc X c j) (g : sFi X i tot c j) : False := by unfold kpc at h; unfold sFi at g; omega
theorem kpc_Pp {c j : Nat} (h : kpc X c j) (g : sPp X i c j) : False := by unfold kpc at h; unfold sPp rsc at g; omega
theorem kpc_TX {c j : Nat} (h : kpc X c j) (g : sTX X i c j) : False := by unfold kpc at h; unfold sTX rsc rO at g; omega
theorem kpc_Sx {c j : Nat} (h : kpc X c j) (g : sSx X c j) : False := by unfold kpc at h; unfold sSx sPT sSu sEn sSb rsc at g; omega
theorem old_E0 {c j : Nat} (h : oldc X i tot c j) (g : sE0 X i c j) : False := by unfold oldc at h; unfold sE0 at g; omega
theorem old_Fi {c j : Nat} (h : oldc X i tot c j) (g : sFi X i tot c j) : False := by unfold oldc at h; unfold sFi at g; omega
theorem old_Pp {c j : Nat} (h : oldc X i tot c j) (g : sPp X i c j) : False := by unfold oldc at h; unfold sPp rsc at g; omega
theorem old_TX {c j : Nat} (h : oldc X i tot c j) (g : sTX X i c j) : False := by unfold oldc at h; unfold sTX rsc rO at g; omega
theorem old_Sx {c j : Nat} (h : oldc X i tot c j) (g : sSx X c j) : False := by unfold oldc at h; unfold sSx sPT sSu sEn sSb rsc at g; omega
theorem old_Pu {c j : Nat} (h : oldc X i tot c j) (g : sPu X s c j) : False := by unfold oldc at h; unfold sPu at g; omega
theorem old_Lf {c j : Nat} (h : oldc X i tot c j) (g : sLf X i c j) : False := by unfold oldc at h; unfold sLf sOc at g; omega
theorem sE0_R2 {c j : Nat} (h : sE0 X i c j) : rR2 X c j := by unfold sE0 at h; unfold rR2; omega
theorem sFi_R2 {c j : Nat} (h : sFi X i tot c j) : rR2 X c j := by unfold sFi at h; unfold rR2; omega
theorem sPp_R2 {c j : Nat} (h : sPp X i c j) : rR2 X c j := by unfold sPp rsc at h; unfold rR2; omega
theorem sPu_R2 {c j : Nat} (h : sPu X s c j) : rR2 X c j := by unfold sPu at h; unfold rR2; omega
theorem sLf_R2 {c j : Nat} (h : sLf X i c j) : rR2 X c j := by unfold sLf sOc at h; unfold rR2; omega
/-- fields' cells -/
def fic (X i c j : Nat) : Prop := ((c = X + 54 ∨ c = X + 55) ∧ j = i) ∨ (c = X + 49 ∧ j = 28) ∨ (X + 70 ≤ c ∧ c ≤ X + 74)
theorem RFS.of {fs : List md_F} (h : RFS X i tot fs D) (g : ∀ c j, fic X i c j → E.1 c j = D.1 c j) : RFS X i tot fs E := by
  obtain ⟨a1, a2, a3, a4, a5, a6⟩ := h
  refine ⟨by rw [g _ _ (by unfold fic; omega)]; exact a1, by rw [g _ _ (by unfold fic; omega)]; exact a2, by rw [g _ _ (by unfold fic; omega)]; exact a3, a4, a5, fun j h hj => ?_⟩
  obtain ⟨⟨q1, q2, q3, q4, q5⟩, q6⟩ := a6 j h hj
  refine ⟨⟨?_, ?_, ?_, ?_, ?_⟩, q6⟩ <;> rw [g _ _ (by unfold fic; omega)] <;> assumption
theorem fic_Pp {c j : Nat} (h : fic X i c j) (g : sPp X i c j) : False := by unfold fic at h; unfold sPp rsc at g; omega
theorem fic_TX {c j : Nat} (h : fic X i c j) (g : sTX X i c j) : False := by unfold fic at h; unfold sTX rsc rO at g; omega
theorem fic_Sx {c j : Nat} (h : fic X i c j) (g : sSx X c j) : False := by unfold fic at h; unfold sSx sPT sSu sEn sSb rsc at g; omega
theorem fic_Pu {c j : Nat} (h : fic X i c j) (g : sPu X s c j) : False := by unfold fic at h; unfold sPu at g; omega
theorem fic_Lf {c j : Nat} (h : fic X i c j) (g : sLf X i c j) : False := by unfold fic at h; unfold sLf sOc at g; omega
theorem md_oc_app {es : List md_E} {u : md_E} : md_oc (es ++ [u]) = md_oc es ++ u.2.2.2.2.2 := by
  unfold md_oc
  rw [List.map_append, List.flatten_append]
  simp
theorem md_tot_app {m : md_M} {u : md_E} {r : List Int32 × (Int × Int) × md_A} : md_M.tot (m.1 ++ [u], r) = m.tot + u.2.1.length := by
  unfold md_M.tot
  dsimp only
  rw [List.map_append, List.sum_append]
  simp
/-- a message with one more entity -/
theorem RM_new {m : md_M} {u : md_E} {r : List Int32 × (Int × Int) × md_A} {n : List Int32} (h : RM X T N D m l) (hi : m.1.length < 40) (ho : ∀ c j, oldc X m.1.length m.tot c j → E.1 c j = D.1 c j) (hu : REN X T N E (l ++ n) m.1.length m.tot (md_oc m.1).length u) (h9 : E.1 (X + 49) 9 = ni (m.1.length + 1)) (h28 : E.1 (X + 49) 28 = ni (m.tot + u.2.1.length)) (h200 : m.tot + u.2.1.length ≤ 200) (hT : RT X (l ++ n) E) (hO : OCT X (md_oc m.1 ++ u.2.2.2.2.2) E) (hS : SUB X r.1 E) (hd : E.2.1 (X + 49) 38 = Int64.ofInt r.2.1.1 ∧ E.1 (X + 49) 39 = Int32.ofInt r.2.1.2) (h0 : RA X 0 (r.2.2 false) (l ++ n) E) (h1 : RA X 1 (r.2.2 true) (l ++ n) E) : RM X T N E (m.1 ++ [u], r) (l ++ n) := by
  obtain ⟨a1, a2, a3, a4, a5, a6, a7, a8, a9, a10⟩ := h
  have hlen : (m.1 ++ [u]).length = m.1.length + 1 := by rw [List.length_append]; rfl
  refine ⟨by dsimp only; rw [hlen]; exact h9, by rw [md_tot_app]; exact h28, by dsimp only; rw [hlen]; omega, by rw [md_tot_app]; exact h200, hT, by dsimp only; rw [md_oc_app]; exact hO, fun j w hj => ?_, hS, hd, h0, h1⟩
  dsimp only at hj ⊢
  rcases Nat.lt_trichotomy j m.1.length with z | z | z
  · rw [List.getElem?_append_left z] at hj
    have e1 : md_tb (m.1 ++ [u]) j = md_tb m.1 j := by unfold md_tb; rw [List.take_append_of_le_length (by omega)]
    have e2 : md_of (m.1 ++ [u]) j = md_of m.1 j := by unfold md_of; rw [List.take_append_of_le_length (by omega)]
    rw [e1, e2]
    exact REN_old (a7 j w hj) z (md_tb_get hj) ho
  · subst z
    rw [List.getElem?_append_right (Nat.le_refl _), Nat.sub_self] at hj
    cases hj
    have e1 : md_tb (m.1 ++ [u]) m.1.length = m.tot := by unfold md_tb md_M.tot; rw [List.take_left]
    have e2 : md_of (m.1 ++ [u]) m.1.length = (md_oc m.1).length := by unfold md_of; rw [List.take_left]
    rw [e1, e2]
    exact hu
  · rw [List.getElem?_eq_none (by rw [hlen]; omega)] at hj; cases hj
theorem md_last_app {es : List md_E} {u : md_E} {r : List Int32 × (Int × Int) × md_A} : md_last (es ++ [u], r) = u.2.2.2.2.1 := by
  unfold md_last
  dsimp only
  rw [List.getLast?_append]
  rfl
end RHE
