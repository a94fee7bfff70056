/-! ===== what a read message is ===== -/
def DPs (es : List md_E) : List md_O → Prop
  | [] => True
  | o :: r => o.1 < es.length ∧ DPc es r.length o.1 ∧ DPs es r
def GI (T : Nat → Int32) (N : Nat) (m : md_M) (st : List md_O) : Prop :=
  SI m ∧ DPs m.1 st ∧ st.length ≤ 6 ∧ (∀ o ∈ st, o.2.1 ≤ N ∧ o.2.2.2.1 ≤ o.2.1 ∧ o.2.2.1 < o.2.2.2.1 ∧ BB T o.2.2.2.1 o.2.1 ∧ (md_oc m.1).length ≤ o.2.2.2.1 ∧ 5 * md_cs T 0 m.1 ≤ 7 * o.2.2.2.1 + 630 * m.1.length) ∧ st.Pairwise (fun o o' => o.2.1 ≤ o'.2.2.2.1) ∧ (1 ≤ m.1.length ∧ (md_oc m.1).length ≤ N ∧ 5 * md_cs T 0 m.1 ≤ 7 * N + 630 * m.1.length) ∧ (md_last m = true → ∃ o r, st = o :: r ∧ o.1 = m.1.length - 1 ∧ o.2.2.2.2 = false)
def FI (T : Nat → Int32) (N : Nat) (m : md_M) : Prop := SI m ∧ md_last m = false ∧ (md_oc m.1).length ≤ N ∧ 5 * md_cs T 0 m.1 ≤ 7 * N + 630 * m.1.length ∧ 1 ≤ m.1.length ∧ m.1.length ≤ 40
section ZIE
variable {T : Nat → Int32} {N : Nat}
theorem DPs.app {es : List md_E} {u : md_E} : ∀ {st : List md_O}, DPs es st → DPs (es ++ [u]) st := by
  intro st
  induction st with
  | nil => intro _; trivial
  | cons o r ih => intro h; exact ⟨by rw [List.length_append]; have := h.1; omega, DPc.app h.2.1, ih h.2.2⟩
theorem DPs.drop {es : List md_E} {st : List md_O} (h : DPs es st) : DPs es (st.dropWhile (fun o => o.2.2.2.2)) := by
  induction st with
  | nil => exact h
  | cons o r ih =>
    rw [List.dropWhile_cons]
    split
    · exact ih h.2.2
    · exact h
theorem z_msg {n a b : Nat} {par : Int32} {m m' : md_M} {st : List md_O} (hL : LN T N) (hN : N ≤ 8000) (ih : ∀ m1 st1, m1.1.length = m.1.length + 1 → GI T N m1 st1 → md_cont T n m1 st1 = .ok m' → FI T N m') (h : SI m) (h40 : m.1.length < 40) (hst : DPs m.1 st) (hst6 : st.length ≤ 6) (ho : ∀ o ∈ st, o.2.1 ≤ N ∧ o.2.2.2.1 ≤ o.2.1 ∧ o.2.2.1 < o.2.2.2.1 ∧ BB T o.2.2.2.1 o.2.1 ∧ b ≤ o.2.2.2.1) (hpw : st.Pairwise (fun o o' => o.2.1 ≤ o'.2.2.2.1)) (hb : b ≤ N) (hab : a ≤ b) (hB : BB T a b) (hpar : (m.1.length = 0 ∧ par = sm_k (-1) ∧ st = []) ∨ ∃ o r, st = o :: r ∧ par = ni o.1) (hlast : md_last m = true → par = ni (m.1.length - 1)) (hoc : (md_oc m.1).length ≤ a) (hcs : 5 * md_cs T 0 m.1 ≤ 7 * a + 630 * m.1.length) (hm : md_msg T n par a b m st = .ok m') : FI T N m' := by
  rw [md_msg_cont] at hm
  cases hent : md_ent T st.length par a b m with
  | error x => rw [hent] at hm; cases hm
  | ok w =>
    obtain ⟨m1, body⟩ := w
    rw [hent] at hm
    dsimp only at hm
    obtain ⟨z1, ⟨u, z2⟩, z3, z4, z5, z6, z7⟩ := z_ent hL hb hN hB h h40 hst6 (by
      rcases hpar with ⟨p1, p2, p3⟩ | ⟨o, r, p1, p2⟩
      · exact Or.inl ⟨p1, p2, by rw [p3]; rfl⟩
      · subst p1
        exact Or.inr ⟨o.1, p2, hst.1, by rw [List.length_cons]; omega, by rw [List.length_cons, Nat.add_sub_cancel]; exact hst.2.1⟩) hlast hent
    have hlen : m1.1.length = m.1.length + 1 := by rw [z2, List.length_append]; rfl
    have hst1 : DPs m1.1 st := by rw [z2]; exact hst.app
    unfold md_st1 at hm
    cases hl : md_last m1
    · rw [hl, if_neg Bool.false_ne_true] at hm
      dsimp only at hm
      obtain ⟨c1, c2⟩ := z7 hl
      refine ih m1 st hlen ⟨z1, hst1, hst6, fun o hos => ?_, hpw, ⟨by omega, by omega, by omega⟩, fun g => by rw [hl] at g; exact nomatch g⟩ hm
      obtain ⟨q1, q2, q3, q4, q5⟩ := ho o hos
      exact ⟨q1, q2, q3, q4, by omega, by omega⟩
    · rw [hl, if_pos rfl] at hm
      obtain ⟨c0, c1, c2⟩ := z6 hl
      unfold md_open at hm
      cases hd : md_del T (md_bnd m1 (m1.1.length - 1)) b body with
      | none => rw [hd] at hm; cases hm
      | some d =>
        rw [hd] at hm
        dsimp only at hm
        cases hcl : d.2.2
        · rw [hcl, if_neg Bool.false_ne_true] at hm
          have hdo := md_del_ok hd
          refine ih m1 ((m1.1.length - 1, b, d) :: st) hlen ⟨z1, ⟨by dsimp only; omega, ?_, hst1⟩, by rw [List.length_cons]; omega, fun o hos => ?_, ?_, ⟨by omega, by omega, by omega⟩, fun _ => ⟨_, _, rfl, rfl, hcl⟩⟩ hm
          · dsimp only
            rw [hlen, Nat.add_sub_cancel]
            exact z3
          · rcases List.mem_cons.mp hos with rfl | hos
            · exact ⟨hb, by dsimp only; omega, hdo.2.1, fun q g => hB q (by dsimp only at g; omega), by dsimp only; omega, by dsimp only; omega⟩
            · obtain ⟨q1, q2, q3, q4, q5⟩ := ho o hos
              exact ⟨q1, q2, q3, q4, by omega, by omega⟩
          · exact List.pairwise_cons.mpr ⟨fun o hos => (ho o hos).2.2.2.2, hpw⟩
        · rw [hcl, if_pos rfl] at hm
          cases hm
theorem z_cont (hL : LN T N) (hN : N ≤ 8000) {m' : md_M} : ∀ (n : Nat) (m : md_M) (st : List md_O), m.1.length + n = 40 → GI T N m st → md_cont T n m st = .ok m' → FI T N m' := by
  intro n
  induction n with
  | zero =>
    intro m st hn hG hm
    obtain ⟨g1, g2, g3, g4, g5, ⟨g6, g7, g8⟩, g9⟩ := hG
    unfold md_cont at hm
    cases hdw : st.dropWhile (fun o => o.2.2.2.2) with
    | nil =>
      rw [hdw] at hm
      cases hm
      refine ⟨g1, ?_, g7, g8, g6, by omega⟩
      cases hl : md_last m'
      · rfl
      · obtain ⟨o, r, rfl, -, hcl⟩ := g9 hl
        rw [List.dropWhile_cons, if_neg (by rw [hcl]; exact Bool.false_ne_true)] at hdw
        cases hdw
    | cons o r => rw [hdw] at hm; cases hm
  | succ n ih =>
    intro m st hn hG hm
    obtain ⟨g1, g2, g3, g4, g5, ⟨g6, g7, g8⟩, g9⟩ := hG
    unfold md_cont at hm
    have hD2 := g2.drop
    have hsub : ∀ o ∈ st.dropWhile (fun o => o.2.2.2.2), o ∈ st := fun o h => (List.dropWhile_sublist _).subset h
    have hpw2 : (st.dropWhile (fun o => o.2.2.2.2)).Pairwise (fun o o' => o.2.1 ≤ o'.2.2.2.1) := g5.sublist (List.dropWhile_sublist _)
    have hl2 : (st.dropWhile (fun o => o.2.2.2.2)).length ≤ st.length := (List.dropWhile_sublist _).length_le
    cases hdw : st.dropWhile (fun o => o.2.2.2.2) with
    | nil =>
      rw [hdw] at hm
      cases hm
      refine ⟨g1, ?_, g7, g8, g6, by omega⟩
      cases hl : md_last m'
      · rfl
      · obtain ⟨o, r, rfl, -, hcl⟩ := g9 hl
        rw [List.dropWhile_cons, if_neg (by rw [hcl]; exact Bool.false_ne_true)] at hdw
        cases hdw
    | cons o r =>
      rw [hdw] at hm hD2 hsub hpw2 hl2
      dsimp only at hm
      cases hd : md_del T (md_bnd m o.1) o.2.1 o.2.2.2.1 with
      | none => rw [hd] at hm; cases hm
      | some d =>
        rw [hd] at hm
        dsimp only at hm
        have hdo := md_del_ok hd
        obtain ⟨q1, q2, q3, q4, q5, q6⟩ := g4 o (hsub o List.mem_cons_self)
        refine z_msg hL hN (fun m1 st1 h1 h2 h3 => ih m1 st1 (by omega) h2 h3) g1 (by omega) (st := (o.1, o.2.1, d) :: r) ⟨hD2.1, hD2.2.1, hD2.2.2⟩ (by rw [List.length_cons] at hl2 ⊢; omega) (fun o' ho' => ?_) ?_ (by omega) (by omega) (BB_part hL q1 hd) (Or.inr ⟨_, _, rfl, rfl⟩) (fun hl => ?_) q5 q6 hm
        · rcases List.mem_cons.mp ho' with rfl | w
          · exact ⟨q1, by dsimp only; omega, hdo.2.1, fun q g => q4 q (by dsimp only at g; omega), by dsimp only; omega⟩
          · obtain ⟨v1, v2, v3, v4, v5, v6⟩ := g4 o' (hsub o' (List.mem_cons_of_mem _ w))
            have := (List.pairwise_cons.mp hpw2).1 o' w
            exact ⟨v1, v2, v3, v4, by omega⟩
        · rw [List.pairwise_cons] at hpw2 ⊢
          exact ⟨hpw2.1, hpw2.2⟩
        · obtain ⟨o2, r2, rfl, h1, hcl⟩ := g9 hl
          rw [List.dropWhile_cons, if_neg (by rw [hcl]; exact Bool.false_ne_true)] at hdw
          cases hdw
          rw [h1]
theorem z_read {m : md_M} (hN : N ≤ 8000) (h : md_read T N = .ok m) : FI T N m := by
  unfold md_read at h
  cases h0 : md_lns T N 0 0 with
  | some f => rw [h0] at h; cases h
  | none =>
    rw [h0] at h
    dsimp only at h
    have hL : LN T N := fun i hi h13 => md_lns_LN h0 i (Nat.zero_le _) hi h13
    have hBB : BB T 0 N := fun q _ hq h13 => by have := (hL q hq h13).1; omega
    have hS0 : SI (([], [], (0, 0), fun _ => []) : md_M) := ⟨⟨(fun u hu => by cases hu), (fun b a ha => by cases ha)⟩, (fun u hu => by cases hu), (fun j u hj => by cases hj), (fun j u hj => by cases hj), by decide, (fun j hj => by cases hj)⟩
    have hl0 : md_last (([], [], (0, 0), fun _ => []) : md_M) = false := rfl
    exact z_msg hL hN (fun m1 st1 h1 h2 h3 => z_cont hL hN 39 m1 st1 (by rw [h1]; rfl) h2 h3) hS0 (by decide) (st := []) trivial (by decide) (fun o ho => by cases ho) List.Pairwise.nil (Nat.le_refl _) (Nat.zero_le _) hBB (Or.inl ⟨rfl, rfl, rfl⟩) (fun g => by rw [hl0] at g; exact nomatch g) (by decide) (Nat.zero_le _) h
theorem FI.nx {m : md_M} (h : FI T N m) : NXm m.1 := by
  intro j u hj hmu
  have hjl : j < m.1.length := by
    rcases Nat.lt_or_ge j m.1.length with z | z
    · exact z
    · rw [List.getElem?_eq_none z] at hj; cases hj
  rcases Nat.lt_or_ge (j + 1) m.1.length with z | z
  · exact h.1.2.2.2.1 j u hj hmu z
  · exfalso
    have hl : md_last m = true := by
      unfold md_last
      rw [List.getLast?_eq_getElem?, show m.1.length - 1 = j from by omega, hj]
      exact hmu
    rw [h.2.1] at hl
    exact nomatch hl
theorem z_cl {es : List md_E} {go : Int32} (hes : es.length ≤ 40) : ∀ (d j n : Nat), DPc es d j → j < 100000 → (md_cl es go n (ni j)).length ≤ 12 * d := by
  intro d
  induction d with
  | zero =>
    intro j n h hj
    have h0 : j = 0 := h
    subst h0
    cases n with
    | zero => exact Nat.le_refl _
    | succ n => rw [md_cl_s, if_pos (by decide)]; exact Nat.le_refl _
  | succ d ih =>
    intro j n h hj
    obtain ⟨u, p, h1, h2, h3, h4⟩ := h
    have hjl : j < es.length := by
      rcases Nat.lt_or_ge j es.length with z | z
      · exact z
      · rw [List.getElem?_eq_none z] at h1; cases h1
    cases n with
    | zero => exact Nat.zero_le _
    | succ n =>
      have ep : md_par es (ni j) = ni p := by
        rw [md_par_lt hjl (by omega)]
        rw [List.getElem?_eq_getElem hjl] at h1
        cases h1
        exact h2
      rw [md_cl_s, ep]
      split
      · exact Nat.zero_le _
      · rw [List.length_append, show md_cr.length = 2 from rfl]
        split
        · show 2 + 0 ≤ _; omega
        · have := ih p n h4 (by omega)
          have hd := md_dl_len (v := ni p)
          rw [List.length_append, List.length_append, show (md_w "--").length = 2 from by decide]
          omega
theorem z_wr {es : List md_E} (hes : es.length ≤ 40) (hd : ∀ j, j < es.length → ∃ d, d ≤ 6 ∧ DPc es d j) : ∀ (r : List md_E) (i : Nat), i + r.length = es.length → (md_wr T es i r).length ≤ md_cs T i r + 82 * r.length := by
  intro r
  induction r with
  | nil => intro i _; exact Nat.zero_le _
  | cons u r ih =>
    intro i hi
    rw [List.length_cons] at hi
    rw [md_wr, List.length_append, md_cs, List.length_cons]
    have h1 := ih (i + 1) (by omega)
    obtain ⟨d, hd6, hdc⟩ := hd i (by omega)
    have h2 := z_cl (go := md_par es (ni (i + 1))) hes d i 40 hdc (by omega)
    have h3 : (md_we T es i u).length ≤ md_c1 T i u + 82 := by
      unfold md_we md_c1 md_hd md_cte
      have h4 : (if i = 0 then ([] : List Int32) else md_dl u.1 ++ md_cr).length ≤ 10 := by
        split
        · exact Nat.zero_le _
        · have := md_dl_len (v := u.1)
          rw [List.length_append, show md_cr.length = 2 from rfl]
          omega
      rw [List.length_append]
      generalize (if i = 0 then ([] : List Int32) else md_dl u.1 ++ md_cr).length = q at h4 ⊢
      cases hmu : u.2.2.2.2.1
      · rw [if_neg Bool.false_ne_true, if_neg Bool.false_ne_true]
        simp only [List.length_append]
        omega
      · rw [if_pos rfl, if_pos rfl]
        simp only [List.length_append]
        omega
    omega
theorem FI.wr {m : md_M} (hN : N ≤ 8000) (h : FI T N m) : (md_write T m).length ≤ 20000 := by
  obtain ⟨h1, h2, h3, h4, h5, h6⟩ := h
  have := z_wr (T := T) h6 h1.2.2.2.2.2 m.1 0 (by omega)
  unfold md_write
  omega
end ZIE
