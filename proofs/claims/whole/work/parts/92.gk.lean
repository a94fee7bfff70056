/-! ===== the reference: addresses ===== -/
/-- the cells of an address -/
def kA (X k c j : Nat) : Prop := (c = X + 78 ∨ c = X + 79) ∧ k ≤ j ∧ j < k + 3
section RGK
variable {C : sm_K} {X N e q k : Nat} {T : Nat → Int32} {D B E : sm_D} {Q : (Option Value ⊕ Nat) → sm_D → Prop} {l : List Int32} {b a z : Int32}
theorem RS.base (h : RS X B q l b a z E) (h2 : B.2 = D.2) (h1 : ∀ c j, ¬ rsc X c j → B.1 c j = D.1 c j) : RS X D q l b a z E := ⟨h.1.trans h2, h.2.1, h.2.2.1, h.2.2.2.1, h.2.2.2.2.1, fun c j hc => (h.2.2.2.2.2 c j hc).trans (h1 c j hc)⟩
theorem md_sx_app {sm : Bool} {xs ys : List Int32} : md_sx sm (xs ++ ys) = md_sx sm xs ++ md_sx sm ys := by cases sm <;> simp [md_sx]
theorem md_sx_dot {sm : Bool} {xs : List Int32} : md_sx sm (ni 46 :: xs) = ni 46 :: md_sx sm xs := by
  rw [md_sx_cons]; cases sm <;> rfl
theorem r207 (hX : sm_Lay C X) (h53 : E.1 (X + 49) 53 = ni k) {j : Nat} (hj : k + j < 60) {v w : Int32} : sm_fe C 207 [.ref (X + 49), .int (ni j), .int v, .int w] E = some (.inl none, sm_dI (sm_dI E (X + 78) (k + j) v) (X + 79) (k + j) w) := by
  apply sw_eq
  refine sw_ge (f207 hX) ?_
  have e1 : sm_up E.1 (X + 78) (k + j) v (X + 49) 53 = ni k := by rw [up_ne (by omega), h53]
  simp (disch := omega) only [sw_gu, h53, ni_add, ni_in, ni_nat, e1, sw_some]
  exact ⟨decide_eq_true hj, decide_eq_true hj, trivial⟩
theorem r209x (hX : sm_Lay C X) {v : Int32} (h8 : (E.1 (X + 49) 8 = sm_k (-1)) = False) : sm_fx C 209 2 [.ref (X + 49), .int v] [] E = some (.inl (some (.int v)), E) := by
  apply sw_eq
  refine sw_ge (n209_2 hX) ?_
  simp only [sw_ite, sw_some, h8, if_false]
theorem r209_2 (h : rW C X T N e D) (sm : Bool) (h54 : D.1 (X + 49) 54 = md_b sm) : ∀ (m n q : Nat) (l : List Int32) (E : sm_D) (b a z : Int32), e - q ≤ m → l.length + (e - q) ≤ 24000 → n + (e - q) ≤ 100000 → md_ok T e q → RS X D q l b a z E →
    (∀ xs p, md_dots T e m q = .ok (xs, p) → ∀ E' b' a' z', RS X D p (l ++ md_sx sm xs) b' a' z' E' → Q (.inl (some (.int (ni (n + xs.length))))) E') → (∀ f, md_dots T e m q = .error f → ∀ x E', rS X D f E' → Q (.inl (some (.int x))) E') →
    sw (sm_fx C 209 2 [.ref (X + 49), .int (ni n)] [] E) Q := by
  have hX := h.1.1
  have fin : ∀ {n q : Nat} {l : List Int32} {E : sm_D} {b a z : Int32}, md_ok T e q → ¬ (q < e ∧ T q = ni 46) → RS X D q l b a z E → (∀ E' b' a' z', RS X D q (l ++ md_sx sm []) b' a' z' E' → Q (.inl (some (.int (ni (n + 0))))) E') → sw (sm_fx C 209 2 [.ref (X + 49), .int (ni n)] [] E) Q := by
    intro n q l E b a z hq hn hs hok
    refine sw_ge (n209_2 hX) ?_
    simp only [sw_ite, (hs.W h).2.2.2, if_true, sw_bi, hs.cur h hq.1, sw_some, sb_i, md_cu_is (show 46 < 2147483648 by omega)]
    rw [if_neg hn]
    refine hok E b a z ?_
    rw [show md_sx sm [] = [] by cases sm <;> rfl, List.append_nil]
    exact hs
  intro m
  induction m with
  | zero =>
    intro n q l E b a z hm hl hn hq hs hok her
    exact fin hq (fun g => by omega) hs (hok [] q rfl)
  | succ m ih =>
    intro n q l E b a z hm hl hn hq hs hok her
    by_cases hd : q < e ∧ T q = ni 46
    · unfold md_dots at hok her
      rw [if_pos hd] at hok her
      have hlt := md_nx_lt (T := T) hd.1
      refine sw_ge (n209_2 hX) ?_
      simp only [sw_ite, (hs.W h).2.2.2, if_true, sw_bi, hs.cur h hq.1, sw_some, sb_i, md_cu_is (show 46 < 2147483648 by omega), sw_bv]
      rw [if_pos hd]
      refine r173 hX hs ⟨46, by omega, rfl⟩ (by omega) (fun E1 hE1 => ?_)
      simp only [sb_v, sw_bv]
      refine r181 h hE1 hq hd.1 (fun E2 hE2 => ?_)
      have e54 : E2.1 (X + 49) 54 = md_b sm := by rw [hE2.o (by unfold rsc; omega), h54]
      simp only [sb_v, sw_bv, e54]
      have onx := hq.nx
      have onxe := onx.1
      refine r182 h false sm hE2 onx (by rw [List.length_append, List.length_singleton]; omega) (fun ws p1 h1 E3 hE3 => ?_) (fun f h1 E3 hE3 => ?_)
      · have h1' : md_word T e md_atm 0 (md_nx T e q) = .ok (ws, p1) := h1
        obtain ⟨o1, l1⟩ := md_word_ok onx h1
        have o1e := o1.1
        simp only [h1', bind, Except.bind] at hok her
        simp only [sb_v, hE3.2.2.2.2.1.2.2, ni_add]
        refine ih (n + 1 + ws.length) p1 _ E3 _ _ _ (by omega) (by rw [List.length_append, List.length_append, List.length_singleton, md_sx_len]; omega) (by omega) o1 hE3 (fun ys p2 h2 E4 b' a' z' hE4 => ?_) (fun f h2 x E4 hE4 => her f (by simp only [h2]) x E4 hE4)
        have := hok (ni 46 :: (ws ++ ys)) p2 (by simp only [h2]) E4 b' a' z'
        rw [md_sx_dot, md_sx_app, List.length_cons, List.length_append, show n + (ws.length + ys.length + 1) = n + 1 + ws.length + ys.length from by omega] at this
        refine this ?_
        rw [List.append_assoc, List.append_assoc, List.singleton_append] at hE4
        exact hE4
      · have h1' : md_word T e md_atm 0 (md_nx T e q) = .error f := h1
        simp only [h1', bind, Except.bind] at her
        simp only [sb_v, r209x hX hE3.ne, sw_some]
        exact her f rfl _ E3 hE3
    · unfold md_dots at hok
      rw [if_neg hd] at hok
      exact fin hq hd hs (hok [] q rfl)
theorem r209 (h : rW C X T N e D) (sm : Bool) (h54 : D.1 (X + 49) 54 = md_b sm) (hs : RS X D q l b a z E) (hq : md_ok T e q) (hl : l.length + (e - q) ≤ 24000)
    (hok : ∀ xs p, md_dots T e e q = .ok (xs, p) → ∀ E' b' a' z', RS X D p (l ++ md_sx sm xs) b' a' z' E' → Q (.inl (some (.int (ni xs.length)))) E') (her : ∀ f, md_dots T e e q = .error f → ∀ x E', rS X D f E' → Q (.inl (some (.int x))) E') :
    sw (sm_fe C 209 [.ref (X + 49)] E) Q := by
  have hN := h.1.2.2.1
  have he := h.2.1
  refine sw_ge (f209 h.1.1) ?_
  refine r209_2 h sm h54 e 0 q l E b a z (by omega) hl (by omega) hq hs (fun xs p h1 E' b' a' z' hE => ?_) her
  rw [Nat.zero_add]
  exact hok xs p h1 E' b' a' z' hE
/-- what a piece is set to -/
def pc (X k : Nat) (D : sm_D) (v w : Int32) : sm_D := sm_dI (sm_dI D (X + 78) k v) (X + 79) k w
theorem RS.pc (h : RS X D q l b a z E) (j : Nat) (v w : Int32) : RS X (pc X j D v w) q l b a z (pc X j E v w) := (h.dI v (by unfold rsc; omega)).dI w (by unfold rsc; omega)
theorem pc_o {c j : Nat} {v w : Int32} (h : ¬ ((c = X + 78 ∨ c = X + 79) ∧ j = k)) : (pc X k D v w).1 c j = D.1 c j := by
  unfold pc; rw [dI_ne (by omega), dI_ne (by omega)]
theorem pc_1 {v w : Int32} : (pc X k D v w).1 (X + 78) k = v := by unfold pc; rw [dI_ne (by omega), dI_eq]
theorem pc_2 {v w : Int32} : (pc X k D v w).1 (X + 79) k = w := by unfold pc; rw [dI_eq]
theorem pc_W {j : Nat} {v w : Int32} (h : rW C X T N e D) : rW C X T N e (pc X j D v w) := ⟨⟨h.1.1, h.1.2.1, h.1.2.2.1, fun i hi => by rw [pc_o (by omega)]; exact h.1.2.2.2.1 i hi, h.1.2.2.2.2⟩, h.2.1, by rw [pc_o (by omega)]; exact h.2.2.1, by rw [pc_o (by omega)]; exact h.2.2.2⟩
theorem pc_F {j : Nat} {v w : Int32} : rF X D (pc X j D v w) := (rF.refl.dI (Or.inr (by omega))).dI (Or.inr (by omega))
theorem rX.pc {f j : Nat} {v w : Int32} (h : rX X D f E) : rX X D f (pc X j E v w) := (h.dI (Or.inr (by omega)) (by omega)).dI (Or.inr (by omega)) (by omega)
theorem rS.c53 {f : Nat} (h : rS X D f E) : E.1 (X + 49) 53 = D.1 (X + 49) 53 := h.2.2.2.2 _ _ (by unfold rsc; omega) (by omega)
/-- a local part -/
def md_lcl (T : Nat → Int32) (e p1 : Nat) : Except Nat (List Int32 × Nat) := if p1 < e ∧ T p1 = ni 34 then md_quo T e 8000 0 (md_nx T e p1) else (md_dotted T e p1).map (fun a => (a.1, a.2.2))
theorem r208 (h : rW C X T N e D) (h53 : D.1 (X + 49) 53 = ni k) (hk : k + 2 < 60) (h54 : D.1 (X + 49) 54 = ni 0) (hs : RS X D q l b a z E) (hq : ro T e q) (hl : l.length + (e - q) ≤ 24000)
    (hok : ∀ xs p, md_lcl T e q = .ok (xs, p) → md_ok T e p → q + xs.length ≤ p → ∀ E' b' a' z', RS X (pc X (k + 1) D (ni l.length) (ni xs.length)) p (l ++ xs) b' a' z' E' → Q (.inl none) E')
    (her : ∀ f, md_lcl T e q = .error f → ∀ E', rX X D f E' → Q (.inl none) E') : sw (sm_fe C 208 [.ref (X + 49)] E) Q := by
  have hX := h.1.1
  have c53 : ∀ {q : Nat} {l : List Int32} {b a z : Int32} {E : sm_D}, RS X D q l b a z E → E.1 (X + 49) 53 = ni k := fun g => by rw [g.o (by unfold rsc; omega), h53]
  unfold md_lcl at hok her
  refine sw_ge (f208 hX) ?_
  simp only [sw_bi, hs.cur h hq.1.1, sw_some, sb_i, sw_ite, md_cu_is (show 34 < 2147483648 by omega), sw_bv]
  by_cases h34 : q < e ∧ T q = ni 34
  · rw [if_pos h34]
    rw [if_pos h34] at hok her
    have hlt := md_nx_lt (T := T) h34.1
    refine r190 h (by omega) hs hq h34.1 hl (fun xs p h1 E1 hE1 => ?_) (fun f h1 E1 hE1 => ?_)
    · obtain ⟨o1, l1⟩ := md_quo_ok hq.nx.1 h1
      simp only [sb_v, sw_bv]
      rw [r207 hX (c53 hE1) (show k + 1 < 60 by omega), sw_some]
      simp only [sb_v, sw_some, hE1.2.2.2.2.1.2.1, hE1.2.2.2.2.1.2.2]
      exact hok xs p h1 o1 (by omega) _ _ _ _ (hE1.pc (k + 1) (ni l.length) (ni xs.length))
    · simp only [sb_v, sw_bv]
      rw [r207 hX (k := k) (by rw [hE1.c53, h53]) (show k + 1 < 60 by omega), sw_some]
      simp only [sb_v, sw_some]
      exact her f h1 _ hE1.toX.pc
  · rw [if_neg h34]
    rw [if_neg h34] at hok her
    unfold md_dotted at hok her
    refine r182 h false false hs hq.1 hl (fun xs p1 h1 E1 hE1 => ?_) (fun f h1 E1 hE1 => ?_)
    · have h1' : md_word T e md_atm 0 q = .ok (xs, p1) := h1
      rw [show md_sx false xs = xs from rfl] at hE1
      obtain ⟨o1, l1⟩ := md_word_ok hq.1 h1
      have o1e := o1.1
      simp only [h1', bind, Except.bind] at hok her
      simp only [sb_v, sw_bi]
      refine r209 h false h54 hE1 o1 (by rw [List.length_append]; omega) (fun ys p2 h2 E2 b' a' z' hE2 => ?_) (fun f h2 x E2 hE2 => ?_)
      · rw [show md_sx false ys = ys from rfl, List.append_assoc] at hE2
        obtain ⟨o2, l2⟩ := md_dots_ok o1 h2
        simp only [sb_i, sw_bv]
        rw [r207 hX (c53 hE2) (show k + 1 < 60 by omega), sw_some]
        simp only [sb_v, sw_some, hE1.2.2.2.2.1.2.1, hE1.2.2.2.2.1.2.2, ni_add]
        refine hok (xs ++ ys) p2 (by simp only [h2]; rfl) o2 (by rw [List.length_append]; omega) _ b' a' z' ?_
        rw [List.length_append]
        exact hE2.pc (k + 1) (ni l.length) (ni (xs.length + ys.length))
      · simp only [sb_i, sw_bv]
        rw [r207 hX (k := k) (by rw [hE2.c53, h53]) (show k + 1 < 60 by omega), sw_some]
        simp only [sb_v, sw_some]
        exact her f (by simp only [h2]; rfl) _ hE2.toX.pc
    · have h1' : md_word T e md_atm 0 q = .error f := h1
      simp only [h1', bind, Except.bind] at her
      simp only [sb_v, sw_bi]
      have e9 : sm_fe C 209 [.ref (X + 49)] E1 = some (.inl (some (.int (ni 0))), E1) := by
        apply sw_eq
        refine sw_ge (f209 hX) ?_
        rw [r209x hX hE1.ne, sw_some]
      rw [e9, sw_some]
      simp only [sb_i, sw_bv]
      rw [r207 hX (k := k) (by rw [hE1.c53, h53]) (show k + 1 < 60 by omega), sw_some]
      simp only [sb_v, sw_some]
      exact her f rfl _ hE1.toX.pc
/-- a domain, from its sign on -/
def md_dom2 (T : Nat → Int32) (e q : Nat) : Except Nat (List Int32 × Nat) := do
  let p4 ← md_eat T e (ni 64) q
  let p2 ← md_space T e 0 p4
  let (xs, _, p3) ← md_dotted T e p2
  .ok (xs.map md_sm, p3)
theorem r210x (hX : sm_Lay C X) (h8 : (E.1 (X + 49) 8 = sm_k (-1)) = False) : sm_fe C 210 [.ref (X + 49)] E = some (.inl none, E) := by
  apply sw_eq
  refine sw_ge (f210 hX) ?_
  simp only [sw_bv, r187x hX h8, sw_some, sb_v, r199x hX h8, sw_ite, h8, if_false]
theorem r210 (h : rW C X T N e D) (h53 : D.1 (X + 49) 53 = ni k) (hk : k + 2 < 60) (h54 : D.1 (X + 49) 54 = ni 0) (hs : RS X D q l b a z E) (hq : md_ok T e q) (hl : l.length + (e - q) ≤ 24000)
    (hok : ∀ xs p, md_dom2 T e q = .ok (xs, p) → md_ok T e p → q + xs.length ≤ p → ∀ E' b' a' z', RS X (pc X (k + 2) D (ni l.length) (ni xs.length)) p (l ++ xs) b' a' z' E' → Q (.inl none) E')
    (her : ∀ f, md_dom2 T e q = .error f → ∀ E', rX X D f E' → Q (.inl none) E') : sw (sm_fe C 210 [.ref (X + 49)] E) Q := by
  have hX := h.1.1
  unfold md_dom2 at hok her
  refine sw_ge (f210 hX) ?_
  simp only [sw_bv]
  refine r187 h hs hq (by omega) (fun p4 h1 E1 hE1 => ?_) (fun f h1 E1 hE1 => ?_)
  rotate_left
  · simp only [sb_v, sw_bv, r199x hX hE1.ne, sw_some, sw_ite, hE1.ne, if_false]
    exact her f (by rw [h1]; rfl) E1 hE1.toX
  obtain ⟨o1, l1⟩ := md_eat_ok hq h1
  have o1e := o1.1
  simp only [h1, bind, Except.bind] at hok her
  simp only [sb_v, sw_bv]
  refine r199 h hE1 o1 (fun p2 h2 E2 hE2 => ?_) (fun f h2 E2 hE2 => ?_)
  rotate_left
  · simp only [sb_v, sw_ite, hE2.ne, if_false, sw_some]
    exact her f (by rw [h2]) E2 hE2.toX
  obtain ⟨o2, l2⟩ := md_space_ok o1 h2
  have o2e := o2.1
  simp only [h2] at hok her
  unfold md_dotted at hok her
  simp only [sb_v, sw_ite, (hE2.W h).2.2.2, if_true, sw_bv]
  have h54' : (sm_dI D (X + 49) 54 (ni 1)).1 (X + 49) 54 = md_b true := dI_eq
  have hW4 : rW C X T N e (sm_dI D (X + 49) 54 (ni 1)) := ⟨⟨h.1.1, h.1.2.1, h.1.2.2.1, fun i hi => by rw [dI_ne (by omega)]; exact h.1.2.2.2.1 i hi, h.1.2.2.2.2⟩, h.2.1, by rw [dI_ne (by omega)]; exact h.2.2.1, by rw [dI_ne (by omega)]; exact h.2.2.2⟩
  -- with a fault, the sign taken back
  have back : ∀ {f : Nat} {E5 : sm_D} {v w : Int32}, rS X (sm_dI D (X + 49) 54 (ni 1)) f E5 → (∀ E', rX X D f E' → Q (.inl none) E') → sw (sm_fe C 207 [.ref (X + 49), .int (ni 2), .int v, .int w] (sm_dI E5 (X + 49) 54 (ni 0))) (sb_v (fun D7 => some (.inl none, D7)) Q) := by
    intro f E5 v w hE5 hQ
    have e53 : (sm_dI E5 (X + 49) 54 (ni 0)).1 (X + 49) 53 = ni k := by rw [dI_ne (by omega), hE5.c53, dI_ne (by omega), h53]
    rw [r207 hX e53 (show k + 2 < 60 by omega), sw_some]
    simp only [sb_v, sw_some]
    refine hQ _ (rX.pc ?_)
    obtain ⟨f1, f2, ⟨p', e', a1, a2, a3, a4⟩, f4, f5⟩ := hE5
    refine ⟨⟨f1, by rw [dI_ne (by omega)]; exact f2, by rw [show (sm_dI E5 (X + 49) 54 (ni 0)).2 = E5.2 from rfl, f4], fun c j hc => ?_, fun c j _ => by rw [show (sm_dI E5 (X + 49) 54 (ni 0)).2 = E5.2 from rfl, f4]⟩, p', e', a1, a2, by rw [dI_ne (by omega)]; exact a3, by rw [dI_ne (by omega)]; exact a4⟩
    by_cases g : c = X + 49 ∧ j = 54
    · rw [g.1, g.2, dI_eq, h54]
    · rw [dI_ne g, f5 c j (fun g2 => hc (by unfold rsc at g2; unfold rRR; omega)) (fun g2 => hc (by unfold rRR; omega)), dI_ne g]
  have g1 : sm_gu (decide ((ni 1) = 0 ∨ (ni 1) = 1)) = fun r => r := by funext r; rfl
  refine r182 h false true hE2 o2 (by omega) (fun xs p1 h3 E3 hE3 => ?_) (fun f h3 E3 hE3 => ?_)
  · have h3' : md_word T e md_atm 0 p2 = .ok (xs, p1) := h3
    rw [show md_sx true xs = xs.map md_sm from rfl] at hE3
    have hxl : (xs.map md_sm).length = xs.length := List.length_map ..
    obtain ⟨o3, l3⟩ := md_word_ok o2 h3
    have o3e := o3.1
    simp only [h3', bind, Except.bind] at hok her
    simp only [sb_v, sw_gu, sw_bi]
    refine ⟨by decide, ?_⟩
    refine r209 hW4 true h54' (hE3.dI (ni 1) (by unfold rsc; omega)) o3 (by rw [List.length_append, hxl]; omega) (fun ys p2' h4 E5 b' a' z' hE5 => ?_) (fun f h4 x E5 hE5 => ?_)
    · obtain ⟨o4, l4⟩ := md_dots_ok o3 h4
      rw [show md_sx true ys = ys.map md_sm from rfl, List.append_assoc, ← List.map_append] at hE5
      have hE6 := (hE5.dI (c := X + 49) (j := 54) (ni 0) (by unfold rsc; omega)).base (D := D) rfl (fun c j hc => by
        by_cases g : c = X + 49 ∧ j = 54
        · rw [g.1, g.2, dI_eq, h54]
        · rw [dI_ne g, dI_ne g])
      simp only [sb_i, sw_gu, sw_bv]
      refine ⟨by decide, ?_⟩
      rw [r207 hX (k := k) (by rw [hE6.o (by unfold rsc; omega), h53]) (show k + 2 < 60 by omega), sw_some]
      simp only [sb_v, sw_some, hE3.2.2.2.2.1.2.1, hE3.2.2.2.2.1.2.2, ni_add]
      refine hok ((xs ++ ys).map md_sm) p2' (by simp only [h4]) o4 (by rw [List.length_map, List.length_append]; omega) _ b' a' z' ?_
      rw [List.length_map, List.length_append]
      exact hE6.pc (k + 2) (ni l.length) (ni (xs.length + ys.length))
    · simp only [sb_i, sw_gu, sw_bv]
      refine ⟨by decide, ?_⟩
      exact back hE5 (her f (by simp only [h4]))
  · have h3' : md_word T e md_atm 0 p2 = .error f := h3
    simp only [h3', bind, Except.bind] at her
    simp only [sb_v, sw_gu, sw_bi]
    refine ⟨by decide, ?_⟩
    have hx5 : rS X (sm_dI D (X + 49) 54 (ni 1)) f (sm_dI E3 (X + 49) 54 (ni 1)) := by
      obtain ⟨f1, f2, ⟨p', e', a1, a2, a3, a4⟩, f4, f5⟩ := hE3
      refine ⟨f1, by rw [dI_ne (by omega)]; exact f2, ⟨p', e', a1, a2, by rw [dI_ne (by omega)]; exact a3, by rw [dI_ne (by omega)]; exact a4⟩, f4, fun c j hc hj => ?_⟩
      by_cases g : c = X + 49 ∧ j = 54
      · rw [g.1, g.2, dI_eq, dI_eq]
      · rw [dI_ne g, dI_ne g, f5 c j hc hj]
    have e9 : sm_fe C 209 [.ref (X + 49)] (sm_dI E3 (X + 49) 54 (ni 1)) = some (.inl (some (.int (ni 0))), sm_dI E3 (X + 49) 54 (ni 1)) := by
      apply sw_eq
      refine sw_ge (f209 hX) ?_
      rw [r209x hX hx5.ne, sw_some]
    rw [e9, sw_some]
    simp only [sb_i, sw_gu, sw_bv]
    refine ⟨by decide, ?_⟩
    exact back hx5 (her f rfl)
end RGK
