/-- letters of seven bits -/
def m7 (xs : List Int32) : Prop := ∀ x ∈ xs, ∃ n, n < 128 ∧ x = ni n
def MB (m : md_M) : Prop := (∀ u ∈ m.1, m7 u.2.2.1.1 ∧ m7 u.2.2.1.2.1 ∧ ∀ w ∈ u.2.2.1.2.2, m7 w.1 ∧ m7 w.2) ∧ ∀ b, ∀ a ∈ m.2.2.2 b, m7 a.1 ∧ m7 a.2.1 ∧ m7 a.2.2
section RHK
variable {C : sm_K} {X N : Nat} {T : Nat → Int32} {D E : sm_D} {Q : (Option Value ⊕ Nat) → sm_D → Prop} {m : md_M} {l xs : List Int32}
theorem md_and255 : ∀ n, n < 128 → ni n &&& ni 255 = ni n := by decide
theorem m7.nth {k : Nat} (h : m7 xs) (hk : k < xs.length) : md_nth xs k &&& ni 255 = md_nth xs k := by
  rw [md_nth_get hk]
  obtain ⟨n, hn, e⟩ := h _ (List.getElem_mem hk)
  rw [e]
  exact md_and255 n hn
theorem fr0t {F : sm_D} (h : fr (s0 X) D E) (g : fr (s0 X) E F) : fr (s0 X) D F := h.trans g
theorem r239 (hX : sm_Lay C X) (hl : l.length ≤ 16400) (hc : ∀ i, i < l.length → E.1 (X + 63) i = md_nth l i) {a z v : Int32} (hs : SLT l a z xs) (h7 : m7 xs) (h0 : E.1 (X + 49) 0 = ni 0) (hq : ∀ E', fr (s0 X) E E' → E'.1 (X + 49) 0 = a_c (ac_item xs v) → Q (.inl (some (.int (a_v (ac_item xs v))))) E') : sw (sm_fe C 239 [.ref (X + 49), .int v, .int a, .int z, .int (ni 0)] E) Q := by
  obtain ⟨c, rfl, rfl, c3, c4⟩ := SLT.at hc hs
  refine sw_ge (f239 hX) ?_
  rw [sw_ite]
  unfold ac_item at hq
  by_cases hv : v = sm_k (-1)
  · rw [if_pos hv, sw_some]
    rw [if_pos hv] at hq
    exact hq E fr.refl h0
  · rw [if_neg hv, sw_bi, r157a (by omega), sw_some]
    rw [if_neg hv] at hq
    show sw (sm_bi _ _) Q
    refine r155q hX rfl (fun E' hf h0' => ?_)
    rw [sw_ite]
    simp only [md_b_0]
    cases h1 : ac_in v xs.length with
    | none =>
      rw [h1] at h0' hq
      rw [if_pos (show Option.isSome (none : Option Nat) = false from rfl), sw_some]
      exact hq E' hf h0'
    | some k =>
      rw [h1] at h0' hq
      obtain ⟨hk, rfl⟩ := ac_in_some h1
      rw [if_neg (show ¬ (Option.isSome (some k) = false) by exact Bool.noConfusion)]
      have e63 : E'.1 (X + 63) (c + k) = md_nth xs k := by rw [hf.2 _ _ (by unfold s0; omega)]; exact c4 k hk
      simp (disch := omega) only [if_true, sw_gu, ni_add, ni_in, ni_nat, sw_some, e63]
      rw [h7.nth hk]
      exact ⟨decide_eq_true (by omega), hq E' hf h0'⟩
theorem r237 (h : RV C X T N m D) {v1 v2 : Int32} : sm_fe C 237 [.ref (X + 49), .int v1, .int v2] D = some (.inl (some (.int (md_b (match ac_fld m v1 v2 with | .ok _ => true | .error _ => false)))), D) := by
  have hX := h.1
  have hb := h.b
  apply sw_eq
  refine sw_ge (f237 hX) ?_
  rw [sw_bi, r232 h, sw_some]
  simp only [sb_i, sw_ite, sw_gu, sw_bi, md_b_0, sw_some, nar_b0, nar_b1]
  unfold ac_fld
  cases h1 : ac_in v1 m.1.length with
  | none =>
    rw [if_pos (show Option.isSome (none : Option Nat) = false from rfl), ac_ent_none h1]
    rfl
  | some j =>
    obtain ⟨u, hu, hv, he⟩ := ac_ent_some h1
    subst hv
    obtain ⟨hj, -, -, l, hM, hl16, -, ⟨e1, e2, e3, -⟩, -⟩ := h.e hu
    rw [if_neg (show ¬ (Option.isSome (some j) = false) by exact Bool.noConfusion)]
    simp (disch := omega) only [ni_in, ni_nat, e2]
    refine ⟨decide_eq_true (by omega), ?_⟩
    rw [r157a (by omega), sw_some, he]
    simp only [sb_i, sw_ite, md_b_0, sw_some, bind, Except.bind]
    cases h2 : ac_in v2 u.2.1.length with
    | none => rw [if_pos (show Option.isSome (none : Option Nat) = false from rfl)]; rfl
    | some w =>
      rw [if_neg (show ¬ (Option.isSome (some w) = false) by exact Bool.noConfusion)]
      obtain ⟨hw, -⟩ := ac_in_some h2
      dsimp only
      rw [List.getElem?_eq_getElem hw]
      rfl
theorem ac_fld_ok {v1 v2 : Int32} {h : md_F} (e : ac_fld m v1 v2 = .ok h) : ∃ j u k, m.1[j]? = some u ∧ u.2.1[k]? = some h ∧ v1 = ni j ∧ v2 = ni k := by
  unfold ac_fld at e
  cases h1 : ac_in v1 m.1.length with
  | none => rw [ac_ent_none h1] at e; cases e
  | some j =>
    obtain ⟨u, hu, hv, he⟩ := ac_ent_some h1
    rw [he] at e
    simp only [bind, Except.bind] at e
    cases h2 : ac_in v2 u.2.1.length with
    | none => rw [h2] at e; cases e
    | some w =>
      rw [h2] at e
      obtain ⟨hw, hv2⟩ := ac_in_some h2
      dsimp only at e
      rw [List.getElem?_eq_getElem hw] at e
      cases e
      exact ⟨j, u, w, hu, List.getElem?_eq_getElem hw, hv, hv2⟩
theorem RV.fl (h : RV C X T N m D) {j k : Nat} {u : md_E} {f : md_F} (hj : m.1[j]? = some u) (hk : u.2.1[k]? = some f) : j < 40 ∧ k < 20 ∧ md_tb m.1 j + k < 200 ∧ D.1 (X + 54) j = ni (md_tb m.1 j) ∧ RF1 X (md_tb m.1 j + k) f D ∧ FZ T N f ∧ f.2.1 < f.2.2.1 := by
  obtain ⟨hj2, -, -, l, hM, -, -, ⟨e1, e2, e3, e4⟩, -⟩ := h.e hj
  have hk2 : k < u.2.1.length := by
    rcases Nat.lt_or_ge k u.2.1.length with z | z
    · exact z
    · rw [List.getElem?_eq_none z] at hk; cases hk
  have h1 : md_tb m.1 j + u.2.1.length ≤ m.tot := md_tb_get hj
  have h2 := hM.2.2.2.1
  have h3 := hM.2.2.1
  obtain ⟨q1, q2, q3, q4⟩ := e4 k f hk
  exact ⟨by omega, by omega, by omega, e1, q1, q3, q4⟩
theorem r236 (h : RV C X T N m D) {v1 v2 : Int32} (hq : ∀ E, fr (s0 X) D E → E.1 (X + 49) 0 = a_c (ac_kind m v1 v2) → Q (.inl (some (.int (a_v (ac_kind m v1 v2))))) E) : sw (sm_fe C 236 [.ref (X + 49), .int v1, .int v2] D) Q := by
  have hX := h.1
  refine sw_ge (f236 hX) ?_
  rw [sw_bi, r237 h, sw_some]
  show sw (sm_bi _ _) Q
  refine r155q hX rfl (fun E hf h0 => ?_)
  rw [sw_ite]
  simp only [md_b_0]
  unfold ac_kind at hq
  cases hfl : ac_fld m v1 v2 with
  | error e =>
    rw [hfl] at h0 hq
    dsimp only at h0 ⊢
    rw [if_pos rfl, sw_some]
    exact hq E hf h0
  | ok f =>
    rw [hfl] at h0 hq
    dsimp only at h0 ⊢
    rw [if_neg (show ¬ (true = false) from Bool.noConfusion)]
    obtain ⟨j, u, k, hj, hk, rfl, rfl⟩ := ac_fld_ok hfl
    obtain ⟨b1, b2, b3, b4, b5, b6⟩ := (h.f hf).fl hj hk
    simp (disch := omega) only [sw_gu, sw_some, ni_in, ni_nat, b4, ni_add, b5.1]
    exact ⟨decide_eq_true b1, decide_eq_true b3, hq E hf h0⟩
theorem r240 (h : RV C X T N m D) (hB : MB m) {v1 v2 v3 : Int32} (hq : ∀ E, fr (s0 X) D E → E.1 (X + 49) 0 = a_c (ac_type m v1 v2 v3) → Q (.inl (some (.int (a_v (ac_type m v1 v2 v3))))) E) : sw (sm_fe C 240 [.ref (X + 49), .int v1, .int v2, .int v3] D) Q := by
  have hX := h.1
  have hb := h.b
  have bad : ac_type m v1 v2 v3 = .error 2 → sw (sm_fx C 240 22 [.ref (X + 49), .int v1, .int v2, .int v3] [.ref (X + 49)] D) Q := by
    intro e
    rw [e] at hq
    refine sw_ge (n240_22 hX) ?_
    refine sw_ge (n240_23 hX) ?_
    refine r155q hX (b := false) rfl (fun E hf h0 => ?_)
    rw [if_pos (show md_b false = ni 0 from rfl), sw_some]
    exact hq _ hf h0
  refine sw_ge (f240 hX) ?_
  rw [sw_bi, r232 h, sw_some]
  simp only [sb_i, sw_ite, sw_bi, md_b_0]
  cases h1 : ac_in v1 m.1.length with
  | none =>
    rw [if_pos (show Option.isSome (none : Option Nat) = false from rfl)]
    exact bad (by unfold ac_type; rw [ac_ent_none h1]; rfl)
  | some j =>
    obtain ⟨u, hu, hv, he⟩ := ac_ent_some h1
    rw [if_neg (show ¬ (Option.isSome (some j) = false) by exact Bool.noConfusion), r157n (by omega), sw_some]
    simp only [sb_i, sw_ite, md_b_0]
    cases h2 : ac_in v2 2 with
    | none =>
      rw [if_pos (show Option.isSome (none : Option Nat) = false from rfl)]
      exact bad (by unfold ac_type; rw [he]; simp only [bind, Except.bind, h2])
    | some w =>
      obtain ⟨hw, hv2⟩ := ac_in_some h2
      rw [if_neg (show ¬ (Option.isSome (some w) = false) by exact Bool.noConfusion)]
      refine sw_ge (n240_23 hX) ?_
      refine r155q hX (b := true) rfl (fun E hf h0 => ?_)
      rw [if_neg (show ¬ (md_b true = ni 0) by decide)]
      have hV := h.f hf
      obtain ⟨hj, -, -, l, hM, hl16, -, -, -, -, e1, e2, -⟩ := hV.e hu
      obtain ⟨k1, k2, -⟩ := hB.1 u (List.mem_of_getElem? hu)
      unfold ac_type at hq
      rw [he] at hq
      simp only [bind, Except.bind, h2] at hq
      have hz := hV.b
      rw [hv2, hv]
      simp (disch := omega) only [sw_gu, ni_mul, ni_add, ni_in, ni_nat, sw_bi]
      refine ⟨decide_eq_true (by omega), decide_eq_true (by omega), ?_⟩
      have hw' : w = 0 ∨ w = 1 := by omega
      rcases hw' with rfl | rfl
      · refine r239 hX hl16 hM.2.2.2.2.1.2 e1 k1 h0 (fun E' hf' h0' => ?_)
        simp only [sb_i, sw_some]
        exact hq E' (hf.trans hf') h0'
      · refine r239 hX hl16 hM.2.2.2.2.1.2 e2 k2 h0 (fun E' hf' h0' => ?_)
        simp only [sb_i, sw_some]
        exact hq E' (hf.trans hf') h0'
theorem r241 (h : RV C X T N m D) (hB : MB m) {v1 v2 v3 v4 : Int32} (hq : ∀ E, fr (s0 X) D E → E.1 (X + 49) 0 = a_c (ac_param m v1 v2 v3 v4) → Q (.inl (some (.int (a_v (ac_param m v1 v2 v3 v4))))) E) : sw (sm_fe C 241 [.ref (X + 49), .int v1, .int v2, .int v3, .int v4] D) Q := by
  have hX := h.1
  have hb := h.b
  have bad : ac_param m v1 v2 v3 v4 = .error 2 → sw (sm_fx C 241 38 [.ref (X + 49), .int v1, .int v2, .int v3, .int v4, sm_junk] [.ref (X + 49)] D) Q := by
    intro e
    rw [e] at hq
    refine sw_ge (n241_38 hX) ?_
    refine sw_ge (n241_39 hX) ?_
    refine r155q hX (b := false) rfl (fun E hf h0 => ?_)
    rw [if_pos (show md_b false = ni 0 from rfl), sw_some]
    exact hq _ hf h0
  refine sw_ge (f241 hX) ?_
  rw [sw_bi, r232 h, sw_some]
  simp only [sb_i, sw_ite, sw_gu, sw_bi, md_b_0]
  cases h1 : ac_in v1 m.1.length with
  | none =>
    rw [if_pos (show Option.isSome (none : Option Nat) = false from rfl)]
    exact bad (by unfold ac_param; rw [ac_ent_none h1]; rfl)
  | some j =>
    obtain ⟨u, hu, hv, he⟩ := ac_ent_some h1
    obtain ⟨hj, -, -, l, hM, hl16, -, -, -, -, -, -, e6⟩ := h.e hu
    have h40 := hb.2
    have hvn : v1.toNatClampNeg = j := by rw [hv]; exact ni_nat (by omega)
    have hvi : sm_in_b v1 40 = true := by rw [hv, ni_in (by omega)]; exact decide_eq_true (by omega)
    rw [if_neg (show ¬ (Option.isSome (some j) = false) by exact Bool.noConfusion), hvn, hvi, e6.1, r157a (by have := e6.2.1; omega), sw_some]
    refine ⟨rfl, ?_⟩
    simp only [sb_i, sw_ite, sw_bi, md_b_0]
    cases h2 : ac_in v2 u.2.2.1.2.2.length with
    | none =>
      rw [if_pos (show Option.isSome (none : Option Nat) = false from rfl)]
      exact bad (by unfold ac_param; rw [he]; simp only [bind, Except.bind, h2])
    | some k =>
      obtain ⟨hk, hv2⟩ := ac_in_some h2
      rw [if_neg (show ¬ (Option.isSome (some k) = false) by exact Bool.noConfusion), r157n (by omega), sw_some]
      simp only [sb_i, sw_ite, md_b_0]
      cases h3 : ac_in v3 2 with
      | none =>
        rw [if_pos (show Option.isSome (none : Option Nat) = false from rfl)]
        exact bad (by unfold ac_param; rw [he]; simp only [bind, Except.bind, h2, h3])
      | some w =>
        obtain ⟨hw, hv3⟩ := ac_in_some h3
        rw [if_neg (show ¬ (Option.isSome (some w) = false) by exact Bool.noConfusion)]
        refine sw_ge (n241_39 hX) ?_
        refine r155q hX (b := true) rfl (fun E hf h0 => ?_)
        rw [if_neg (show ¬ (md_b true = ni 0) by decide)]
        have hV := h.f hf
        obtain ⟨-, -, -, l', hM', hl16', -, -, -, -, -, -, e6'⟩ := hV.e hu
        have h6 := e6.2.1
        have hget : u.2.2.1.2.2[k]? = some u.2.2.1.2.2[k] := List.getElem?_eq_getElem hk
        obtain ⟨s1, s2, -⟩ := e6'.2.2 k _ hget
        obtain ⟨-, -, k3⟩ := hB.1 u (List.mem_of_getElem? hu)
        obtain ⟨k1, k2⟩ := k3 _ (List.getElem_mem hk)
        unfold ac_param at hq
        rw [he] at hq
        simp only [bind, Except.bind, h2, h3, hget, Option.getD_some] at hq
        rw [hv3, hv2, hv]
        have hw' : w = 0 ∨ w = 1 := by omega
        rcases hw' with rfl | rfl
        · simp (disch := omega) only [if_true, sw_gu, ni_mul, ni_add, ni_in, ni_nat, sw_bi]
          refine ⟨decide_eq_true (by omega), decide_eq_true (by omega), ?_⟩
          refine r239 hX hl16' hM'.2.2.2.2.1.2 s1 k1 h0 (fun E' hf' h0' => ?_)
          simp only [sb_i, sw_some]
          exact hq E' (hf.trans hf') h0'
        · rw [if_neg (show ¬ (ni 1 = ni 0) by decide)]
          simp (disch := omega) only [sw_gu, ni_mul, ni_add, ni_in, ni_nat, sw_bi]
          refine ⟨decide_eq_true (by omega), decide_eq_true (by omega), ?_⟩
          refine r239 hX hl16' hM'.2.2.2.2.1.2 s2 k2 h0 (fun E' hf' h0' => ?_)
          simp only [sb_i, sw_some]
          exact hq E' (hf.trans hf') h0'
theorem r242 (h : RV C X T N m D) (h8 : m.2.1.length ≤ 8000) {v : Int32} (hq : ∀ E, fr (s0 X) D E → E.1 (X + 49) 0 = a_c (ac_item m.2.1 v) → Q (.inl (some (.int (a_v (ac_item m.2.1 v))))) E) : sw (sm_fe C 242 [.ref (X + 49), .int v] D) Q := by
  have hX := h.1
  refine sw_ge (f242 hX) ?_
  have hf : fr (s0 X) D (sm_dI D (X + 49) 0 (ni 0)) := fr.refl.dI ⟨rfl, rfl⟩
  have hS := (h.f hf).s
  have h0 : (sm_dI D (X + 49) 0 (ni 0)).1 (X + 49) 0 = ni 0 := dI_eq
  show sw (if v = sm_k (-1) then some (.inl (some (.int ((sm_dI D (X + 49) 0 (ni 0)).1 (X + 49) 36))), sm_dI D (X + 49) 0 (ni 0)) else _) Q
  generalize sm_dI D (X + 49) 0 (ni 0) = E at hf hS h0 ⊢
  unfold ac_item at hq
  rw [sw_ite]
  by_cases hv : v = sm_k (-1)
  · rw [if_pos hv] at hq ⊢
    rw [sw_some, hS.1]
    exact hq E hf h0
  · rw [if_neg hv] at hq ⊢
    rw [sw_bi, hS.1, r157a (by omega), sw_some]
    show sw (sm_bi _ _) Q
    refine r155q hX rfl (fun E' hf' h0' => ?_)
    rw [sw_ite]
    simp only [md_b_0]
    cases h1 : ac_in v m.2.1.length with
    | none =>
      rw [h1] at h0' hq
      rw [if_pos (show Option.isSome (none : Option Nat) = false from rfl), sw_some]
      exact hq E' (hf.trans hf') h0'
    | some k =>
      rw [h1] at h0' hq
      obtain ⟨hk, rfl⟩ := ac_in_some h1
      rw [if_neg (show ¬ (Option.isSome (some k) = false) by exact Bool.noConfusion)]
      have e : E'.1 (X + 76) k = md_nth m.2.1 k := by rw [hf'.2 _ _ (by unfold s0; omega)]; exact hS.2 k hk
      simp (disch := omega) only [sw_gu, ni_in, ni_nat, sw_some, e]
      exact ⟨decide_eq_true (by omega), hq E' (hf.trans hf') h0'⟩
theorem r243 (h : RV C X T N m D) {v : Int32} (hq : ∀ E, fr (s0 X) D E → E.1 (X + 49) 0 = a_c (ac_date m v) → Q (.inl (some (.long (match ac_date m v with | .ok w => w | .error _ => Int64.ofNat 0)))) E) : sw (sm_fe C 243 [.ref (X + 49), .int v] D) Q := by
  have hX := h.1
  refine sw_ge (f243 hX) ?_
  rw [sw_bi, r157n (by omega), sw_some]
  show sw (sm_bi _ _) Q
  refine r155q hX rfl (fun E hf h0 => ?_)
  rw [sw_ite]
  simp only [md_b_0]
  have hd := (h.f hf).d
  unfold ac_date at hq
  cases h1 : ac_in v 2 with
  | none =>
    rw [h1] at h0 hq
    rw [if_pos (show Option.isSome (none : Option Nat) = false from rfl), sw_some]
    exact hq E hf h0
  | some k =>
    rw [h1] at h0 hq
    obtain ⟨hk, rfl⟩ := ac_in_some h1
    rw [if_neg (show ¬ (Option.isSome (some k) = false) by exact Bool.noConfusion), sw_ite]
    have hw' : k = 0 ∨ k = 1 := by omega
    rcases hw' with rfl | rfl
    · rw [if_pos rfl, sw_some, hd.1]
      exact hq E hf h0
    · rw [if_neg (show ¬ (ni 1 = ni 0) by decide), sw_some, hd.2]
      exact hq E hf h0
theorem r244 (h : RV C X T N m D) {v : Int32} (hq : ∀ E, fr (s0 X) D E → E.1 (X + 49) 0 = a_c (ac_addrs m v) → Q (.inl (some (.int (a_v (ac_addrs m v))))) E) : sw (sm_fe C 244 [.ref (X + 49), .int v] D) Q := by
  have hX := h.1
  refine sw_ge (f244 hX) ?_
  rw [sw_bi, r157, sw_some]
  show sw (sm_bi _ _) Q
  refine r155q hX rfl (fun E hf h0 => ?_)
  rw [sw_ite]
  simp only [md_b_0]
  obtain ⟨l, -, -, a5, a6⟩ := (h.f hf).a
  unfold ac_addrs at hq
  cases hin : md_in v 5 6
  · rw [hin] at h0
    have h5 : ¬ v = ni 5 := fun z => by rw [z] at hin; exact absurd hin (by decide)
    have h6 : ¬ v = ni 6 := fun z => by rw [z] at hin; exact absurd hin (by decide)
    rw [if_neg h5, if_neg h6] at hq
    rw [if_pos rfl, sw_some]
    exact hq E hf h0
  · rw [hin] at h0
    obtain ⟨n, n1, n2, rfl⟩ := (md_in_iff (by omega) (by omega)).mp hin
    rw [if_neg (show ¬ (true = false) from Bool.noConfusion)]
    have hw' : n = 5 ∨ n = 6 := by omega
    rcases hw' with rfl | rfl
    · rw [if_pos rfl] at hq
      simp (disch := omega) only [sw_gu, ni_sub, ni_in, ni_nat, sw_some]
      refine ⟨decide_eq_true (by omega), ?_⟩
      rw [show (5 - 5 : Nat) = 0 from rfl, a5.1]
      exact hq E hf h0
    · rw [if_neg (by decide), if_pos rfl] at hq
      simp (disch := omega) only [sw_gu, ni_sub, ni_in, ni_nat, sw_some]
      refine ⟨decide_eq_true (by omega), ?_⟩
      rw [show (6 - 5 : Nat) = 1 from rfl, a6.1]
      exact hq E hf h0
/-- the third kind of answer: a wrong kind, a wrong number -/
def a_c2 {α : Type} (r : Except Nat α) : Int32 := match r with | .ok _ => ni 0 | .error k => ni k
theorem r245_in (h : RV C X T N m D) (hB : MB m) {wh n w : Nat} (hwh : wh < 2) {kd v4 : Int32} (hkd : kd = ni (5 + wh)) {bb : Bool} (hbb : bb = decide (wh = 1)) {a : List Int32 × List Int32 × List Int32} (ha : (m.2.2.2 bb)[n]? = some a) (hw : w < 3) {r : Except Nat Int32} (hr : r = ac_item (if w = 0 then a.1 else if w = 1 then a.2.1 else a.2.2) v4)
    (hq : ∀ E, fr (s0 X) D E → E.1 (X + 49) 0 = a_c2 r → Q (.inl (some (.int (a_v r)))) E) : sw (sm_fx C 245 47 [.ref (X + 49), .int kd, .int (ni n), .int (ni w), .int v4, sm_junk, sm_junk] [.int (ni 0), .ref (X + 49)] D) Q := by
  have hX := h.1
  refine sw_ge (n245_47 hX) ?_
  have hf : fr (s0 X) D (sm_dI D (X + 49) 0 (ni 0)) := fr.refl.dI ⟨rfl, rfl⟩
  have hV := h.f hf
  have h0 : (sm_dI D (X + 49) 0 (ni 0)).1 (X + 49) 0 = ni 0 := dI_eq
  show sw (if (sm_dI D (X + 49) 0 (ni 0)).1 (X + 49) 0 ≤ ni 0 then _ else _) Q
  generalize sm_dI D (X + 49) 0 (ni 0) = E at hf hV h0 ⊢
  rw [sw_ite, if_pos (by rw [h0]; decide)]
  obtain ⟨l, hl, hc, a5, a6⟩ := hV.a
  have hra : RA X wh (m.2.2.2 bb) l E := by
    have hw' : wh = 0 ∨ wh = 1 := by omega
    rcases hw' with rfl | rfl
    · rw [hbb]; exact a5
    · rw [hbb]; exact a6
  have hn10 : n < 10 := by
    have := hra.2.1
    rcases Nat.lt_or_ge n (m.2.2.2 bb).length with z | z
    · omega
    · rw [List.getElem?_eq_none z] at ha; cases ha
  obtain ⟨s1, s2, s3⟩ := hra.2.2 n a ha
  obtain ⟨k1, k2, k3⟩ := hB.2 bb a (List.mem_of_getElem? ha)
  rw [hkd]
  simp (disch := omega) only [sw_gu, ni_sub, ni_mul, ni_add, ni_in, ni_nat, sw_bi, Nat.add_sub_cancel_left]
  refine ⟨decide_eq_true (by omega), decide_eq_true (by omega), ?_⟩
  have tl : ∀ {xs : List Int32}, SLT l (E.1 (X + 78) (30 * wh + 3 * n + w)) (E.1 (X + 79) (30 * wh + 3 * n + w)) xs → m7 xs → (∀ E', fr (s0 X) D E' → E'.1 (X + 49) 0 = a_c2 (ac_item xs v4) → Q (.inl (some (.int (a_v (ac_item xs v4))))) E') → sw (sm_fe C 239 [.ref (X + 49), .int v4, .int (E.1 (X + 78) (30 * wh + 3 * n + w)), .int (E.1 (X + 79) (30 * wh + 3 * n + w)), .int (ni 0)] E) (sb_i (fun x0 D2 => if (D2.1 (X + 49) 0) ≤ ni 0 then some (.inl (some (.int x0)), sm_dI D2 (X + 49) 0 (ni 0)) else some (.inl (some (.int x0)), sm_dI D2 (X + 49) 0 (ni 2))) Q) := by
    intro xs hs h7 hq'
    refine r239 hX hl hc hs h7 h0 (fun E' hf' h0' => ?_)
    show sw (if (E'.1 (X + 49) 0) ≤ ni 0 then _ else _) Q
    rw [sw_ite]
    have hfd : ∀ v : Int32, fr (s0 X) D (sm_dI E' (X + 49) 0 v) := fun v => (hf.trans hf').dI ⟨rfl, rfl⟩
    cases hi : ac_item xs v4 with
    | ok z =>
      rw [hi] at h0' hq'
      rw [if_pos (by rw [h0']; exact (by decide : ni 0 ≤ ni 0)), sw_some]
      exact hq' _ (hfd _) dI_eq
    | error z =>
      have hz : z = 2 := by
        unfold ac_item at hi
        split at hi
        · cases hi
        · split at hi
          · cases hi
          · cases hi; rfl
      subst hz
      rw [hi] at h0' hq'
      rw [if_neg (by rw [h0']; decide), sw_some]
      exact hq' _ (hfd _) dI_eq
  have hw' : w = 0 ∨ w = 1 ∨ w = 2 := by omega
  subst hr
  rcases hw' with rfl | rfl | rfl
  · exact tl s1 k1 hq
  · exact tl s2 k2 hq
  · exact tl s3 k3 hq
theorem r245 (h : RV C X T N m D) (hB : MB m) {v1 v2 v3 v4 : Int32} (hq : ∀ E, fr (s0 X) D E → E.1 (X + 49) 0 = a_c2 (ac_addr m v1 v2 v3 v4) → Q (.inl (some (.int (a_v (ac_addr m v1 v2 v3 v4))))) E) : sw (sm_fe C 245 [.ref (X + 49), .int v1, .int v2, .int v3, .int v4] D) Q := by
  have hX := h.1
  have bad : ∀ k, (k = 1 ∨ k = 2) → ac_addr m v1 v2 v3 v4 = .error k → sw (sm_fx C 245 47 [.ref (X + 49), .int v1, .int v2, .int v3, .int v4, sm_junk, sm_junk] [.int (ni k), .ref (X + 49)] D) Q := by
    intro k hk e
    rw [e] at hq
    refine sw_ge (n245_47 hX) ?_
    have hf : fr (s0 X) D (sm_dI D (X + 49) 0 (ni k)) := fr.refl.dI ⟨rfl, rfl⟩
    have h0 : (sm_dI D (X + 49) 0 (ni k)).1 (X + 49) 0 = ni k := dI_eq
    show sw (if (sm_dI D (X + 49) 0 (ni k)).1 (X + 49) 0 ≤ ni 0 then _ else _) Q
    rw [sw_ite, if_neg (by rw [h0, ni_le (by omega) (by omega)]; omega), sw_some]
    exact hq _ hf h0
  refine sw_ge (f245 hX) ?_
  rw [sw_bi, r157, sw_some]
  simp only [sb_i, sw_ite, sw_gu, sw_bi, md_b_0]
  cases hin : md_in v1 5 6
  · have h5 : ¬ v1 = ni 5 := fun z => by rw [z] at hin; exact absurd hin (by decide)
    have h6 : ¬ v1 = ni 6 := fun z => by rw [z] at hin; exact absurd hin (by decide)
    rw [if_pos rfl]
    exact bad 1 (Or.inl rfl) (by unfold ac_addr; rw [if_neg (fun z => z.elim h5 h6)])
  · obtain ⟨q, n1, n2, hv1⟩ := (md_in_iff (by omega) (by omega)).mp hin
    rw [if_neg (show ¬ (true = false) from Bool.noConfusion)]
    obtain ⟨wh, hwh, hqw⟩ : ∃ wh, wh < 2 ∧ q = 5 + wh := ⟨q - 5, by omega, by omega⟩
    subst hqw
    have hdec : decide (v1 = ni 6) = decide (wh = 1) := by
      have hw' : wh = 0 ∨ wh = 1 := by omega
      rcases hw' with rfl | rfl <;> rw [hv1] <;> decide
    have hor : v1 = ni 5 ∨ v1 = ni 6 := by
      have hw' : wh = 0 ∨ wh = 1 := by omega
      rcases hw' with rfl | rfl
      · exact Or.inl hv1
      · exact Or.inr hv1
    have eA : ac_addr m v1 v2 v3 v4 = (match ac_in v2 (m.2.2.2 (decide (wh = 1))).length with
        | none => .error 2
        | some j => match ac_in v3 3 with
          | none => .error 2
          | some w => ac_item (if w = 0 then (((m.2.2.2 (decide (wh = 1)))[j]?).getD ([], [], [])).1 else if w = 1 then (((m.2.2.2 (decide (wh = 1)))[j]?).getD ([], [], [])).2.1 else (((m.2.2.2 (decide (wh = 1)))[j]?).getD ([], [], [])).2.2) v4) := by
      unfold ac_addr
      rw [if_pos hor, hdec]
      cases ac_in v2 (m.2.2.2 (decide (wh = 1))).length with
      | none => rfl
      | some j =>
        dsimp only
        cases h3 : ac_in v3 3 with
        | none => rfl
        | some w =>
          obtain ⟨hw, -⟩ := ac_in_some h3
          have hw' : w = 0 ∨ w = 1 ∨ w = 2 := by omega
          rcases hw' with rfl | rfl | rfl <;> rfl
    obtain ⟨l, hl, hc, a5, a6⟩ := h.a
    have hra : RA X wh (m.2.2.2 (decide (wh = 1))) l D := by
      have hw' : wh = 0 ∨ wh = 1 := by omega
      rcases hw' with rfl | rfl
      · exact a5
      · exact a6
    have e5 : v1 - ni 5 = ni wh := by rw [hv1, ni_sub (by omega), Nat.add_sub_cancel_left]
    rw [e5, ni_in (by omega), ni_nat (by omega), hra.1]
    refine ⟨decide_eq_true hwh, ?_⟩
    rw [r157a (by have := hra.2.1; omega), sw_some]
    simp only [sb_i, sw_ite, sw_bi, md_b_0]
    cases h2 : ac_in v2 (m.2.2.2 (decide (wh = 1))).length with
    | none =>
      rw [if_pos (show Option.isSome (none : Option Nat) = false from rfl)]
      exact bad 2 (Or.inr rfl) (by rw [eA, h2])
    | some n =>
      obtain ⟨hn, hv2⟩ := ac_in_some h2
      rw [if_neg (show ¬ (Option.isSome (some n) = false) by exact Bool.noConfusion), r157n (by omega), sw_some]
      simp only [sb_i, sw_ite, md_b_0]
      cases h3 : ac_in v3 3 with
      | none =>
        rw [if_pos (show Option.isSome (none : Option Nat) = false from rfl)]
        exact bad 2 (Or.inr rfl) (by rw [eA, h2, h3])
      | some w =>
        obtain ⟨hw, hv3⟩ := ac_in_some h3
        rw [if_neg (show ¬ (Option.isSome (some w) = false) by exact Bool.noConfusion), hv2, hv3]
        refine r245_in h hB hwh hv1 rfl (List.getElem?_eq_getElem hn) hw (r := ac_addr m v1 v2 v3 v4) ?_ hq
        rw [eA, h2, h3]
        dsimp only
        rw [List.getElem?_eq_getElem hn]
        rfl
end RHK
