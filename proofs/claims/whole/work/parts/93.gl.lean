/-- what stands between < and > -/
def md_ang (T : Nat → Int32) (e p1 : Nat) : Except Nat ((List Int32 × List Int32) × Nat) := do
  let (lo, p3) ← md_loc T e (md_nx T e p1)
  let p4 ← md_eat T e (ni 64) p3
  let (dm, p5) ← md_dm T e p4
  let p6 ← md_eat T e (ni 62) p5
  .ok ((lo, dm), p6)
def md_wd2 (T : Nat → Int32) (e n : Nat) (ws : List Int32) (p1 : Nat) : Except Nat (List Int32 × Nat) := do
  let p2 ← md_space T e 0 p1
  let (ys, p3) ← md_wds T e n p2
  .ok (ni 32 :: (ws ++ ys), p3)
section RGL
variable {C : sm_K} {X N e q k : Nat} {T : Nat → Int32} {D B E : sm_D} {Q : (Option Value ⊕ Nat) → sm_D → Prop} {l xs : List Int32} {b a z : Int32}
theorem md_loc_er1 {p f : Nat} (h : md_space T e 0 p = .error f) : md_loc T e p = .error f := by unfold md_loc; rw [h]; rfl
theorem md_loc_er2 {p p1 f : Nat} (h : md_space T e 0 p = .ok p1) (h2 : md_lcl T e p1 = .error f) : md_loc T e p = .error f := by
  unfold md_loc; unfold md_lcl at h2; rw [h]; simp only [bind, Except.bind]
  by_cases hc : p1 < e ∧ T p1 = ni 34
  · rw [if_pos hc] at h2 ⊢; rw [h2]
  · rw [if_neg hc] at h2 ⊢; rw [h2]
theorem md_loc_eq {p p1 p2 : Nat} {lo : List Int32} (h : md_space T e 0 p = .ok p1) (h2 : md_lcl T e p1 = .ok (lo, p2)) : md_loc T e p = md_sp1 T e lo p2 := by
  unfold md_loc; unfold md_lcl at h2; rw [h]; simp only [bind, Except.bind]
  by_cases hc : p1 < e ∧ T p1 = ni 34
  · rw [if_pos hc] at h2 ⊢; rw [h2]
  · rw [if_neg hc] at h2 ⊢; rw [h2]
theorem md_dm_er {f : Nat} (h : md_dom2 T e q = .error f) : (∃ p4, md_eat T e (ni 64) q = .ok p4 ∧ md_dm T e p4 = .error f) ∨ md_eat T e (ni 64) q = .error f := by
  unfold md_dom2 at h
  cases h1 : md_eat T e (ni 64) q with
  | error x => rw [h1] at h; cases h; exact Or.inr rfl
  | ok p4 =>
    left
    refine ⟨p4, rfl, ?_⟩
    unfold md_dm
    simp only [h1, bind, Except.bind] at h
    cases h2 : md_space T e 0 p4 with
    | error x => simp only [h2] at h; cases h; rfl
    | ok p2 =>
      simp only [h2, bind, Except.bind] at h ⊢
      cases h3 : md_dotted T e p2 with
      | error x => simp only [h3] at h; cases h; rfl
      | ok r => simp only [h3] at h; cases h
theorem md_dm_ok {p : Nat} {dm : List Int32} (h : md_dom2 T e q = .ok (dm, p)) : ∃ p4, md_eat T e (ni 64) q = .ok p4 ∧ md_dm T e p4 = md_sp1 T e dm p := by
  unfold md_dom2 at h
  cases h1 : md_eat T e (ni 64) q with
  | error x => rw [h1] at h; cases h
  | ok p4 =>
    refine ⟨p4, rfl, ?_⟩
    unfold md_dm
    simp only [h1, bind, Except.bind] at h
    cases h2 : md_space T e 0 p4 with
    | error x => simp only [h2] at h; cases h
    | ok p2 =>
      simp only [h2, bind, Except.bind] at h ⊢
      cases h3 : md_dotted T e p2 with
      | error x => simp only [h3] at h; cases h
      | ok r => simp only [h3] at h; cases h; rfl
theorem r206_44x (hX : sm_Lay C X) {v2 v3 v4 : Int32} (h8 : (E.1 (X + 49) 8 = sm_k (-1)) = False) : sm_fx C 206 44 [.ref (X + 49), sm_junk, .int v2, .int v3, .int v4, sm_junk, sm_junk, sm_junk, sm_junk] [] E = some (.inl none, E) := by
  apply sw_eq
  refine sw_ge (n206_44 hX) ?_
  simp only [sw_ite, sw_some, h8, if_false]
  split <;> trivial
theorem r206_440 (hX : sm_Lay C X) {v2 v3 : Int32} : sm_fx C 206 44 [.ref (X + 49), sm_junk, .int v2, .int v3, .int (ni 0), sm_junk, sm_junk, sm_junk, sm_junk] [] E = some (.inl none, E) := by
  apply sw_eq
  refine sw_ge (n206_44 hX) ?_
  simp only [sw_ite, sw_some, if_true]
theorem r206_289x (hX : sm_Lay C X) {v2 v3 v4 : Int32} (h8 : (E.1 (X + 49) 8 = sm_k (-1)) = False) : sm_fx C 206 289 [.ref (X + 49), sm_junk, .int v2, .int v3, .int v4, sm_junk, sm_junk, sm_junk, sm_junk] [] E = some (.inl none, E) := by
  apply sw_eq
  refine sw_ge (n206_289 hX) ?_
  simp only [sw_bv, r199x hX h8, sw_some, sb_v, r206_44x hX h8]
/-- from < on -/
theorem r206_lt (h : rW C X T N e B) (h53 : B.1 (X + 49) 53 = ni k) (hk : k + 2 < 60) (h54 : B.1 (X + 49) 54 = ni 0) {p1 : Nat} {v3 : Int32} (hs : RS X B p1 (l ++ xs) b a z E) (hq : ro T e p1) (hp : p1 < e ∧ T p1 = ni 60) (hl : (l ++ xs).length + (e - p1) ≤ 24000)
    (hok : ∀ lo dm p6, md_ang T e p1 = .ok ((lo, dm), p6) → md_ok T e p6 → p1 + lo.length + dm.length ≤ p6 → ∀ E' b' a' z', RS X (pc X (k + 2) (pc X (k + 1) (pc X k B (ni l.length) (ni xs.length)) (ni (l ++ xs).length) (ni lo.length)) (ni ((l ++ xs) ++ lo).length) (ni dm.length)) p6 (((l ++ xs) ++ lo) ++ dm) b' a' z' E' → Q (.inl none) E')
    (her : ∀ f, md_ang T e p1 = .error f → ∀ E', rX X B f E' → Q (.inl none) E') :
    sw (sm_fx C 206 44 [.ref (X + 49), sm_junk, .int (ni l.length), .int v3, .int (ni 1), sm_junk, sm_junk, sm_junk, sm_junk] [] E) Q := by
  have hX := h.1.1
  have hN := h.1.2.2.1
  have he := h.2.1
  have hlt := md_nx_lt (T := T) hp.1
  have x102 : ∀ {E : sm_D} {f : Nat} {v2 v3 : Int32}, rX X B f E → Q (.inl none) E → sw (sm_fx C 206 102 [.ref (X + 49), sm_junk, .int v2, .int v3, sm_junk, sm_junk, sm_junk, sm_junk, sm_junk] [] E) Q := by
    intro E f v2 v3 hE hQ
    refine sw_ge (n206_102 hX) ?_
    simp only [sw_bv, r199x hX hE.ne, sw_some, sb_v, r210x hX hE.ne, r187x hX hE.ne, r206_440 hX]
    exact hQ
  unfold md_ang at hok her
  refine sw_ge (n206_44 hX) ?_
  have e20 : E.1 (X + 49) 20 - ni l.length = ni xs.length := by rw [hs.2.2.1, ni_sub (by rw [List.length_append]; omega), List.length_append, Nat.add_sub_cancel_left]
  have e53 : E.1 (X + 49) 53 = ni k := by rw [hs.o (by unfold rsc; omega), h53]
  simp only [sw_ite, ni_10, if_false, (hs.W h).2.2.2, if_true, sw_bi, hs.cur h hq.1.1, sw_some, sb_i, md_cu_is (show 60 < 2147483648 by omega), sw_bv, e20]
  rw [if_pos hp, r207 hX e53 (show k + 0 < 60 by omega), sw_some, Nat.add_zero]
  simp only [sb_v, sw_bv]
  have hs1 := hs.pc k (ni l.length) (ni xs.length)
  have hW1 : rW C X T N e (pc X k B (ni l.length) (ni xs.length)) := pc_W h
  have hF1 : rF X B (pc X k B (ni l.length) (ni xs.length)) := pc_F
  have h53a : (pc X k B (ni l.length) (ni xs.length)).1 (X + 49) 53 = ni k := by rw [pc_o (by omega), h53]
  have h54a : (pc X k B (ni l.length) (ni xs.length)).1 (X + 49) 54 = ni 0 := by rw [pc_o (by omega), h54]
  refine r181 hW1 hs1 hq.1 hp.1 (fun E1 hE1 => ?_)
  simp only [sb_v, sw_bv]
  refine r178 hW1 hE1 hq.nx.1 (fun p2 h1 E2 hE2 => ?_) (fun f h1 E2 hE2 => ?_)
  rotate_left
  · simp only [sb_v, sw_ite, hE2.ne, if_false]
    exact x102 (hE2.of hF1) (her f (by rw [md_loc_er1 h1]; rfl) _ (hE2.of hF1))
  obtain ⟨o1, l1⟩ := md_space_ok hq.nx.1 h1
  have o1e := o1.1
  have q1 := hq.nx.le o1 l1
  simp only [sb_v, sw_ite, (hE2.W hW1).2.2.2, if_true, sw_bv]
  refine r208 hW1 h53a hk h54a hE2 q1 (by omega) (fun lo p3 h2 o2 l2 E3 b3 a3 z3 hE3 => ?_) (fun f h2 E3 hE3 => ?_)
  rotate_left
  · simp only [sb_v]
    exact x102 (hE3.of hF1) (her f (by rw [md_loc_er2 h1 h2]; rfl) _ (hE3.of hF1))
  have o2e := o2.1
  rw [md_loc_eq h1 h2] at hok her
  unfold md_sp1 at hok her
  simp only [sb_v]
  have hW2 := pc_W (j := k + 1) (v := ni (l ++ xs).length) (w := ni lo.length) hW1
  have hF2 : rF X B (pc X (k + 1) (pc X k B (ni l.length) (ni xs.length)) (ni (l ++ xs).length) (ni lo.length)) := hF1.trans pc_F
  have h53b : (pc X (k + 1) (pc X k B (ni l.length) (ni xs.length)) (ni (l ++ xs).length) (ni lo.length)).1 (X + 49) 53 = ni k := by rw [pc_o (by omega), h53a]
  have h54b : (pc X (k + 1) (pc X k B (ni l.length) (ni xs.length)) (ni (l ++ xs).length) (ni lo.length)).1 (X + 49) 54 = ni 0 := by rw [pc_o (by omega), h54a]
  refine sw_ge (n206_102 hX) ?_
  simp only [sw_bv]
  refine r199 hW2 hE3 o2 (fun p4 h3 E4 hE4 => ?_) (fun f h3 E4 hE4 => ?_)
  rotate_left
  · simp only [sb_v, sw_bv, r210x hX hE4.ne, sw_some, r199x hX hE4.ne, r187x hX hE4.ne, r206_440 hX]
    exact her f (by simp only [h3, bind, Except.bind]) _ (hE4.of hF2)
  obtain ⟨o3, l3⟩ := md_space_ok o2 h3
  have o3e := o3.1
  simp only [h3, bind, Except.bind] at hok her
  simp only [sb_v, sw_bv]
  refine r210 hW2 h53b hk h54b hE4 o3 (by rw [List.length_append]; omega) (fun dm p5 h4 o4 l4 E5 b5 a5 z5 hE5 => ?_) (fun f h4 E5 hE5 => ?_)
  rotate_left
  · simp only [sb_v, sw_bv, sw_some, r199x hX hE5.ne, r187x hX hE5.ne, r206_440 hX]
    refine her f ?_ _ (hE5.of hF2)
    rcases md_dm_er h4 with ⟨p, g1, g2⟩ | g1
    · simp only [g1, g2]
    · simp only [g1]
  have o4e := o4.1
  obtain ⟨p6, g1, g2⟩ := md_dm_ok h4
  simp only [g1, g2, md_sp1, bind, Except.bind] at hok her
  simp only [sb_v, sw_bv]
  have hW3 := pc_W (j := k + 2) (v := ni ((l ++ xs) ++ lo).length) (w := ni dm.length) hW2
  have hF3 := hF2.trans (pc_F (X := X) (D := pc X (k + 1) (pc X k B (ni l.length) (ni xs.length)) (ni (l ++ xs).length) (ni lo.length)) (j := k + 2) (v := ni ((l ++ xs) ++ lo).length) (w := ni dm.length))
  refine r199 hW3 hE5 o4 (fun p7 h5 E6 hE6 => ?_) (fun f h5 E6 hE6 => ?_)
  rotate_left
  · simp only [sb_v, sw_bv, sw_some, r187x hX hE6.ne, r206_440 hX]
    exact her f (by simp only [h5]) _ (hE6.of hF3)
  obtain ⟨o5, l5⟩ := md_space_ok o4 h5
  simp only [h5] at hok her
  simp only [sb_v, sw_bv]
  refine r187 hW3 hE6 o5 (by omega) (fun p8 h6 E7 hE7 => ?_) (fun f h6 E7 hE7 => ?_)
  · obtain ⟨o6, l6⟩ := md_eat_ok o5 h6
    simp only [sb_v, r206_440 hX, sw_some]
    exact hok lo dm p8 (by simp only [h6]) o6 (by omega) E7 _ _ _ hE7
  · simp only [sb_v, r206_440 hX, sw_some]
    exact her f (by simp only [h6]) _ (hE7.of hF3)
/-- words before < -/
theorem r206_ws (h : rW C X T N e B) : ∀ (n p w : Nat) (xs : List Int32) (E : sm_D) (b a z : Int32), e - p < n → ro T e p → 1 ≤ w → w + (e - p) ≤ 20000 → RS X B p (l ++ xs) b a z E → (l ++ xs).length + 2 * (e - p) ≤ 24000 →
    (∀ ys p3, md_wds T e n p = .ok (ys, p3) → p3 < e ∧ T p3 = ni 60 → ro T e p3 → ∀ E' b' a' z' v3, RS X B p3 (l ++ (xs ++ ys)) b' a' z' E' → ys.length + 2 * (e - p3) ≤ 2 * (e - p) → sw (sm_fx C 206 44 [.ref (X + 49), sm_junk, .int (ni l.length), .int v3, .int (ni 1), sm_junk, sm_junk, sm_junk, sm_junk] [] E') Q) →
    (∀ f, md_wds T e n p = .error f → ∀ E', rX X B f E' → Q (.inl none) E') →
    sw (sm_fx C 206 44 [.ref (X + 49), sm_junk, .int (ni l.length), .int (ni w), .int (ni 1), sm_junk, sm_junk, sm_junk, sm_junk] [] E) Q := by
  have hX := h.1.1
  have hN := h.1.2.2.1
  have he := h.2.1
  intro n
  induction n with
  | zero => intro p w xs E b a z hn; omega
  | succ n ih =>
    intro p w xs E b a z hn hp hw hw2 hs hl hok her
    have hpe := hp.1.1
    unfold md_wds at hok her
    by_cases h60 : p < e ∧ T p = ni 60
    · rw [if_pos h60] at hok
      have := hok [] p rfl h60 hp E b a z (ni w)
      rw [List.append_nil] at this
      exact this hs (by rw [List.length_nil]; omega)
    · rw [if_neg h60] at hok her
      -- behind a word
      have n174 : ∀ {ws : List Int32} {p1 : Nat} {E1 : sm_D} {b1 a1 z1 v5 : Int32}, md_ok T e p1 → p < p1 → ws.length + 1 + 2 * (e - p1) ≤ 2 * (e - p) → RS X B p1 (l ++ (xs ++ (ni 32 :: ws))) b1 a1 z1 E1 →
          (∀ ys p3, md_wd2 T e n ws p1 = .ok (ys, p3) → p3 < e ∧ T p3 = ni 60 → ro T e p3 → ∀ E' b' a' z' v3, RS X B p3 (l ++ (xs ++ ys)) b' a' z' E' → ys.length + 2 * (e - p3) ≤ 2 * (e - p) → sw (sm_fx C 206 44 [.ref (X + 49), sm_junk, .int (ni l.length), .int v3, .int (ni 1), sm_junk, sm_junk, sm_junk, sm_junk] [] E') Q) →
          (∀ f, md_wd2 T e n ws p1 = .error f → ∀ E', rX X B f E' → Q (.inl none) E') →
          sw (sm_fx C 206 174 [.ref (X + 49), sm_junk, .int (ni l.length), .int (ni w), .int (ni 1), .int v5, sm_junk, sm_junk, sm_junk] [] E1) Q := by
        intro ws p1 E1 b1 a1 z1 v5 o1 hlt hb hE1 hok1 her1
        refine sw_ge (n206_174 hX) ?_
        simp (disch := omega) only [sw_ite, (hE1.W h).2.2.2, if_true, ni_add, ni_inj]
        rw [if_neg (by omega)]
        refine sw_ge (n206_289 hX) ?_
        simp only [sw_bv]
        refine r199 h hE1 o1 (fun p2 h2 E2 hE2 => ?_) (fun f h2 E2 hE2 => ?_)
        · obtain ⟨o2, l2⟩ := md_space_ok o1 h2
          have o2e := o2.1
          simp only [md_wd2, h2, bind, Except.bind] at hok1 her1
          simp only [sb_v]
          refine ih p2 (w + 1) (xs ++ (ni 32 :: ws)) E2 b1 a1 z1 (by omega) (hp.le o2 (by omega)) (by omega) (by omega) hE2 (by rw [List.length_append, List.length_append, List.length_cons] at *; omega) (fun ys p3 h3 h4 o3 E3 b3 a3 z3 v3 hE3 hb3 => ?_) (fun f h3 E3 hE3 => her1 f (by rw [h3]) E3 hE3)
          refine hok1 (ni 32 :: (ws ++ ys)) p3 (by rw [h3]) h4 o3 E3 b3 a3 z3 v3 ?_ (by rw [List.length_cons, List.length_append]; omega)
          rw [List.append_assoc, List.cons_append] at hE3
          exact hE3
        · simp only [sb_v, r206_44x hX hE2.ne, sw_some]
          exact her1 f (by simp only [md_wd2, h2, bind, Except.bind]) E2 hE2.toX
      have x174 : ∀ {f : Nat} {E1 : sm_D} {v5 : Int32}, rS X B f E1 → Q (.inl none) E1 → sw (sm_fx C 206 174 [.ref (X + 49), sm_junk, .int (ni l.length), .int (ni w), .int (ni 1), .int v5, sm_junk, sm_junk, sm_junk] [] E1) Q := by
        intro f E1 v5 hE1 hQ
        refine sw_ge (n206_174 hX) ?_
        simp only [sw_ite, hE1.ne, if_false, r206_289x hX hE1.ne, sw_some]
        exact hQ
      refine sw_ge (n206_44 hX) ?_
      simp only [sw_ite, ni_10, if_false, (hs.W h).2.2.2, if_true, sw_bi, hs.cur h hpe, sw_some, sb_i, md_cu_is (show 60 < 2147483648 by omega), md_cu_is (show 34 < 2147483648 by omega), r184, md_b_0, sw_bv]
      rw [if_neg h60]
      by_cases h34 : p < e ∧ T p = ni 34
      · rw [if_pos h34] at hok her
        rw [if_pos h34, md_cu_lt h34.1, h34.2]
        have hlt := md_nx_lt (T := T) h34.1
        refine sw_ge (n206_141 hX) ?_
        simp (disch := omega) only [sw_ite, ni_le, sw_bv]
        rw [if_neg (by omega)]
        refine r173 hX hs ⟨32, by omega, rfl⟩ (by omega) (fun E1 hE1 => ?_)
        simp only [sb_v]
        refine sw_ge (n206_151 hX) ?_
        simp only [sw_ite, if_true, sw_bv]
        refine r190 h (by omega) hE1 hp h34.1 (by rw [List.length_append, List.length_singleton]; omega) (fun ws p1 h1 E2 hE2 => ?_) (fun f h1 E2 hE2 => ?_)
        · obtain ⟨o1, l1⟩ := md_quo_ok hp.nx.1 h1
          have o1e := o1.1
          simp only [sb_v]
          refine n174 (ws := ws) o1 (by omega) (by omega) (by rw [List.append_assoc, List.append_assoc, List.singleton_append] at hE2; exact hE2) ?_ ?_
          · intro ys p3 h2
            refine hok ys p3 ?_
            simp only [md_wd2, bind, Except.bind] at h2
            simp only [h1, bind, Except.bind]
            exact h2
          · intro f h2
            refine her f ?_
            simp only [md_wd2, bind, Except.bind] at h2
            simp only [h1, bind, Except.bind]
            exact h2
        · simp only [sb_v]
          exact x174 hE2 (her f (by rw [h1]; rfl) E2 hE2.toX)
      · rw [if_neg h34] at hok her
        rw [if_neg h34]
        by_cases hat : p < e ∧ md_atm (T p) = true
        · have h34' : ¬ T p = ni 34 := fun g => h34 ⟨hat.1, g⟩
          rw [md_cu_lt hat.1, if_neg (by rw [hat.2]; exact fun g => nomatch g)]
          refine sw_ge (n206_141 hX) ?_
          simp (disch := omega) only [sw_ite, ni_le, sw_bv]
          rw [if_neg (by omega)]
          refine r173 hX hs ⟨32, by omega, rfl⟩ (by omega) (fun E1 hE1 => ?_)
          simp only [sb_v]
          refine sw_ge (n206_151 hX) ?_
          simp only [sw_ite, sw_bv]
          rw [if_neg h34']
          refine r182 h false false hE1 hp.1 (by rw [List.length_append, List.length_singleton]; omega) (fun ws p1 h1 E2 hE2 => ?_) (fun f h1 E2 hE2 => ?_)
          · have h1' : md_word T e md_atm 0 p = .ok (ws, p1) := h1
            rw [show md_sx false ws = ws from rfl] at hE2
            obtain ⟨o1, l1⟩ := md_word_ok hp.1 h1
            have o1e := o1.1
            have hpos : 1 ≤ ws.length := by
              rw [md_word, dif_pos hat, if_neg (by omega)] at h1'
              split at h1'
              · cases h1'
              · cases h1'; rw [List.length_cons]; omega
            simp only [sb_v]
            refine n174 (ws := ws) o1 (by omega) (by omega) (by rw [List.append_assoc, List.append_assoc, List.singleton_append] at hE2; exact hE2) ?_ ?_
            · intro ys p3 h2
              refine hok ys p3 ?_
              simp only [md_wd2, bind, Except.bind] at h2
              simp only [h1', bind, Except.bind]
              exact h2
            · intro f h2
              refine her f ?_
              simp only [md_wd2, bind, Except.bind] at h2
              simp only [h1', bind, Except.bind]
              exact h2
          · have h1' : md_word T e md_atm 0 p = .error f := h1
            simp only [sb_v]
            exact x174 hE2 (her f (by rw [h1']; rfl) E2 hE2.toX)
        · have hf : md_atm (md_cu T e p) = false := by
            by_cases hqe : p < e
            · rw [md_cu_lt hqe]
              cases hb : md_atm (T p)
              · rfl
              · exact absurd ⟨hqe, hb⟩ hat
            · rw [md_cu_ge hqe]; exact md_kf_k (tk := false)
          rw [if_pos hf]
          refine r180b h hs hpe (fun E1 hE1 => ?_)
          simp only [sb_v, r206_44x hX hE1.ne, sw_some]
          have hw' : md_word T e md_atm 0 p = .error p := by rw [md_word, dif_neg hat, if_pos rfl]
          exact her p (by rw [hw']; rfl) E1 hE1.toX
end RGL
