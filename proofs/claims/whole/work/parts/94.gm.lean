section RGM
variable {C : sm_K} {X N e q k : Nat} {T : Nat → Int32} {D B E : sm_D} {Q : (Option Value ⊕ Nat) → sm_D → Prop} {l : List Int32} {b a z : Int32}
theorem kA_pc {j : Nat} {v w : Int32} (hj : k ≤ j ∧ j < k + 3) (h : fr (kA X k) D B) : fr (kA X k) D (pc X j B v w) := (h.dI (by unfold kA; omega)).dI (by unfold kA; omega)
theorem md_adr_lt {p : Nat} (hp : p < e ∧ T p = ni 60) : md_adr T e p = (match md_ang T e p with | .error f => .error f | .ok r => (md_space T e 0 r.2).map (fun p7 => (([], r.1.1, r.1.2), p7))) := by
  unfold md_adr md_beg md_ang
  rw [if_pos hp]
  simp only [bind, Except.bind, if_true]
  cases md_loc T e (md_nx T e p) with
  | error f => rfl
  | ok r1 =>
    dsimp only
    cases md_eat T e (ni 64) r1.2 with
    | error f => rfl
    | ok p4 =>
      dsimp only
      cases md_dm T e p4 with
      | error f => rfl
      | ok r2 =>
        dsimp only
        cases md_eat T e (ni 62) r2.2 with
        | error f => rfl
        | ok p6 =>
          dsimp only
          cases md_space T e 0 p6 <;> rfl
/-- how an address goes on when its first piece stands -/
def md_ad2 (T : Nat → Int32) (e : Nat) (xs : List Int32) (dt : Bool) (p1 : Nat) : Except Nat ((List Int32 × List Int32 × List Int32) × Nat) :=
  match md_space T e 0 p1 with
  | .error f => .error f
  | .ok p2 =>
    if dt = true ∨ (p2 < e ∧ T p2 = ni 64) then
      match md_eat T e (ni 64) p2 with
      | .error f => .error f
      | .ok p4 => match md_dm T e p4 with
        | .error f => .error f
        | .ok r => .ok (([], xs, r.1), r.2)
    else match md_wds T e (e + 1) p2 with
      | .error f => .error f
      | .ok r => match md_ang T e r.2 with
        | .error f => .error f
        | .ok s => (md_space T e 0 s.2).map (fun p7 => ((xs ++ r.1, s.1.1, s.1.2), p7))
theorem md_adr_ge {p : Nat} (hp : ¬ (p < e ∧ T p = ni 60)) : md_adr T e p = (match (if p < e ∧ T p = ni 34 then (md_quo T e 8000 0 (md_nx T e p)).map (fun a => (a.1, false, a.2)) else md_dotted T e p) with | .error f => .error f | .ok r => md_ad2 T e r.1 r.2.1 r.2.2) := by
  unfold md_adr md_beg
  rw [if_neg hp]
  by_cases h34 : p < e ∧ T p = ni 34
  · simp only [if_pos h34, bind, Except.bind]
    generalize Except.map (fun a => (a.1, false, a.2)) (md_quo T e 8000 0 (md_nx T e p)) = u
    cases u with
    | error f => rfl
    | ok r =>
      obtain ⟨xs, dt, p1⟩ := r
      unfold md_ad2
      dsimp only
      cases md_space T e 0 p1 with
      | error f => rfl
      | ok p2 =>
        dsimp only
        by_cases hc : dt = true ∨ (p2 < e ∧ T p2 = ni 64)
        · rw [if_pos hc, if_pos hc]
          simp only [if_neg (show ¬ (false = true) by decide)]
          cases md_eat T e (ni 64) p2 with
          | error f => rfl
          | ok p4 =>
            dsimp only
            cases md_dm T e p4 <;> rfl
        · rw [if_neg hc, if_neg hc]
          cases md_wds T e (e + 1) p2 with
          | error f => rfl
          | ok r =>
            dsimp only
            simp only [if_true]
            unfold md_ang
            simp only [bind, Except.bind]
            cases md_loc T e (md_nx T e r.2) with
            | error f => rfl
            | ok r1 =>
              dsimp only
              cases md_eat T e (ni 64) r1.2 with
              | error f => rfl
              | ok p4 =>
                dsimp only
                cases md_dm T e p4 with
                | error f => rfl
                | ok r2 =>
                  dsimp only
                  cases md_eat T e (ni 62) r2.2 with
                  | error f => rfl
                  | ok p6 =>
                    dsimp only
                    cases md_space T e 0 p6 <;> rfl
  · simp only [if_neg h34, bind, Except.bind]
    generalize md_dotted T e p = u
    cases u with
    | error f => rfl
    | ok r =>
      obtain ⟨xs, dt, p1⟩ := r
      unfold md_ad2
      dsimp only
      cases md_space T e 0 p1 with
      | error f => rfl
      | ok p2 =>
        dsimp only
        by_cases hc : dt = true ∨ (p2 < e ∧ T p2 = ni 64)
        · rw [if_pos hc, if_pos hc]
          simp only [if_neg (show ¬ (false = true) by decide)]
          cases md_eat T e (ni 64) p2 with
          | error f => rfl
          | ok p4 =>
            dsimp only
            cases md_dm T e p4 <;> rfl
        · rw [if_neg hc, if_neg hc]
          cases md_wds T e (e + 1) p2 with
          | error f => rfl
          | ok r =>
            dsimp only
            simp only [if_true]
            unfold md_ang
            simp only [bind, Except.bind]
            cases md_loc T e (md_nx T e r.2) with
            | error f => rfl
            | ok r1 =>
              dsimp only
              cases md_eat T e (ni 64) r1.2 with
              | error f => rfl
              | ok p4 =>
                dsimp only
                cases md_dm T e p4 with
                | error f => rfl
                | ok r2 =>
                  dsimp only
                  cases md_eat T e (ni 62) r2.2 with
                  | error f => rfl
                  | ok p6 =>
                    dsimp only
                    cases md_space T e 0 p6 <;> rfl
/-- an address, its cells at k -/
theorem r206_44 (h : rW C X T N e B) (h53 : B.1 (X + 49) 53 = ni k) (hk : k + 2 < 60) (h54 : B.1 (X + 49) 54 = ni 0) (hs : RS X B q l b a z E) (hq : ro T e q) (hl : l.length + 2 * (e - q) ≤ 24000)
    (hok : ∀ w p', md_adr T e q = (md_space T e 0 p').map (fun p2 => (w, p2)) → ro T e p' → ∀ B' E' m b' a' z', RS X B' p' (l ++ m) b' a' z' E' → fr (kA X k) B B' → SLT (l ++ m) (B'.1 (X + 78) k) (B'.1 (X + 79) k) w.1 → SLT (l ++ m) (B'.1 (X + 78) (k + 1)) (B'.1 (X + 79) (k + 1)) w.2.1 → SLT (l ++ m) (B'.1 (X + 78) (k + 2)) (B'.1 (X + 79) (k + 2)) w.2.2 → m.length + 2 * (e - p') ≤ 2 * (e - q) → Q (.inl none) E')
    (her : ∀ f, md_adr T e q = .error f → ∀ E', rX X B f E' → Q (.inl none) E') :
    sw (sm_fx C 206 44 [.ref (X + 49), sm_junk, .int (ni l.length), .int (ni 0), .int (ni 1), sm_junk, sm_junk, sm_junk, sm_junk] [] E) Q := by
  have hX := h.1.1
  have hN := h.1.2.2.1
  have he := h.2.1
  have hqe := hq.1.1
  -- < stands behind the words xs
  have ang : ∀ (xs : List Int32) (p1 : Nat) (E : sm_D) (b a z v3 : Int32), p1 < e ∧ T p1 = ni 60 → ro T e p1 → RS X B p1 (l ++ xs) b a z E → xs.length + 2 * (e - p1) ≤ 2 * (e - q) →
      (∀ r, md_ang T e p1 = .ok r → md_adr T e q = (md_space T e 0 r.2).map (fun p7 => ((xs, r.1.1, r.1.2), p7))) → (∀ f, md_ang T e p1 = .error f → md_adr T e q = .error f) →
      sw (sm_fx C 206 44 [.ref (X + 49), sm_junk, .int (ni l.length), .int v3, .int (ni 1), sm_junk, sm_junk, sm_junk, sm_junk] [] E) Q := by
    intro xs p1 E b a z v3 hp hp1 hs hb h1 h2
    have hp1e := hp1.1.1
    refine r206_lt h h53 hk h54 hs hp1 hp (by rw [List.length_append]; omega) (fun lo dm p6 g1 o6 hb6 E' b' a' z' hE' => ?_) (fun f g1 E' hE' => her f (h2 f g1) E' hE')
    have o6e := o6.1
    have e1 := h1 _ g1
    have eL : ((l ++ xs) ++ lo) ++ dm = l ++ (xs ++ (lo ++ dm)) := by simp
    refine hok (xs, lo, dm) p6 e1 (hp1.le o6 (by omega)) _ E' (xs ++ (lo ++ dm)) b' a' z' (by rw [← eL]; exact hE') (kA_pc (by omega) (kA_pc (by omega) (kA_pc (by omega) fr.refl))) ?_ ?_ ?_ (by rw [List.length_append, List.length_append]; omega)
    · rw [pc_o (by omega), pc_o (by omega), pc_1, pc_o (by omega), pc_o (by omega), pc_2, ← eL]
      exact (SLT.new (l := l) (xs := xs)).mono.mono
    · rw [pc_o (by omega), pc_1, pc_o (by omega), pc_2, ← eL]
      exact (SLT.new (l := l ++ xs) (xs := lo)).mono
    · rw [pc_1, pc_2, ← eL]
      exact SLT.new
  by_cases h60 : q < e ∧ T q = ni 60
  · have e0 := md_adr_lt h60
    refine ang [] q E b a z (ni 0) h60 hq (by rw [List.append_nil]; exact hs) (by rw [List.length_nil]; omega) (fun r hr => by rw [e0, hr]) (fun f hf => by rw [e0, hf])
  · have e0 := md_adr_ge h60
    -- behind the first piece
    have n239 : ∀ (xs : List Int32) (dt : Bool) (p1 : Nat) (E : sm_D) (b a z : Int32), md_adr T e q = md_ad2 T e xs dt p1 → md_ok T e p1 → q + xs.length ≤ p1 → q < p1 → RS X B p1 (l ++ xs) b a z E → sw (sm_fx C 206 239 [.ref (X + 49), sm_junk, .int (ni l.length), .int (ni 1), .int (ni 1), sm_junk, .int (ni l.length), .int (ni xs.length), .int (md_b dt)] [] E) Q := by
      intro xs dt p1 E b a z e1 o1 hb hlt hs
      have o1e := o1.1
      unfold md_ad2 at e1
      refine sw_ge (n206_239 hX) ?_
      simp only [sw_bv]
      refine r199 h hs o1 (fun p2 h2 E2 hE2 => ?_) (fun f h2 E2 hE2 => ?_)
      rotate_left
      · simp only [sb_v, sw_ite, hE2.ne, if_false, r206_289x hX hE2.ne, sw_some]
        exact her f (by rw [e1, h2]) E2 hE2.toX
      obtain ⟨o2, l2⟩ := md_space_ok o1 h2
      have o2e := o2.1
      have q2 := hq.le o2 (by omega)
      simp only [h2] at e1
      have n265 : (dt = true ∨ (p2 < e ∧ T p2 = ni 64)) → sw (sm_fx C 206 265 [.ref (X + 49), sm_junk, .int (ni l.length), .int (ni 1), sm_junk, sm_junk, .int (ni l.length), .int (ni xs.length), sm_junk] [] E2) Q := by
        intro hc
        rw [if_pos hc] at e1
        refine sw_ge (n206_265 hX) ?_
        have e53 : E2.1 (X + 49) 53 = ni k := by rw [hE2.o (by unfold rsc; omega), h53]
        simp only [sw_bv]
        rw [r207 hX e53 (show k + 1 < 60 by omega), sw_some]
        simp only [sb_v, sw_bv]
        have hE3 := hE2.pc (k + 1) (ni l.length) (ni xs.length)
        have e53' : (pc X (k + 1) E2 (ni l.length) (ni xs.length)).1 (X + 49) 53 = ni k := by rw [pc_o (by omega), e53]
        have := r207 hX e53' (j := 0) (by omega) (v := ni l.length) (w := ni 0)
        unfold pc at this
        rw [this, sw_some, Nat.add_zero]
        simp only [sb_v, sw_bv]
        have hE4 := hE3.pc k (ni l.length) (ni 0)
        have hW4 := pc_W (j := k) (v := ni l.length) (w := ni 0) (pc_W (j := k + 1) (v := ni l.length) (w := ni xs.length) h)
        have hF4 : rF X B (pc X k (pc X (k + 1) B (ni l.length) (ni xs.length)) (ni l.length) (ni 0)) := (pc_F (D := B)).trans pc_F
        have g53 : (pc X k (pc X (k + 1) B (ni l.length) (ni xs.length)) (ni l.length) (ni 0)).1 (X + 49) 53 = ni k := by rw [pc_o (by omega), pc_o (by omega), h53]
        have g54 : (pc X k (pc X (k + 1) B (ni l.length) (ni xs.length)) (ni l.length) (ni 0)).1 (X + 49) 54 = ni 0 := by rw [pc_o (by omega), pc_o (by omega), h54]
        have e289 : ∀ {E : sm_D}, (E.1 (X + 49) 8 = sm_k (-1)) = False → sm_fx C 206 289 [.ref (X + 49), sm_junk, .int (ni l.length), .int (ni 1), .int (ni 0), sm_junk, sm_junk, sm_junk, sm_junk] [] E = some (.inl none, E) := fun g => r206_289x hX g
        refine r210 hW4 g53 hk g54 hE4 o2 (by rw [List.length_append]; omega) (fun dm p5 h4 o4 l4 E5 b5 a5 z5 hE5 => ?_) (fun f h4 E5 hE5 => ?_)
        rotate_left
        · simp only [sb_v, e289 hE5.ne, sw_some]
          refine her f ?_ _ (hE5.of hF4)
          rcases md_dm_er h4 with ⟨p, g1, g2⟩ | g1
          · rw [e1]; simp only [g1, g2]
          · rw [e1]; simp only [g1]
        have o4e := o4.1
        obtain ⟨p6, g1, g2⟩ := md_dm_ok h4
        simp only [g1, g2, md_sp1, bind, Except.bind] at e1
        simp only [sb_v]
        refine sw_ge (n206_289 hX) ?_
        simp only [sw_bv]
        have hW5 := pc_W (j := k + 2) (v := ni (l ++ xs).length) (w := ni dm.length) hW4
        have hF5 := hF4.trans (pc_F (X := X) (D := pc X k (pc X (k + 1) B (ni l.length) (ni xs.length)) (ni l.length) (ni 0)) (j := k + 2) (v := ni (l ++ xs).length) (w := ni dm.length))
        refine r199 hW5 hE5 o4 (fun p7 h5 E6 hE6 => ?_) (fun f h5 E6 hE6 => ?_)
        · obtain ⟨o5, l5⟩ := md_space_ok o4 h5
          have o5e := o5.1
          simp only [sb_v, r206_440 hX, sw_some]
          have e2 : md_space T e 0 p7 = .ok p7 := md_space_id e 0 p5 p7 (by omega) h5
          simp only [h5] at e1
          refine hok ([], xs, dm) p7 (by rw [e1, e2]; rfl) (hq.le o5 (by omega)) _ E6 (xs ++ dm) b5 a5 z5 (by rw [← List.append_assoc]; exact hE6) (kA_pc (by omega) (kA_pc (by omega) (kA_pc (by omega) fr.refl))) ?_ ?_ ?_ (by rw [List.length_append]; omega)
          · rw [pc_o (by omega), pc_1, pc_o (by omega), pc_2, ← List.append_assoc]
            exact ⟨l.length, rfl, rfl, by rw [List.length_append, List.length_append, List.length_nil]; omega, fun j hj => by cases hj⟩
          · rw [pc_o (by omega), pc_o (by omega), pc_1, pc_o (by omega), pc_o (by omega), pc_2, ← List.append_assoc]
            exact (SLT.new (l := l) (xs := xs)).mono
          · rw [pc_1, pc_2, ← List.append_assoc]
            exact SLT.new
        · simp only [sb_v, r206_440 hX, sw_some]
          exact her f (by rw [e1]; simp only [h5]) _ (hE6.of hF5)
      have n289 : ¬ (dt = true ∨ (p2 < e ∧ T p2 = ni 64)) → sw (sm_fx C 206 289 [.ref (X + 49), sm_junk, .int (ni l.length), .int (ni 1), .int (ni 1), sm_junk, sm_junk, sm_junk, sm_junk] [] E2) Q := by
        intro hc
        rw [if_neg hc] at e1
        refine sw_ge (n206_289 hX) ?_
        simp only [sw_bv]
        have e2 : md_space T e 0 p2 = .ok p2 := md_space_id e 0 p1 p2 (by omega) h2
        refine r199 h hE2 o2 (fun p3 h3 E3 hE3 => ?_) (fun f h3 E3 hE3 => by rw [e2] at h3; cases h3)
        rw [e2] at h3
        cases h3
        simp only [sb_v]
        refine r206_ws h (e + 1) p2 1 xs E3 b a z (by omega) q2 (by omega) (by omega) hE3 (by rw [List.length_append]; omega) (fun ys p3 h3 h4 o3 E4 b4 a4 z4 v4 hE4 hb4 => ?_) (fun f h3 E4 hE4 => her f (by rw [e1, h3]) E4 hE4)
        refine ang (xs ++ ys) p3 E4 b4 a4 z4 v4 h4 o3 hE4 (by rw [List.length_append]; omega) (fun r hr => by rw [e1, h3]; simp only [hr]) (fun f hf => by rw [e1, h3]; simp only [hf])
      simp only [sb_v, sw_ite, (hE2.W h).2.2.2, if_true, md_b_0, sw_bi, hE2.cur h o2e, sw_some, sb_i, md_cu_is (show 64 < 2147483648 by omega)]
      cases dt
      · rw [if_pos rfl]
        by_cases h64 : p2 < e ∧ T p2 = ni 64
        · rw [if_pos h64]; exact n265 (Or.inr h64)
        · rw [if_neg h64]; exact n289 (fun g => g.elim (fun g => nomatch g) h64)
      · rw [if_neg (fun g => nomatch g)]
        exact n265 (Or.inl rfl)
    have n222 : ∀ (xs : List Int32) (p1 : Nat) (E : sm_D) (b a z : Int32), md_adr T e q = md_ad2 T e xs false p1 → md_ok T e p1 → q + xs.length ≤ p1 → q < p1 → RS X B p1 (l ++ xs) b a z E → sw (sm_fx C 206 222 [.ref (X + 49), sm_junk, .int (ni l.length), .int (ni 1), .int (ni 1), sm_junk, .int (ni l.length), .int (ni xs.length), sm_junk] [] E) Q := by
      intro xs p1 E b a z e1 o1 hb hlt hs
      refine sw_ge (n206_222 hX) ?_
      refine sw_ge (n206_223 hX) ?_
      simp only [sw_ite, if_true]
      exact n239 xs false p1 E b a z e1 o1 hb hlt hs
    have x174 : ∀ {f : Nat} {E1 : sm_D} {v5 : Int32}, rS X B f E1 → Q (.inl none) E1 → sw (sm_fx C 206 174 [.ref (X + 49), sm_junk, .int (ni l.length), .int (ni 0), .int (ni 1), .int v5, sm_junk, sm_junk, sm_junk] [] E1) Q := by
      intro f E1 v5 hE1 hQ
      refine sw_ge (n206_174 hX) ?_
      simp only [sw_ite, hE1.ne, if_false, r206_289x hX hE1.ne, sw_some]
      exact hQ
    refine sw_ge (n206_44 hX) ?_
    simp only [sw_ite, ni_10, if_false, (hs.W h).2.2.2, if_true, sw_bi, hs.cur h hqe, sw_some, sb_i, md_cu_is (show 60 < 2147483648 by omega), md_cu_is (show 34 < 2147483648 by omega), r184, md_b_0, sw_bv]
    rw [if_neg h60]
    have l00 : (ni 0 ≤ ni 0) = True := by rw [ni_le (by omega) (by omega)]; simp
    by_cases h34 : q < e ∧ T q = ni 34
    · rw [if_pos h34] at e0
      rw [if_pos h34, md_cu_lt h34.1, h34.2]
      have hlt := md_nx_lt (T := T) h34.1
      refine sw_ge (n206_141 hX) ?_
      simp only [sw_ite, l00, if_true]
      refine sw_ge (n206_151 hX) ?_
      simp only [sw_ite, if_true, sw_bv]
      refine r190 h (by omega) hs hq h34.1 (by omega) (fun ws p1 h1 E2 hE2 => ?_) (fun f h1 E2 hE2 => ?_)
      · obtain ⟨o1, l1⟩ := md_quo_ok hq.nx.1 h1
        simp only [sb_v]
        refine sw_ge (n206_174 hX) ?_
        simp (disch := omega) only [sw_ite, (hE2.W h).2.2.2, if_true, ni_add, ni_inj, hE2.2.2.2.2.1.2.1, hE2.2.2.2.2.1.2.2]
        exact n222 ws p1 E2 _ _ _ (by rw [e0, h1]; rfl) o1 (by omega) (by omega) hE2
      · simp only [sb_v]
        exact x174 hE2 (her f (by rw [e0, h1]; rfl) E2 hE2.toX)
    · rw [if_neg h34] at e0
      rw [if_neg h34]
      unfold md_dotted at e0
      by_cases hat : q < e ∧ md_atm (T q) = true
      · have h34' : ¬ T q = ni 34 := fun g => h34 ⟨hat.1, g⟩
        rw [md_cu_lt hat.1, if_neg (by rw [hat.2]; exact fun g => nomatch g)]
        refine sw_ge (n206_141 hX) ?_
        simp only [sw_ite, l00, if_true]
        refine sw_ge (n206_151 hX) ?_
        simp only [sw_ite, sw_bv]
        rw [if_neg h34']
        refine r182 h false false hs hq.1 (by omega) (fun ws p1 h1 E2 hE2 => ?_) (fun f h1 E2 hE2 => ?_)
        · have h1' : md_word T e md_atm 0 q = .ok (ws, p1) := h1
          rw [show md_sx false ws = ws from rfl] at hE2
          obtain ⟨o1, l1⟩ := md_word_ok hq.1 h1
          have o1e := o1.1
          have hpos : 1 ≤ ws.length := by
            rw [md_word, dif_pos hat, if_neg (by omega)] at h1'
            split at h1'
            · cases h1'
            · cases h1'; rw [List.length_cons]; omega
          simp only [h1', bind, Except.bind] at e0
          simp only [sb_v]
          refine sw_ge (n206_174 hX) ?_
          simp (disch := omega) only [sw_ite, (hE2.W h).2.2.2, if_true, ni_add, ni_inj, hE2.2.2.2.2.1.2.1, hE2.2.2.2.2.1.2.2, sw_bi, hE2.cur h o1e, sw_some, sb_i, md_cu_is (show 46 < 2147483648 by omega)]
          rw [if_neg h34']
          by_cases h46 : p1 < e ∧ T p1 = ni 46
          · rw [if_pos h46]
            refine sw_ge (n206_223 hX) ?_
            simp only [sw_ite, ni_10, if_false, sw_bi]
            refine r209 h false h54 hE2 o1 (by rw [List.length_append]; omega) (fun ys p2 h2 E3 b3 a3 z3 hE3 => ?_) (fun f h2 x E3 hE3 => ?_)
            · rw [show md_sx false ys = ys from rfl, List.append_assoc] at hE3
              obtain ⟨o2, l2⟩ := md_dots_ok o1 h2
              have hne : ys ≠ [] := by
                intro g
                subst g
                have he1 : e = (e - 1) + 1 := by omega
                rw [he1] at h2
                unfold md_dots at h2
                rw [← he1, if_pos h46] at h2
                simp only [bind, Except.bind] at h2
                split at h2
                · cases h2
                · split at h2
                  · cases h2
                  · cases h2
              simp only [h2] at e0
              simp only [sb_i, ni_add]
              have := n239 (ws ++ ys) true p2 E3 b3 a3 z3 (by rw [e0]; cases ys with | nil => exact absurd rfl hne | cons _ _ => rfl) o2 (by rw [List.length_append]; omega) (by omega) hE3
              rw [List.length_append] at this
              exact this
            · simp only [h2] at e0
              simp only [sb_i]
              refine sw_ge (n206_239 hX) ?_
              simp only [sw_bv, r199x hX hE3.ne, sw_some, sb_v, sw_ite, hE3.ne, if_false, r206_289x hX hE3.ne]
              exact her f e0 E3 hE3.toX
          · rw [if_neg h46]
            have hd : md_dots T e e p1 = .ok ([], p1) := by
              cases e with
              | zero => rfl
              | succ e => unfold md_dots; rw [if_neg h46]
            simp only [hd] at e0
            exact n222 ws p1 E2 _ _ _ (by rw [e0, List.append_nil]; rfl) o1 (by omega) (by omega) hE2
        · have h1' : md_word T e md_atm 0 q = .error f := h1
          simp only [h1', bind, Except.bind] at e0
          simp only [sb_v]
          exact x174 hE2 (her f e0 E2 hE2.toX)
      · have hf : md_atm (md_cu T e q) = false := by
          by_cases hqe : q < e
          · rw [md_cu_lt hqe]
            cases hb : md_atm (T q)
            · rfl
            · exact absurd ⟨hqe, hb⟩ hat
          · rw [md_cu_ge hqe]; exact md_kf_k (tk := false)
        rw [if_pos hf]
        refine r180b h hs hqe (fun E1 hE1 => ?_)
        simp only [sb_v, r206_44x hX hE1.ne, sw_some]
        have hw' : md_word T e md_atm 0 q = .error q := by rw [md_word, dif_neg hat, if_pos rfl]
        simp only [hw', bind, Except.bind] at e0
        exact her q e0 E1 hE1.toX
end RGM
