section CAF
variable {C : sm_K} {X t N e : Nat} {T : Nat → Int32} {Q : (Option Value ⊕ Nat) → sm_D → Prop}
def AD (kd : Nat) (l : List (List Int32 × List Int32 × List Int32)) (σ : Nat → List Int32) : Prop := ∀ n a, l[n]? = some a → σ (960 + 3 * (10 * (kd - 5) + n)) = a.1 ∧ σ (960 + 3 * (10 * (kd - 5) + n) + 1) = a.2.1 ∧ σ (960 + 3 * (10 * (kd - 5) + n) + 2) = a.2.2
theorem dI_dI {D : sm_D} {a i : Nat} {u v : Int32} : sm_dI (sm_dI D a i u) a i v = sm_dI D a i v := by
  refine Prod.ext ?_ rfl
  funext b j
  simp only [sm_up]
  split <;> rfl
theorem c146 {D : sm_D} (tr : sm_tree C t) {kd : Nat} {v : Int32} (hk : kd = 5 ∨ kd = 6) : sm_fe C 146 [.ref t, .int (ni kd), .int v] D = some (.inl none, sm_dI D (t + 12) (kd - 5) v) := by
  apply sw_eq
  refine sw_ge (f146 tr) ?_
  rcases hk with rfl | rfl
  · simp (disch := omega) only [sw_ite, if_true, sw_gu, ni_in, ni_nat, sw_some]
    exact ⟨by decide, trivial⟩
  · simp (disch := omega) only [sw_ite, if_true, sw_gu, ni_in, ni_nat, sw_some, ni_inj]
    rw [if_neg (by omega)]
    exact ⟨by decide, trivial⟩
theorem c77_2 {D0 : sm_D} {kd : Nat} (hk : kd = 5 ∨ kd = 6) : ∀ (m : Nat) (D : sm_D) (f g : Nat → Int32) (σ : Nat → List Int32) (p : Nat) (pl : List Int32) (l : List (List Int32 × List Int32 × List Int32)), cW C X t T N e D → cF X t D0 D → (∀ v, sm_dI D (t + 12) (kd - 5) v = sm_dI D0 (t + 12) (kd - 5) v) → l.length + m = 10 → SL f g pl σ → AD kd l σ → (∀ n, l.length ≤ n → n < 10 → σ (960 + 3 * (10 * (kd - 5) + n)) = []) → pl.length + (e - p) < 16400 → md_ok T e p → 1 ≤ p →
    (∀ l', md_adrs T e m l p = .ok l' → ∀ f' g' pl' σ' r, SL f' g' pl' σ' → AD kd l' σ' → l'.length ≤ 10 → (∀ k, ¬ (960 + 30 * (kd - 5) ≤ k ∧ k < 990 + 30 * (kd - 5)) → σ' k = σ k) → md_ok T e r → pl'.length + (e - r) ≤ pl.length + (e - p) → Q (.inl none) (cs X t T e (ts t (sm_dI D0 (t + 12) (kd - 5) (ni l'.length)) f' g') r pl')) →
    (∀ x z D', md_adrs T e m l p = .error x → cT X t D0 x z D' → Q (.inr z) D') →
    sw (sm_fx C 77 2 [.ref (X + 9), .ref t, .int (ni kd), .int (ni l.length), sm_junk] [] (cs X t T e (ts t D f g) p pl)) Q := by
  intro m
  induction m with
  | zero =>
    intro D f g σ p pl l h hF hD hl hS hA hz hpl hp hp1 hok her
    have hX := h.1.1
    have ht := h.1.2.1
    have tr := (sm_tree_of hX ht).1
    unfold md_adrs at hok her
    refine sw_ge (n77_2 hX tr) ?_
    simp (disch := omega) only [sw_ite, ni_lt, sw_bv]
    rw [if_neg (by omega)]
    refine c32 (cW_ts h) hp (fun p1 h1 => ?_) (fun x z D' h1 hT => ⟨hT.tw, her x z D' (by rw [h1]; rfl) ((hT.of cF_ts).of hF)⟩)
    simp only [h1, bind, Except.bind] at her
    simp (disch := omega) only [sb_v, sw_ite, ni_inj, sw_bv, cs_2]
    rw [if_pos (by omega)]
    exact c29 hX ((hF.trans cF_ts).trans cF_cs) (fun z D' hT => ⟨hT.tw, her p1 z D' rfl hT⟩)
  | succ m ih =>
    intro D f g σ p pl l h hF hD hl hS hA hz hpl hp hp1 hok her
    have hX := h.1.1
    have ht := h.1.2.1
    have tr := (sm_tree_of hX ht).1
    unfold md_adrs at hok her
    refine sw_ge (n77_2 hX tr) ?_
    simp (disch := omega) only [sw_ite, ni_lt, sw_bv]
    rw [if_neg (by omega)]
    refine c32 (cW_ts h) hp (fun p1 h1 => ?_) (fun x z D' h1 hT => ⟨hT.tw, her x z D' (by rw [h1]; rfl) ((hT.of cF_ts).of hF)⟩)
    obtain ⟨o1, l1⟩ := md_space_ok hp h1
    have oe1 := o1.1
    simp only [h1, bind, Except.bind] at hok her
    simp (disch := omega) only [sb_v, sw_ite, ni_inj]
    rw [if_neg (by omega)]
    -- behind an address
    have h100 : ∀ (a : List Int32 × List Int32 × List Int32) (p2 : Nat) (f' g' : Nat → Int32) (pl' : List Int32) (σ' : Nat → List Int32), md_adr T e p1 = .ok (a, p2) → md_ok T e p2 → 1 ≤ p2 → SL f' g' pl' σ' → AD kd (l ++ [a]) σ' → (∀ n, l.length + 1 ≤ n → n < 10 → σ' (960 + 3 * (10 * (kd - 5) + n)) = []) → (∀ k, ¬ (960 + 30 * (kd - 5) ≤ k ∧ k < 990 + 30 * (kd - 5)) → σ' k = σ k) → pl'.length + (e - p2) ≤ pl.length + (e - p) →
        sw (sm_fx C 77 100 [.ref (X + 9), .ref t, .int (ni kd), .int (ni l.length), sm_junk] [] (cs X t T e (ts t D f' g') p2 pl')) Q := by
      intro a p2 f' g' pl' σ' h2 o2 hp2 hS' hA' hz' hoff hb
      have oe2 := o2.1
      simp only [h2] at hok her
      refine sw_ge (n77_100 hX tr) ?_
      simp only [sw_bv, ni_add, c146 tr hk, sw_some, sb_v, sw_ite]
      rw [up_ne (by omega), dI_cs (by omega) (by omega) (by omega), dI_ts (by omega) (by omega), hD]
      have hW2 : cW C X t T N e (sm_dI D0 (t + 12) (kd - 5) (ni (l.length + 1))) := by
        rw [← hD]; exact cW_dI h (Or.inr (by omega)) (by omega)
      have hF2 : cF X t D0 (sm_dI D0 (t + 12) (kd - 5) (ni (l.length + 1))) := cF_dI' (Or.inr (by omega))
      simp only [cs_4, md_cu_none h]
      have hlen : (l ++ [a]).length = l.length + 1 := by rw [List.length_append]; rfl
      by_cases he2 : p2 < e
      · rw [if_neg (fun z => z he2)]
        simp only [if_pos he2] at hok her
        refine c35 (cW_ts hW2) (by omega) o2 (fun p3 h3 => ?_) (fun x z D' h3 hT => ⟨hT.tw, her x z D' (by rw [h3]) ((hT.of cF_ts).of hF2)⟩)
        obtain ⟨o3, l3⟩ := md_eat_ok o2 h3
        have oe3 := o3.1
        simp only [h3] at hok her
        simp only [sb_v]
        have := ih (sm_dI D0 (t + 12) (kd - 5) (ni (l.length + 1))) f' g' σ' p3 pl' (l ++ [a]) hW2 hF2 (fun v => dI_dI) (by rw [hlen]; omega) hS' hA' (by rw [hlen]; exact hz') (by omega) o3 (by omega) (fun l' h4 f2 g2 pl2 σ2 r a1 a2 a3 a4 a5 a6 => hok l' h4 f2 g2 pl2 σ2 r a1 a2 a3 (fun k hk2 => (a4 k hk2).trans (hoff k hk2)) a5 (by omega)) her
        rw [hlen] at this
        exact this
      · rw [if_pos he2]
        simp only [if_neg he2] at hok
        have := hok _ rfl f' g' pl' σ' p2 hS' hA' (by rw [hlen]; omega) hoff o2 hb
        rw [hlen] at this
        exact this
    refine sw_ge (n77_35 hX tr) ?_
    simp only [sw_bi]
    refine c78 h hk (by omega) hS (hz l.length (Nat.le_refl _) (by omega)) (by omega) o1 (by omega) (fun b p2 h2 o2 f1 g1 pl1 hS1 b1 => ?_) (fun x z D' h2 hT => ⟨hT.tw, her x z D' (by unfold md_adr; rw [h2]; rfl) (hT.of hF)⟩)
    have hbeg := md_beg_ok o1 h2
    have oe2 := o2.1
    have her1 : ∀ x z D', (do
        if b.1 = true then do
          let (lo, p3) ← md_loc T e (md_nx T e p2)
          let p4 ← md_eat T e (ni 64) p3
          let (dm, p5) ← md_dm T e p4
          let p6 ← md_eat T e (ni 62) p5
          let p7 ← md_space T e 0 p6
          .ok ((b.2, lo, dm), p7)
        else do
          let p4 ← md_eat T e (ni 64) p2
          let (dm, p5) ← md_dm T e p4
          .ok (([], b.2, dm), p5) : Except Nat ((List Int32 × List Int32 × List Int32) × Nat)) = .error x → cT X t D0 x z D' → Q (.inr z) D' := fun x z D' hh => her x z D' (by
      unfold md_adr
      rw [h2]
      simp only [bind, Except.bind] at hh ⊢
      rw [hh])
    have hadr : ∀ a r, (do
        if b.1 = true then do
          let (lo, p3) ← md_loc T e (md_nx T e p2)
          let p4 ← md_eat T e (ni 64) p3
          let (dm, p5) ← md_dm T e p4
          let p6 ← md_eat T e (ni 62) p5
          let p7 ← md_space T e 0 p6
          .ok ((b.2, lo, dm), p7)
        else do
          let p4 ← md_eat T e (ni 64) p2
          let (dm, p5) ← md_dm T e p4
          .ok (([], b.2, dm), p5) : Except Nat ((List Int32 × List Int32 × List Int32) × Nat)) = .ok (a, r) → md_adr T e p1 = .ok (a, r) := fun a r hh => by
      unfold md_adr
      rw [h2]
      exact hh
    obtain ⟨an, xs⟩ := b
    have slots : ∀ (a : List Int32 × List Int32 × List Int32) (σ' : Nat → List Int32), σ' (960 + 3 * (10 * (kd - 5) + l.length)) = a.1 → σ' (960 + 3 * (10 * (kd - 5) + l.length) + 1) = a.2.1 → σ' (960 + 3 * (10 * (kd - 5) + l.length) + 2) = a.2.2 → (∀ k, ¬ (960 + 3 * (10 * (kd - 5) + l.length) ≤ k ∧ k < 960 + 3 * (10 * (kd - 5) + l.length) + 3) → σ' k = σ k) → AD kd (l ++ [a]) σ' ∧ (∀ n, l.length + 1 ≤ n → n < 10 → σ' (960 + 3 * (10 * (kd - 5) + n)) = []) ∧ (∀ k, ¬ (960 + 30 * (kd - 5) ≤ k ∧ k < 990 + 30 * (kd - 5)) → σ' k = σ k) := by
      intro a σ' s1 s2 s3 s4
      refine ⟨fun n c hn => ?_, fun n h1 h2 => ?_, fun k hk2 => s4 k (by omega)⟩
      · rcases Nat.lt_or_ge n l.length with hlt | hge
        · rw [List.getElem?_append_left hlt] at hn
          obtain ⟨g1, g2, g3⟩ := hA n c hn
          exact ⟨(s4 _ (by omega)).trans g1, (s4 _ (by omega)).trans g2, (s4 _ (by omega)).trans g3⟩
        · rw [List.getElem?_append_right hge] at hn
          have h0 : n - l.length = 0 := by
            rcases Nat.eq_zero_or_pos (n - l.length) with h0 | h0
            · exact h0
            · rw [List.getElem?_eq_none (by rw [List.length_singleton]; omega)] at hn; cases hn
          rw [h0] at hn
          cases hn
          have en : n = l.length := by omega
          subst en
          exact ⟨s1, s2, s3⟩
      · rw [s4 _ (by omega)]
        exact hz n (by omega) h2
    cases an
    · -- the local part stood alone
      simp only [Bool.false_eq_true, if_false] at her1 hadr hS1
      simp only [sb_i, sw_ite, md_b_0, if_true]
      refine sw_ge (n77_63 hX tr) ?_
      simp only [sw_bv]
      refine c35 (cW_ts h) (by omega) o2 (fun p4 h4 => ?_) (fun x z D' h4 hT => ⟨hT.tw, her1 x z D' (by rw [h4]; rfl) ((hT.of cF_ts).of hF)⟩)
      obtain ⟨o4, l4⟩ := md_eat_ok o2 h4
      have oe4 := o4.1
      simp only [h4, bind, Except.bind] at her1 hadr
      simp only [sb_v, sw_bv]
      refine c80 h hk (by omega) hS1 (by omega) o4 (fun dm p5 h5 o5 l5 f2 g2 pl2 hS2 b2 => ?_) (fun x z D' h5 hT => ⟨hT.tw, her1 x z D' (by rw [h5]) (hT.of hF)⟩)
      simp only [h5] at hadr
      have oe5 := o5.1
      simp only [sb_v, sw_ite, md_b_0, if_true]
      have h0 := hz l.length (Nat.le_refl _) (by omega)
      obtain ⟨q1, q2, q3⟩ := slots ([], xs, dm) (up1 (up1 σ (960 + 3 * (10 * (kd - 5) + l.length) + 1) xs) (960 + 3 * (10 * (kd - 5) + l.length) + 2) dm) (by unfold up1; rw [if_neg (by omega), if_neg (by omega), h0]) (by unfold up1; rw [if_neg (by omega), if_pos rfl]) (by unfold up1; rw [if_pos rfl]) (fun k hk2 => by unfold up1; rw [if_neg (by omega), if_neg (by omega)])
      exact h100 ([], xs, dm) p5 f2 g2 pl2 _ (hadr _ _ rfl) o5 (by omega) hS2 q1 q2 q3 (by omega)
    · -- < follows
      have hlt60 := (hbeg.2.2 rfl).1
      have hlt := md_nx_lt (T := T) hlt60
      simp only [if_true] at her1 hadr hS1
      simp only [sb_i, sw_ite, md_b_0, Bool.true_eq_false, if_false, sw_bv, c31 (cW_ts h) o2, sw_some, sb_v]
      refine c79 h hk (by omega) hS1 (by omega) o2.nx (fun lo p3 h3 o3 l3 f2 g2 pl2 hS2 b2 => ?_) (fun x z D' h3 hT => ⟨hT.tw, her1 x z D' (by rw [h3]; rfl) (hT.of hF)⟩)
      have oe3 := o3.1
      simp only [h3, bind, Except.bind] at her1 hadr
      simp only [sb_v]
      refine sw_ge (n77_63 hX tr) ?_
      simp only [sw_bv]
      refine c35 (cW_ts h) (by omega) o3 (fun p4 h4 => ?_) (fun x z D' h4 hT => ⟨hT.tw, her1 x z D' (by rw [h4]) ((hT.of cF_ts).of hF)⟩)
      obtain ⟨o4, l4⟩ := md_eat_ok o3 h4
      have oe4 := o4.1
      simp only [h4] at her1 hadr
      simp only [sb_v, sw_bv]
      refine c80 h hk (by omega) hS2 (by omega) o4 (fun dm p5 h5 o5 l5 f3 g3 pl3 hS3 b3 => ?_) (fun x z D' h5 hT => ⟨hT.tw, her1 x z D' (by rw [h5]) (hT.of hF)⟩)
      have oe5 := o5.1
      simp only [h5] at her1 hadr
      simp only [sb_v, sw_ite, md_b_0, Bool.true_eq_false, if_false, sw_bv]
      refine c35 (cW_ts h) (by omega) o5 (fun p6 h6 => ?_) (fun x z D' h6 hT => ⟨hT.tw, her1 x z D' (by rw [h6]) ((hT.of cF_ts).of hF)⟩)
      obtain ⟨o6, l6⟩ := md_eat_ok o5 h6
      have oe6 := o6.1
      simp only [h6] at her1 hadr
      simp only [sb_v, sw_bv]
      refine c32 (cW_ts h) o6 (fun p7 h7 => ?_) (fun x z D' h7 hT => ⟨hT.tw, her1 x z D' (by rw [h7]) ((hT.of cF_ts).of hF)⟩)
      obtain ⟨o7, l7⟩ := md_space_ok o6 h7
      have oe7 := o7.1
      simp only [h7] at hadr
      simp only [sb_v]
      obtain ⟨q1, q2, q3⟩ := slots (xs, lo, dm) (up1 (up1 (up1 σ (960 + 3 * (10 * (kd - 5) + l.length) + 0) xs) (960 + 3 * (10 * (kd - 5) + l.length) + 1) lo) (960 + 3 * (10 * (kd - 5) + l.length) + 2) dm) (by unfold up1; rw [if_neg (by omega), if_neg (by omega), if_pos (by omega)]) (by unfold up1; rw [if_neg (by omega), if_pos rfl]) (by unfold up1; rw [if_pos rfl]) (fun k hk2 => by unfold up1; rw [if_neg (by omega), if_neg (by omega), if_neg (by omega)])
      exact h100 (xs, lo, dm) p7 f3 g3 pl3 _ (hadr _ _ rfl) o7 (by omega) hS3 q1 q2 q3 (by omega)
theorem c77 {D : sm_D} (h : cW C X t T N e D) {f g : Nat → Int32} {σ : Nat → List Int32} {p kd : Nat} {pl : List Int32} (hk : kd = 5 ∨ kd = 6) (hS : SL f g pl σ) (hz : ∀ n, n < 10 → σ (960 + 3 * (10 * (kd - 5) + n)) = []) (hpl : pl.length + (e - p) < 16400) (hp : md_ok T e p) (hp1 : 1 ≤ p)
    (hok : ∀ l, md_adrs T e 10 [] p = .ok l → ∀ f' g' pl' σ' r, SL f' g' pl' σ' → AD kd l σ' → l.length ≤ 10 → (∀ k, ¬ (960 + 30 * (kd - 5) ≤ k ∧ k < 990 + 30 * (kd - 5)) → σ' k = σ k) → md_ok T e r → pl'.length + (e - r) ≤ pl.length + (e - p) → Q (.inl none) (cs X t T e (ts t (sm_dI D (t + 12) (kd - 5) (ni l.length)) f' g') r pl'))
    (her : ∀ x z D', md_adrs T e 10 [] p = .error x → cT X t D x z D' → Q (.inr z) D') :
    sw (sm_fe C 77 [.ref (X + 9), .ref t, .int (ni kd)] (cs X t T e (ts t D f g) p pl)) Q := by
  refine sw_ge (f77 h.1.1 (sm_tree_of h.1.1 h.1.2.1).1) ?_
  exact c77_2 hk 10 D f g σ p pl [] h (cF.refl X t D) (fun _ => rfl) rfl hS (fun n a hn => by cases hn) (fun n _ hn => hz n hn) hpl hp hp1 hok her
end CAF
