/-! ===== what a read message is: how long it is written ===== -/
section ZIB
variable {T : Nat → Int32} {N e : Nat}
/-- what the texts tell: letters of seven bits, no long subject -/
def PX (x : md_X) : Prop := (∀ τ, x.1 = some τ → m7 τ.1 ∧ m7 τ.2.1 ∧ ∀ w ∈ τ.2.2, m7 w.1 ∧ m7 w.2) ∧ (∀ b, ∀ a ∈ x.2.2.2.2 b, m7 a.1 ∧ m7 a.2.1 ∧ m7 a.2.2) ∧ x.2.2.1.length ≤ 8000
theorem md_go_ge {q : Nat} : q ≤ md_go T e q := by unfold md_go; split <;> omega
theorem md_nx1 {p : Nat} (h : p < e) : p + 1 ≤ md_nx T e p := by unfold md_nx; rw [if_pos h]; exact md_go_ge
theorem z_subj {L : List Int32} (h : ∀ x ∈ L, ∃ n, n < 256 ∧ x = ni n) : (md_subj L).length ≤ L.length := by
  have hr := md_rt_le (P := md_nth L) (a := 0) L.length
  have := md_sub_len (P := md_nth L) (n := md_rt (md_nth L) 0 L.length) (fun j hj => by
    rw [md_nth_get (by omega)]
    exact h _ (List.getElem_mem _)) L.length (md_run (md_nth L) true L.length 0) false
  unfold md_subj
  omega
theorem z_chs : ∀ (m p : Nat), e - p ≤ m → P7 T p e → m7 (md_chs T e p) := by
  intro m
  induction m with
  | zero => intro p hm hP; rw [md_chs_end (by omega)]; exact m7.nil
  | succ m ih =>
    intro p hm hP
    by_cases hp : p < e
    · rw [md_chs_nx hp]
      have g1 := md_nx_gt (T := T) hp
      exact m7.cons (hP.at hp) (ih _ (by omega) (hP.le (md_nx_le p)))
    · rw [md_chs_end hp]; exact m7.nil
theorem z_txt1 {dep : Nat} {f : md_F} {x y : md_X} (hz : FZ T N f) (hN : N ≤ 8000) (hx : PX x) (h : md_txt1 T dep f x = .ok y) : PX y := by
  obtain ⟨z1, z2, z3, z4, z5⟩ := hz
  have hP : P7 T (md_go T f.2.2.2 (f.2.2.1 + 1)) f.2.2.2 := fun k h1 h2 => z4 k (by have := md_go_ge (T := T) (e := f.2.2.2) (q := f.2.2.1 + 1); omega) h2
  obtain ⟨x1, x2, x3⟩ := hx
  unfold md_txt1 at h
  split at h
  · obtain ⟨t, h1, h⟩ := bind_ok h
    cases h
    exact ⟨fun τ hτ => by cases hτ; exact z_type hP h1, x2, x3⟩
  · split at h
    · obtain ⟨k, h1, h⟩ := bind_ok h
      cases h
      exact ⟨x1, x2, x3⟩
    · split at h
      · cases h
        refine ⟨x1, x2, ?_⟩
        have hc := z_chs f.2.2.2 _ (by omega) hP
        have := z_subj (fun x hx => by obtain ⟨n, hn, e⟩ := hc x hx; exact ⟨n, by omega, e⟩)
        have hl := md_chs_len (T := T) (z := f.2.2.2) (q := md_go T f.2.2.2 (f.2.2.1 + 1))
        dsimp only
        omega
      · split at h
        · obtain ⟨s, h1, h⟩ := bind_ok h
          cases h
          exact ⟨x1, x2, x3⟩
        · split at h
          · obtain ⟨l, h1, h⟩ := bind_ok h
            cases h
            have hl := z_adrs 10 _ _ _ hP (fun a ha => by cases ha) h1
            refine ⟨x1, fun b a ha => ?_, x3⟩
            dsimp only at ha
            split at ha
            · exact hl a ha
            · exact x2 b a ha
          · cases h; exact ⟨x1, x2, x3⟩
theorem z_txts {dep : Nat} (hN : N ≤ 8000) : ∀ (fs : List md_F) {x y : md_X}, (∀ f ∈ fs, FZ T N f) → PX x → md_txts T dep fs x = .ok y → PX y := by
  intro fs
  induction fs with
  | nil => intro x y _ hx h; cases h; exact hx
  | cons f fs ih =>
    intro x y hz hx h
    unfold md_txts at h
    obtain ⟨w, h1, h⟩ := bind_ok h
    exact ih (fun g hg => hz g (List.mem_cons_of_mem _ hg)) (z_txt1 (hz f List.mem_cons_self) hN hx h1) h
theorem md_es_1 {c : Int32} {l : List Int32} (h : ¬ (c = ni 34 ∨ c = ni 92)) : (md_es (c :: l)).length = 1 + (md_es l).length := by
  rw [md_es, if_neg h, List.length_append]; rfl
theorem md_es_2 {c : Int32} {l : List Int32} : (md_es (c :: l)).length ≤ 2 + (md_es l).length := by
  rw [md_es, List.length_append]
  split
  · exact Nat.le_refl _
  · show 1 + _ ≤ _; omega
/-- a quoted text with its escapes is no longer than it came -/
theorem z_quo_es {lim : Nat} : ∀ (m n p r : Nat) (xs : List Int32), e - p ≤ m → md_quo T e lim n p = .ok (xs, r) → p + (md_es xs).length < r := by
  intro m
  induction m with
  | zero =>
    intro n p r xs hm h
    rw [md_quo, dif_neg (by omega)] at h
    cases h
  | succ m ih =>
    intro n p r xs hm h
    rw [md_quo] at h
    split at h
    · next hp =>
      have g1 := md_nx_gt (T := T) hp
      have n1 : p + 1 ≤ md_nx T e p := by unfold md_nx; rw [if_pos hp]; exact md_go_ge
      split at h
      · cases h
        show p + 0 < _
        omega
      · next h34 =>
        split at h
        · cases h
        · split at h
          · split at h
            · next h2 =>
              have g2 := md_nx_gt (T := T) h2
              have n2 : md_nx T e p + 1 ≤ md_nx T e (md_nx T e p) := md_nx1 h2
              cases h1 : md_quo T e lim (n + 1) (md_nx T e (md_nx T e p)) with
              | error x => rw [h1] at h; cases h
              | ok w =>
                obtain ⟨ys, q⟩ := w
                rw [h1] at h
                cases h
                have := ih (n + 1) _ _ _ (by omega) h1
                have := md_es_2 (c := T (md_nx T e p)) (l := ys)
                omega
            · cases h
          · next h92 =>
            cases h1 : md_quo T e lim (n + 1) (md_nx T e p) with
            | error x => rw [h1] at h; cases h
            | ok w =>
              obtain ⟨ys, q⟩ := w
              rw [h1] at h
              cases h
              have := ih (n + 1) _ _ _ (by omega) h1
              rw [md_es_1 (fun z => z.elim h34 h92)]
              omega
    · cases h
theorem z_word_es : ∀ (m n p r : Nat) (xs : List Int32), e - p ≤ m → md_word T e md_tok n p = .ok (xs, r) → p + (md_es xs).length ≤ r ∧ p + xs.length ≤ r := by
  intro m
  induction m with
  | zero =>
    intro n p r xs hm h
    rw [md_word, dif_neg (by omega)] at h
    split at h
    · cases h
    · cases h; exact ⟨Nat.le_refl _, Nat.le_refl _⟩
  | succ m ih =>
    intro n p r xs hm h
    rw [md_word] at h
    split at h
    · next hp =>
      have g1 := md_nx_gt (T := T) hp.1
      have n1 : p + 1 ≤ md_nx T e p := by unfold md_nx; rw [if_pos hp.1]; exact md_go_ge
      split at h
      · cases h
      · cases h1 : md_word T e md_tok (n + 1) (md_nx T e p) with
        | error x => rw [h1] at h; cases h
        | ok w =>
          obtain ⟨ys, q⟩ := w
          rw [h1] at h
          cases h
          obtain ⟨a1, a2⟩ := ih (n + 1) _ _ _ (by omega) h1
          rw [md_es_1 (fun z => by
            rcases z with z | z
            · rw [z] at hp; exact absurd hp.2 (by decide)
            · rw [z] at hp; exact absurd hp.2 (by decide)), List.length_cons]
          exact ⟨by omega, by omega⟩
    · split at h
      · cases h
      · cases h; exact ⟨Nat.le_refl _, Nat.le_refl _⟩
/-- what parameters take -/
def md_pl (ps : List (List Int32 × List Int32)) : Nat := (ps.map (fun w => 2 + w.1.length + (md_es w.2).length)).sum
theorem md_pl_app {ps : List (List Int32 × List Int32)} {q : List Int32 × List Int32} : md_pl (ps ++ [q]) = md_pl ps + (2 + q.1.length + (md_es q.2).length) := by
  unfold md_pl
  rw [List.map_append, List.sum_append]
  simp
theorem z_eat1 {c : Int32} {p r : Nat} (h : md_eat T e c p = .ok r) : p + 1 ≤ r := by
  unfold md_eat at h
  split at h
  · next g =>
    cases h
    unfold md_nx
    rw [if_pos g.1]
    exact md_go_ge
  · cases h
theorem z_pars_l : ∀ (n p r : Nat) (ps qs : List (List Int32 × List Int32)), md_ok T e p → md_pars T e n ps p = .ok (qs, r) → md_ok T e r ∧ p + md_pl qs ≤ r + md_pl ps ∧ qs.length ≤ ps.length + n := by
  intro n
  induction n with
  | zero => intro p r ps qs hok h; cases h; exact ⟨hok, Nat.le_refl _, Nat.le_refl _⟩
  | succ n ih =>
    intro p r ps qs hok h
    unfold md_pars at h
    split at h
    · next hp =>
      have n1 : p + 1 ≤ md_nx T e p := by unfold md_nx; rw [if_pos hp.1]; exact md_go_ge
      obtain ⟨⟨q, p6⟩, h1, h⟩ := bind_ok h
      dsimp only at h
      obtain ⟨p7, h2, hh⟩ := bind_ok h
      clear h
      unfold md_par1 at h1
      obtain ⟨p1, g1, h1⟩ := bind_ok h1
      obtain ⟨⟨a, p2⟩, g2, h1⟩ := bind_ok h1
      dsimp only at h1
      split at h1
      · cases h1
      · obtain ⟨p3, g3, h1⟩ := bind_ok h1
        obtain ⟨p4, g4, h1⟩ := bind_ok h1
        obtain ⟨p5, g5, h1⟩ := bind_ok h1
        obtain ⟨⟨v, p8⟩, g6, h1⟩ := jp_ok h1
        cases h1
        have c1 := md_space_ok hok.nx g1
        have c2 := md_word_ok c1.1 g2
        have c3 := md_space_ok c2.1 g3
        have c4 := z_eat1 g4
        have c4' := md_eat_ok c3.1 g4
        have c5 := md_space_ok c4'.1 g5
        have n5 := md_nx_le (T := T) (e := e) p5
        have c6 : md_ok T e p8 ∧ p5 + (md_es v).length ≤ p8 := by
          split at g6
          · have := z_quo_es e 0 _ _ _ (by omega) g6
            exact ⟨(md_quo_ok c5.1.nx g6).1, by omega⟩
          · exact ⟨(md_word_ok c5.1 g6).1, (z_word_es e 0 _ _ _ (by omega) g6).1⟩
        have a4 := md_space_ok c6.1 h2
        obtain ⟨b0, b1, b2⟩ := ih _ _ _ _ a4.1 hh
        rw [md_pl_app] at b1
        rw [List.length_append, List.length_singleton] at b2
        dsimp only at b1
        rw [List.length_map] at b1
        exact ⟨b0, by omega, by omega⟩
    · cases h; exact ⟨hok, Nat.le_refl _, by omega⟩
theorem z_type_l {dep p : Nat} {τ : md_Ty} (hok : md_ok T e p) (h : md_type T e dep p = .ok τ) : p + 1 + τ.1.length + τ.2.1.length + md_pl τ.2.2 ≤ e ∧ τ.2.2.length ≤ 6 := by
  unfold md_type at h
  obtain ⟨p1, h1, h⟩ := bind_ok h
  obtain ⟨⟨a, p2⟩, h2, h⟩ := bind_ok h
  dsimp only at h
  obtain ⟨p3, h3, h⟩ := bind_ok h
  obtain ⟨p4, h4, h⟩ := bind_ok h
  obtain ⟨p5, h5, h⟩ := bind_ok h
  obtain ⟨⟨b, p6⟩, h6, h⟩ := bind_ok h
  dsimp only at h
  obtain ⟨p7, h7, h⟩ := bind_ok h
  obtain ⟨⟨ps, p8⟩, h8, h⟩ := bind_ok h
  dsimp only at h
  obtain ⟨_, h9, h⟩ := bind_ok h
  have k1 := md_space_ok hok h1
  have k2 := md_word_ok k1.1 h2
  have k3 := md_space_ok k2.1 h3
  have k4 := md_eat_ok k3.1 h4
  have k4' := z_eat1 h4
  have k5 := md_space_ok k4.1 h5
  have k6 := md_word_ok k5.1 h6
  have k7 := md_space_ok k6.1 h7
  have k8 := z_pars_l 6 _ _ _ _ k7.1 h8
  split at h
  · cases h
  · cases h
    dsimp only
    rw [List.length_map, List.length_map]
    have e0 : md_pl [] = 0 := rfl
    rw [e0] at k8
    have k9 := k8.1.1
    have kl := k8.2.2
    rw [List.length_nil] at kl
    exact ⟨by omega, by omega⟩
end ZIB
