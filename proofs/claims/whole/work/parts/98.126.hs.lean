/-! ===== what a read message is: its letters ===== -/
def P7 (T : Nat → Int32) (p e : Nat) : Prop := ∀ k, p ≤ k → k < e → ∃ n, n < 128 ∧ T k = ni n
theorem bind_ok {α β : Type} {x : Except Nat α} {f : α → Except Nat β} {b : β} (h : (x >>= f) = .ok b) : ∃ a, x = .ok a ∧ f a = .ok b := by
  cases x with
  | error e => cases h
  | ok a => exact ⟨a, rfl, h⟩
theorem jp_ok {α β : Type} {c : Prop} [Decidable c] {A B : Except Nat α} {f : α → Except Nat β} {b : β} (h : (if c then A >>= f else B >>= f) = .ok b) : ∃ a, (if c then A else B) = .ok a ∧ f a = .ok b := by
  split at h
  · next hc => rw [if_pos hc]; exact bind_ok h
  · next hc => rw [if_neg hc]; exact bind_ok h
theorem map_ok {α β : Type} {x : Except Nat α} {f : α → β} {b : β} (h : x.map f = .ok b) : ∃ a, x = .ok a ∧ f a = b := by
  cases x with
  | error e => cases h
  | ok a => cases h; exact ⟨a, rfl, rfl⟩
section ZIA
variable {T : Nat → Int32} {e : Nat}
theorem P7.le {p q : Nat} (h : P7 T p e) (hq : p ≤ q) : P7 T q e := fun k h1 h2 => h k (by omega) h2
theorem P7.at {p : Nat} (h : P7 T p e) (hp : p < e) : ∃ n, n < 128 ∧ T p = ni n := h p (Nat.le_refl _) hp
theorem m7.nil : m7 [] := fun x hx => by cases hx
theorem m7.cons {x : Int32} {xs : List Int32} (h : ∃ n, n < 128 ∧ x = ni n) (g : m7 xs) : m7 (x :: xs) := fun y hy => by
  rcases List.mem_cons.mp hy with rfl | hy
  · exact h
  · exact g y hy
theorem m7.app {xs ys : List Int32} (h : m7 xs) (g : m7 ys) : m7 (xs ++ ys) := fun y hy => by
  rcases List.mem_append.mp hy with hy | hy
  · exact h y hy
  · exact g y hy
theorem md_sm_7 : ∀ n, n < 128 → ∃ k, k < 128 ∧ md_sm (ni n) = ni k := by
  intro n hn
  unfold md_sm
  split
  · next h =>
    obtain ⟨q, q1, q2, q3⟩ := (md_in_iff (by omega) (by omega)).mp h
    exact ⟨q + 32, by omega, by rw [q3, ni_add]⟩
  · exact ⟨n, hn, rfl⟩
theorem m7.sm {xs : List Int32} (h : m7 xs) : m7 (xs.map md_sm) := fun y hy => by
  obtain ⟨x, hx, rfl⟩ := List.mem_map.mp hy
  obtain ⟨n, hn, rfl⟩ := h x hx
  exact md_sm_7 n hn
theorem z_space : ∀ (m d p r : Nat), e - p ≤ m → md_space T e d p = .ok r → p ≤ r := by
  intro m
  induction m with
  | zero =>
    intro d p r hm h
    rw [md_space, dif_neg (by omega)] at h
    split at h
    · cases h; exact Nat.le_refl _
    · cases h
  | succ m ih =>
    intro d p r hm h
    have n1 := md_nx_le (T := T) (e := e) p
    have n2 := md_nx_le (T := T) (e := e) (md_nx T e p)
    rw [md_space] at h
    split at h
    · next hp =>
      have g1 := md_nx_gt (T := T) hp
      split at h
      · split at h
        · cases h
        · have := ih _ _ _ (by omega) h; omega
      · split at h
        · split at h
          · have := ih _ _ _ (by omega) h; omega
          · cases h; exact Nat.le_refl _
        · split at h
          · have := ih _ _ _ (by omega) h; omega
          · split at h
            · split at h
              · next h2 =>
                have g2 := md_nx_gt (T := T) h2
                have := ih _ _ _ (by omega) h; omega
              · cases h
            · have := ih _ _ _ (by omega) h; omega
    · split at h
      · cases h; exact Nat.le_refl _
      · cases h
theorem z_sp {p r : Nat} (h : md_space T e 0 p = .ok r) : p ≤ r := z_space e 0 p r (by omega) h
theorem z_word {f : Int32 → Bool} : ∀ (m n p r : Nat) (xs : List Int32), e - p ≤ m → P7 T p e → md_word T e f n p = .ok (xs, r) → p ≤ r ∧ m7 xs := by
  intro m
  induction m with
  | zero =>
    intro n p r xs hm hP h
    rw [md_word, dif_neg (by omega)] at h
    split at h
    · cases h
    · cases h; exact ⟨Nat.le_refl _, m7.nil⟩
  | succ m ih =>
    intro n p r xs hm hP h
    have n1 := md_nx_le (T := T) (e := e) p
    rw [md_word] at h
    split at h
    · next hp =>
      have g1 := md_nx_gt (T := T) hp.1
      split at h
      · cases h
      · cases h1 : md_word T e f (n + 1) (md_nx T e p) with
        | error x => rw [h1] at h; cases h
        | ok w =>
          obtain ⟨ys, q⟩ := w
          rw [h1] at h
          cases h
          obtain ⟨a1, a2⟩ := ih (n + 1) _ _ _ (by omega) (hP.le n1) h1
          exact ⟨by omega, m7.cons (hP.at hp.1) a2⟩
    · split at h
      · cases h
      · cases h; exact ⟨Nat.le_refl _, m7.nil⟩
theorem z_wd {f : Int32 → Bool} {n p r : Nat} {xs : List Int32} (hP : P7 T p e) (h : md_word T e f n p = .ok (xs, r)) : p ≤ r ∧ m7 xs := z_word e n p r xs (by omega) hP h
theorem z_quo {lim : Nat} : ∀ (m n p r : Nat) (xs : List Int32), e - p ≤ m → P7 T p e → md_quo T e lim n p = .ok (xs, r) → p ≤ r ∧ m7 xs := by
  intro m
  induction m with
  | zero =>
    intro n p r xs hm hP h
    rw [md_quo, dif_neg (by omega)] at h
    cases h
  | succ m ih =>
    intro n p r xs hm hP h
    have n1 := md_nx_le (T := T) (e := e) p
    have n2 := md_nx_le (T := T) (e := e) (md_nx T e p)
    rw [md_quo] at h
    split at h
    · next hp =>
      have g1 := md_nx_gt (T := T) hp
      split at h
      · cases h; exact ⟨n1, m7.nil⟩
      · split at h
        · cases h
        · split at h
          · split at h
            · next h2 =>
              have g2 := md_nx_gt (T := T) h2
              cases h1 : md_quo T e lim (n + 1) (md_nx T e (md_nx T e p)) with
              | error x => rw [h1] at h; cases h
              | ok w =>
                obtain ⟨ys, q⟩ := w
                rw [h1] at h
                cases h
                obtain ⟨a1, a2⟩ := ih (n + 1) _ _ _ (by omega) (hP.le (by omega)) h1
                exact ⟨by omega, m7.cons ((hP.le n1).at h2) a2⟩
            · cases h
          · cases h1 : md_quo T e lim (n + 1) (md_nx T e p) with
            | error x => rw [h1] at h; cases h
            | ok w =>
              obtain ⟨ys, q⟩ := w
              rw [h1] at h
              cases h
              obtain ⟨a1, a2⟩ := ih (n + 1) _ _ _ (by omega) (hP.le n1) h1
              exact ⟨by omega, m7.cons (hP.at hp) a2⟩
    · cases h
theorem z_qu {lim n p r : Nat} {xs : List Int32} (hP : P7 T p e) (h : md_quo T e lim n p = .ok (xs, r)) : p ≤ r ∧ m7 xs := z_quo e n p r xs (by omega) hP h
theorem z_eat {c : Int32} {p r : Nat} (h : md_eat T e c p = .ok r) : p ≤ r := by
  unfold md_eat at h
  split at h
  · cases h; exact md_nx_le p
  · cases h
theorem z_dots : ∀ (n p r : Nat) (xs : List Int32), P7 T p e → md_dots T e n p = .ok (xs, r) → p ≤ r ∧ m7 xs := by
  intro n
  induction n with
  | zero => intro p r xs hP h; cases h; exact ⟨Nat.le_refl _, m7.nil⟩
  | succ n ih =>
    intro p r xs hP h
    unfold md_dots at h
    split at h
    · have n1 := md_nx_le (T := T) (e := e) p
      obtain ⟨⟨ys, p1⟩, h1, h⟩ := bind_ok h
      dsimp only at h
      obtain ⟨⟨zs, p2⟩, h2, h⟩ := bind_ok h
      cases h
      obtain ⟨a1, a2⟩ := z_wd (hP.le n1) h1
      obtain ⟨b1, b2⟩ := ih _ _ _ (hP.le (by omega)) h2
      exact ⟨by omega, m7.cons ⟨46, by decide, rfl⟩ (a2.app b2)⟩
    · cases h; exact ⟨Nat.le_refl _, m7.nil⟩
theorem z_dotted {p r : Nat} {b : Bool} {xs : List Int32} (hP : P7 T p e) (h : md_dotted T e p = .ok (xs, b, r)) : p ≤ r ∧ m7 xs := by
  unfold md_dotted at h
  obtain ⟨⟨ys, p1⟩, h1, h⟩ := bind_ok h
  dsimp only at h
  obtain ⟨⟨zs, p2⟩, h2, h⟩ := bind_ok h
  cases h
  obtain ⟨a1, a2⟩ := z_wd hP h1
  obtain ⟨b1, b2⟩ := z_dots _ _ _ _ (hP.le a1) h2
  exact ⟨by omega, a2.app b2⟩
theorem z_par1 {ps : List (List Int32 × List Int32)} {p r : Nat} {q : List Int32 × List Int32} (hP : P7 T p e) (h : md_par1 T e ps p = .ok (q, r)) : p ≤ r ∧ m7 q.1 ∧ m7 q.2 := by
  unfold md_par1 at h
  obtain ⟨p1, h1, h⟩ := bind_ok h
  obtain ⟨⟨a, p2⟩, h2, h⟩ := bind_ok h
  dsimp only at h
  split at h
  · cases h
  · obtain ⟨p3, h3, h⟩ := bind_ok h
    obtain ⟨p4, h4, h⟩ := bind_ok h
    obtain ⟨p5, h5, h⟩ := bind_ok h
    obtain ⟨⟨v, p6⟩, h6, h⟩ := jp_ok h
    cases h
    have a1 := z_sp h1
    obtain ⟨a2, a3⟩ := z_wd (hP.le a1) h2
    have a4 := z_sp h3
    have a5 := z_eat h4
    have a6 := z_sp h5
    have n1 := md_nx_le (T := T) (e := e) p5
    split at h6
    · obtain ⟨b1, b2⟩ := z_qu (hP.le (by omega)) h6
      exact ⟨by omega, a3.sm, b2⟩
    · obtain ⟨b1, b2⟩ := z_wd (hP.le (by omega)) h6
      exact ⟨by omega, a3.sm, b2⟩
theorem z_pars : ∀ (n p r : Nat) (ps qs : List (List Int32 × List Int32)), P7 T p e → (∀ w ∈ ps, m7 w.1 ∧ m7 w.2) → md_pars T e n ps p = .ok (qs, r) → p ≤ r ∧ ∀ w ∈ qs, m7 w.1 ∧ m7 w.2 := by
  intro n
  induction n with
  | zero => intro p r ps qs hP hps h; cases h; exact ⟨Nat.le_refl _, hps⟩
  | succ n ih =>
    intro p r ps qs hP hps h
    unfold md_pars at h
    split at h
    · have n1 := md_nx_le (T := T) (e := e) p
      obtain ⟨⟨q, p6⟩, h1, h⟩ := bind_ok h
      dsimp only at h
      obtain ⟨p7, h2, h⟩ := bind_ok h
      obtain ⟨a1, a2, a3⟩ := z_par1 (hP.le n1) h1
      have a4 := z_sp h2
      obtain ⟨b1, b2⟩ := ih _ _ _ _ (hP.le (by omega)) (fun w hw => by
        rcases List.mem_append.mp hw with hw | hw
        · exact hps w hw
        · rw [List.mem_singleton.mp hw]; exact ⟨a2, a3⟩) h
      exact ⟨by omega, b2⟩
    · cases h; exact ⟨Nat.le_refl _, hps⟩
theorem z_type {dep p : Nat} {τ : md_Ty} (hP : P7 T p e) (h : md_type T e dep p = .ok τ) : m7 τ.1 ∧ m7 τ.2.1 ∧ ∀ w ∈ τ.2.2, m7 w.1 ∧ m7 w.2 := by
  unfold md_type at h
  obtain ⟨p1, h1, h⟩ := bind_ok h
  obtain ⟨⟨a, p2⟩, h2, h⟩ := bind_ok h
  dsimp only at h
  obtain ⟨p3, h3, h⟩ := bind_ok h
  obtain ⟨p4, h4, h⟩ := bind_ok h
  obtain ⟨p5, h5, h⟩ := bind_ok h
  obtain ⟨⟨b, p6⟩, h6, h⟩ := bind_ok h
  dsimp only at h
  obtain ⟨p7, h7, h⟩ := bind_ok h
  obtain ⟨⟨ps, p8⟩, h8, h⟩ := bind_ok h
  dsimp only at h
  obtain ⟨_, h9, h⟩ := bind_ok h
  split at h
  · cases h
  · cases h
    have a1 := z_sp h1
    obtain ⟨a2, a3⟩ := z_wd (hP.le a1) h2
    have a4 := z_sp h3
    have a5 := z_eat h4
    have a6 := z_sp h5
    obtain ⟨b1, b2⟩ := z_wd (hP.le (by omega)) h6
    have a7 := z_sp h7
    obtain ⟨c1, c2⟩ := z_pars 6 _ _ _ _ (hP.le (by omega)) (fun w hw => by cases hw) h8
    exact ⟨a3.sm, b2.sm, c2⟩
theorem z_dm {p r : Nat} {xs : List Int32} (hP : P7 T p e) (h : md_dm T e p = .ok (xs, r)) : p ≤ r ∧ m7 xs := by
  unfold md_dm at h
  obtain ⟨p2, h1, h⟩ := bind_ok h
  obtain ⟨⟨ys, b, p3⟩, h2, h⟩ := bind_ok h
  dsimp only at h
  obtain ⟨p4, h3, h⟩ := bind_ok h
  cases h
  have a1 := z_sp h1
  obtain ⟨a2, a3⟩ := z_dotted (hP.le a1) h2
  have a4 := z_sp h3
  exact ⟨by omega, a3.sm⟩
theorem z_loc {p r : Nat} {xs : List Int32} (hP : P7 T p e) (h : md_loc T e p = .ok (xs, r)) : p ≤ r ∧ m7 xs := by
  unfold md_loc at h
  obtain ⟨p1, h1, h⟩ := bind_ok h
  dsimp only at h
  obtain ⟨⟨lo, p2⟩, h2, h⟩ := jp_ok h
  dsimp only at h
  unfold md_sp1 at h
  obtain ⟨p3, h3, h⟩ := bind_ok h
  cases h
  have a1 := z_sp h1
  have n1 := md_nx_le (T := T) (e := e) p1
  have a3 := z_sp h3
  split at h2
  · obtain ⟨b1, b2⟩ := z_qu (hP.le (by omega)) h2
    exact ⟨by omega, b2⟩
  · obtain ⟨⟨ys, bb, p9⟩, h4, h5⟩ := map_ok h2
    cases h5
    obtain ⟨b1, b2⟩ := z_dotted (hP.le a1) h4
    dsimp only at a3
    exact ⟨by omega, b2⟩
theorem z_wds : ∀ (n p r : Nat) (xs : List Int32), P7 T p e → md_wds T e n p = .ok (xs, r) → p ≤ r ∧ m7 xs := by
  intro n
  induction n with
  | zero => intro p r xs hP h; cases h
  | succ n ih =>
    intro p r xs hP h
    unfold md_wds at h
    split at h
    · cases h; exact ⟨Nat.le_refl _, m7.nil⟩
    · dsimp only at h
      obtain ⟨⟨ys, p1⟩, h1, h⟩ := jp_ok h
      dsimp only at h
      obtain ⟨p2, h2, h⟩ := bind_ok h
      obtain ⟨⟨zs, p3⟩, h3, h⟩ := bind_ok h
      cases h
      have n1 := md_nx_le (T := T) (e := e) p
      have a1 : p ≤ p1 ∧ m7 ys := by
        split at h1
        · obtain ⟨b1, b2⟩ := z_qu (hP.le n1) h1
          exact ⟨by omega, b2⟩
        · exact z_wd hP h1
      have a2 := z_sp h2
      obtain ⟨b1, b2⟩ := ih _ _ _ (hP.le (by omega)) h3
      exact ⟨by omega, m7.cons ⟨32, by decide, rfl⟩ (a1.2.app b2)⟩
theorem z_beg {p r : Nat} {b : Bool} {xs : List Int32} (hP : P7 T p e) (h : md_beg T e p = .ok ((b, xs), r)) : p ≤ r ∧ m7 xs := by
  unfold md_beg at h
  split at h
  · cases h; exact ⟨Nat.le_refl _, m7.nil⟩
  · dsimp only at h
    obtain ⟨⟨ys, dt, p1⟩, h1, h⟩ := jp_ok h
    dsimp only at h
    obtain ⟨p2, h2, h⟩ := bind_ok h
    have n1 := md_nx_le (T := T) (e := e) p
    have a1 : p ≤ p1 ∧ m7 ys := by
      split at h1
      · obtain ⟨⟨zs, p9⟩, h4, h5⟩ := map_ok h1
        cases h5
        obtain ⟨b1, b2⟩ := z_qu (hP.le n1) h4
        exact ⟨by omega, b2⟩
      · exact z_dotted hP h1
    have a2 := z_sp h2
    split at h
    · cases h; exact ⟨by omega, a1.2⟩
    · obtain ⟨⟨zs, p3⟩, h3, h⟩ := bind_ok h
      cases h
      obtain ⟨b1, b2⟩ := z_wds _ _ _ _ (hP.le (by omega)) h3
      exact ⟨by omega, a1.2.app b2⟩
theorem z_adr {p r : Nat} {a : List Int32 × List Int32 × List Int32} (hP : P7 T p e) (h : md_adr T e p = .ok (a, r)) : p ≤ r ∧ m7 a.1 ∧ m7 a.2.1 ∧ m7 a.2.2 := by
  unfold md_adr at h
  obtain ⟨⟨⟨b, xs⟩, p1⟩, h1, h⟩ := bind_ok h
  dsimp only at h
  obtain ⟨a1, a2⟩ := z_beg hP h1
  have n1 := md_nx_le (T := T) (e := e) p1
  split at h
  · obtain ⟨⟨lo, p3⟩, h2, h⟩ := bind_ok h
    dsimp only at h
    obtain ⟨p4, h3, h⟩ := bind_ok h
    obtain ⟨⟨dm, p5⟩, h4, h⟩ := bind_ok h
    dsimp only at h
    obtain ⟨p6, h5, h⟩ := bind_ok h
    obtain ⟨p7, h6, h⟩ := bind_ok h
    cases h
    obtain ⟨b1, b2⟩ := z_loc (hP.le (by omega)) h2
    have b3 := z_eat h3
    obtain ⟨b4, b5⟩ := z_dm (hP.le (by omega)) h4
    have b6 := z_eat h5
    have b7 := z_sp h6
    exact ⟨by omega, a2, b2, b5⟩
  · obtain ⟨p4, h3, h⟩ := bind_ok h
    obtain ⟨⟨dm, p5⟩, h4, h⟩ := bind_ok h
    cases h
    have b3 := z_eat h3
    obtain ⟨b4, b5⟩ := z_dm (hP.le (by omega)) h4
    exact ⟨by omega, m7.nil, a2, b5⟩
theorem z_adrs : ∀ (n p : Nat) (l l' : List (List Int32 × List Int32 × List Int32)), P7 T p e → (∀ a ∈ l, m7 a.1 ∧ m7 a.2.1 ∧ m7 a.2.2) → md_adrs T e n l p = .ok l' → ∀ a ∈ l', m7 a.1 ∧ m7 a.2.1 ∧ m7 a.2.2 := by
  intro n
  induction n with
  | zero =>
    intro p l l' hP hl h
    unfold md_adrs at h
    obtain ⟨p1, h1, h⟩ := bind_ok h
    cases h
  | succ n ih =>
    intro p l l' hP hl h
    unfold md_adrs at h
    obtain ⟨p1, h1, h⟩ := bind_ok h
    obtain ⟨⟨a, p2⟩, h2, h⟩ := bind_ok h
    dsimp only at h
    have a1 := z_sp h1
    obtain ⟨a2, a3⟩ := z_adr (hP.le a1) h2
    have hl2 : ∀ w ∈ l ++ [a], m7 w.1 ∧ m7 w.2.1 ∧ m7 w.2.2 := fun w hw => by
      rcases List.mem_append.mp hw with hw | hw
      · exact hl w hw
      · rw [List.mem_singleton.mp hw]; exact a3
    split at h
    · obtain ⟨p3, h3, h⟩ := bind_ok h
      have a4 := z_eat h3
      exact ih _ _ _ (hP.le (by omega)) hl2 h
    · cases h; exact hl2
end ZIA
