/-! ===== what is written: bytes ===== -/
section ZIF
variable {T : Nat → Int32} {N : Nat}
theorem mB_all {l : List Int32} (h : l.all (fun x => md_in x 0 255) = true) : mB l := fun x hx => by
  obtain ⟨n, -, n2, n3⟩ := (md_in_iff (by omega) (by omega)).mp (List.all_eq_true.mp h x hx)
  exact ⟨n, by omega, n3⟩
theorem mB.app {a b : List Int32} (h : mB a) (g : mB b) : mB (a ++ b) := fun x hx => by
  rcases List.mem_append.mp hx with hx | hx
  · exact h x hx
  · exact g x hx
theorem mB_nil : mB [] := fun x hx => by cases hx
theorem mB_one {x : Int32} (h : ∃ n, n < 256 ∧ x = ni n) : mB [x] := fun y hy => by rw [List.mem_singleton.mp hy]; exact h
theorem m7.B {a : List Int32} (h : m7 a) : mB a := fun x hx => by obtain ⟨n, hn, e⟩ := h x hx; exact ⟨n, by omega, e⟩
theorem mB_cr : mB md_cr := mB_all (by decide)
theorem mB_nu : ∀ p, p < 100 → (md_nu (ni p)).all (fun x => md_in x 0 255) = true := by decide
theorem mB_pn {p : Nat} (hp : p < 100) : mB (md_pn (ni p)) := (mB_all (l := md_w "part") (by decide)).app (mB_all (mB_nu p hp))
theorem mB_dl {p : Nat} (hp : p < 100) : mB (md_dl (ni p)) := (mB_all (l := md_w "--") (by decide)).app (mB_pn hp)
theorem mB_sl {P : Nat → Int32} {a b : Nat} (h : ∀ k, a ≤ k → k < b → ∃ n, n < 256 ∧ P k = ni n) : mB (md_sl P a b) := fun x hx => by
  unfold md_sl at hx
  obtain ⟨k, hk, rfl⟩ := List.mem_map.mp hx
  have := List.mem_range.mp hk
  exact h _ (by omega) (by omega)
theorem mB.nth {l : List Int32} (h : mB l) {k : Nat} (hk : k < l.length) : ∃ n, n < 256 ∧ md_nth l k = ni n := by
  rw [md_nth_get hk]; exact h _ (List.getElem_mem _)
theorem mB_fo {l : List Int32} (h : mB l) {n s : Nat} (hn : n ≤ l.length) : ∀ (m w k : Nat), mB (md_fo (md_nth l) n s m w k) := by
  intro m
  induction m with
  | zero => intro w k; exact mB_nil
  | succ m ih =>
    intro w k
    unfold md_fo
    by_cases hk : k < n
    · rw [if_pos hk]
      have hwd := md_wd_gt (P := md_nth l) hk
      have hs : mB (md_sl (md_nth l) k (md_run (md_nth l) false n (md_run (md_nth l) true n k))) := mB_sl (fun q q1 q2 => h.nth (by omega))
      split
      · exact mB_cr.app (hs.app (ih _ _))
      · exact hs.app (ih _ _)
    · rw [if_neg hk]; exact mB_nil
theorem mB_fold {l : List Int32} (h : mB l) {w : Nat} : mB (md_fold l w) := mB_fo h (md_rt_le _) _ _ _
theorem mB_wf (hT : ∀ i, i < N → ∃ n, n < 256 ∧ T i = ni n) {h : md_F} (hz : FZ T N h) (hn : h.2.1 < h.2.2.1) : mB (md_wf T h) := by
  obtain ⟨z1, z2, z3, z4, z5⟩ := hz
  unfold md_wf
  split
  · exact mB_nil
  · have hc : m7 (md_vl T h) := z_chs h.2.2.2 _ (by omega) (fun k k1 k2 => z4 k (by have := md_go_ge (T := T) (e := h.2.2.2) (q := h.2.2.1 + 1); omega) k2)
    exact (mB_sl (fun k _ k2 => hT k (by omega))).app ((mB_all (by decide)).app ((mB_fold hc.B).app mB_cr))
theorem mB_wfs (hT : ∀ i, i < N → ∃ n, n < 256 ∧ T i = ni n) : ∀ (fs : List md_F), (∀ h ∈ fs, FZ T N h ∧ h.2.1 < h.2.2.1) → mB (md_wfs T fs) := by
  intro fs
  induction fs with
  | nil => intro _; exact mB_nil
  | cons h fs ih =>
    intro hP
    rw [md_wfs]
    exact (mB_wf hT (hP h List.mem_cons_self).1 (hP h List.mem_cons_self).2).app (ih (fun g hg => hP g (List.mem_cons_of_mem _ hg)))
theorem mB_es : ∀ (l : List Int32), mB l → mB (md_es l) := by
  intro l
  induction l with
  | nil => intro _; exact mB_nil
  | cons c l ih =>
    intro h
    rw [md_es]
    have hc := mB_one (h c List.mem_cons_self)
    have hl := ih (fun x hx => h x (List.mem_cons_of_mem _ hx))
    split
    · exact (show mB ([ni 92] ++ [c]) from (mB_all (by decide)).app hc).app hl
    · exact hc.app hl
theorem mB_wp {i : Nat} (hi : i < 100) {bx : Option Nat} : ∀ (ps : List (List Int32 × List Int32)) (n : Nat), (∀ w ∈ ps, m7 w.1 ∧ m7 w.2) → mB (md_wp i bx n ps) := by
  intro ps
  induction ps with
  | nil => intro n _; exact mB_nil
  | cons q ps ih =>
    intro n h
    rw [md_wp]
    obtain ⟨h1, h2⟩ := h q List.mem_cons_self
    refine (mB_all (by decide)).app (h1.B.app ((mB_all (by decide)).app (mB.app ?_ ((mB_all (by decide)).app (ih _ (fun w hw => h w (List.mem_cons_of_mem _ hw)))))))
    split
    · exact mB_pn hi
    · exact mB_es _ h2.B
theorem mB_wt {i : Nat} (hi : i < 100) {u : md_E} (h : m7 u.2.2.1.1 ∧ m7 u.2.2.1.2.1 ∧ ∀ w ∈ u.2.2.1.2.2, m7 w.1 ∧ m7 w.2) : mB (md_wt i u) := by
  unfold md_wt
  exact (mB_all (by decide)).app (h.1.B.app ((mB_all (by decide)).app (h.2.1.B.app ((mB_wp hi _ _ h.2.2).app mB_cr))))
theorem mB_sg_k : ∀ k, k < 64 → md_in (md_nth (md_w "ABCDEFGHIJKLMNOPQRSTUVWXYZabcdefghijklmnopqrstuvwxyz0123456789+/") k) 0 255 = true := by decide +kernel
theorem mB_sg (v : Int32) : ∃ n, n < 256 ∧ md_sg v = ni n := by
  obtain ⟨k, hk, e⟩ := and63 v
  have := mB_sg_k k hk
  obtain ⟨n, -, n2, n3⟩ := (md_in_iff (by omega) (by omega)).mp this
  refine ⟨n, by omega, ?_⟩
  unfold md_sg
  rw [e, ni_nat (by omega)]
  exact n3
theorem mB_f4 {n : Nat} {v : Int32} : mB (md_f4 n v) := by
  unfold md_f4
  intro x hx
  simp only [List.mem_cons, List.not_mem_nil, or_false] at hx
  rcases hx with rfl | rfl | rfl | rfl
  · exact mB_sg _
  · exact mB_sg _
  · split
    · exact ⟨61, by decide, rfl⟩
    · exact mB_sg _
  · split
    · exact ⟨61, by decide, rfl⟩
    · exact mB_sg _
theorem mB_co {l : List Int32} : ∀ (f w k : Nat), mB (md_co l f w k) := by
  intro f
  induction f with
  | zero => intro w k; exact mB_nil
  | succ f ih =>
    intro w k
    unfold md_co
    split
    · refine mB.app ?_ (mB_f4.app (ih _ _))
      split
      · exact mB_cr
      · exact mB_nil
    · exact mB_nil
theorem mB_cl {es : List md_E} {go : Int32} (hes : es.length ≤ 40) : ∀ (d j n : Nat), DPc es d j → j < 40 → mB (md_cl es go n (ni j)) := by
  intro d
  induction d with
  | zero =>
    intro j n h hj
    have h0 : j = 0 := h
    subst h0
    cases n with
    | zero => exact mB_nil
    | succ n => rw [md_cl_s, if_pos (by decide)]; exact mB_nil
  | succ d ih =>
    intro j n h hj
    obtain ⟨u, p, h1, h2, h3, h4⟩ := h
    have hjl : j < es.length := by
      rcases Nat.lt_or_ge j es.length with z | z
      · exact z
      · rw [List.getElem?_eq_none z] at h1; cases h1
    cases n with
    | zero => exact mB_nil
    | succ n =>
      have ep : md_par es (ni j) = ni p := by
        rw [md_par_lt hjl (by omega)]
        rw [List.getElem?_eq_getElem hjl] at h1
        cases h1
        exact h2
      rw [md_cl_s, ep]
      split
      · exact mB_nil
      · refine mB_cr.app ?_
        split
        · exact mB_nil
        · exact (mB_dl (by omega)).app ((mB_all (by decide)).app (ih p n h4 (by omega)))
theorem FI.by {m : md_M} (hT : ∀ i, i < N → ∃ n, n < 256 ∧ T i = ni n) (hF : ∀ u ∈ m.1, ∀ h ∈ u.2.1, FZ T N h ∧ h.2.1 < h.2.2.1) (h : FI T N m) : mB (md_write T m) := by
  obtain ⟨⟨h1, h2, h3, h4, h5, h6⟩, -, -, -, -, h40⟩ := h
  have key : ∀ (r : List md_E) (i : Nat), i + r.length = m.1.length → (∀ j u, r[j]? = some u → m.1[i + j]? = some u) → mB (md_wr T m.1 i r) := by
    intro r
    induction r with
    | nil => intro i _ _; exact mB_nil
    | cons u r ih =>
      intro i hi hr
      rw [List.length_cons] at hi
      rw [md_wr]
      have hu : m.1[i]? = some u := hr 0 u rfl
      refine mB.app ?_ (ih (i + 1) (by omega) (fun j w hw => by rw [show i + 1 + j = i + (j + 1) from by omega]; exact hr (j + 1) w hw))
      obtain ⟨d, -, hdc⟩ := h6 i (by omega)
      unfold md_we
      refine mB.app ?_ ((mB_wfs hT _ (hF u (List.mem_of_getElem? hu))).app ((mB_wt (by omega) (h1.1 u (List.mem_of_getElem? hu))).app ?_))
      · split
        · exact mB_nil
        · next hi0 =>
          obtain ⟨p, hp, e⟩ := (h3 i u hu).2 (by omega)
          rw [e]
          exact (mB_dl (by omega)).app mB_cr
      · split
        · exact mB_cr
        · exact (mB_all (by decide)).app ((mB_co _ _ _).app (mB_cl h40 d i 40 hdc (by omega)))
  exact key m.1 0 (by omega) (fun j u hj => by rw [Nat.zero_add]; exact hj)
end ZIF
