/-! ===== a message ===== -/
section CMG
variable {C : sm_K} {X t N : Nat} {T T0 : Nat → Int32} {Q : (Option Value ⊕ Nat) → sm_D → Prop}
theorem md_fs_ok {i b tot : Nat} (hL : LN T N) (hb : b ≤ N) {fs fs' : List md_F} {q body : Nat} (h : md_fs T i b tot fs q = .ok (fs', body)) : q + 2 ≤ body ∧ body ≤ b + 1 ∧ T (body - 2) = ni 13 ∧ md_W fs' + q ≤ md_W fs + body ∧ (KD fs → KD fs') ∧ (0 < i → (∀ h ∈ fs, h.1 ≤ 2) → ∀ h ∈ fs', h.1 ≤ 2) := by
  rw [md_fs] at h
  split at h
  · next g =>
    split at h
    · next g13 =>
      cases h
      exact ⟨Nat.le_refl _, by omega, g13, by omega, id, fun _ z => z⟩
    · split at h
      · cases h
      · next hlt =>
        cases h1 : md_nm T b q q with
        | error x => rw [h1] at h; cases h
        | ok c =>
          rw [h1] at h
          dsimp only at h
          split at h
          · cases h
          · next hk =>
            cases h2 : md_tx T b (c + 1) with
            | error x => rw [h2] at h; cases h
            | ok z =>
              rw [h2] at h
              dsimp only at h
              obtain ⟨c1, c2, c3, c4, c5⟩ := (md_nm_ok (Nat.le_refl _) h1).resolve_right (by omega)
              obtain ⟨z1, z2, z3, z4⟩ := md_tx_ok hL hb h2
              obtain ⟨i1, i2, i3, i4, i5, i6⟩ := md_fs_ok hL hb h
              have hWs : md_W (fs ++ [(md_kd T i q (c - q), q, c, z)]) = md_W fs + (z - c) := by
                unfold md_W; rw [List.map_append, List.sum_append]; simp
              refine ⟨by omega, i2, i3, by rw [hWs] at i4; omega, fun hKD => i5 ?_, fun hi hall => i6 hi ?_⟩
              · unfold KD at hKD ⊢
                rw [List.pairwise_append]
                refine ⟨hKD, List.pairwise_singleton _ _, fun a ha b hb hab => ?_⟩
                rw [List.mem_singleton] at hb
                subst hb
                dsimp only at hab
                rcases Nat.eq_zero_or_pos (md_kd T i q (c - q)) with z0 | z0
                · omega
                · exfalso
                  refine hk ⟨z0, ?_⟩
                  rw [List.any_eq_true]
                  exact ⟨a, ha, beq_iff_eq.mpr hab⟩
              · intro a ha
                rcases List.mem_append.mp ha with w | w
                · exact hall a w
                · rw [List.mem_singleton] at w
                  subst w
                  show md_kd T i q (c - q) ≤ 2
                  unfold md_kd
                  rw [if_pos hi]
                  split
                  · omega
                  · split <;> omega
  · cases h
termination_by 20 - fs.length
decreasing_by rw [List.length_append, List.length_singleton]; omega
theorem md_eol_cr {b q : Nat} (h : md_eol T b q < b) : T (md_eol T b q) = ni 13 := by
  rw [md_eol] at h ⊢
  split
  · next g => rw [if_pos g] at h; exact md_eol_cr h
  · next g =>
    rw [if_neg g] at h
    by_cases hc : T q = ni 13
    · exact hc
    · exact absurd ⟨h, hc⟩ g
termination_by b - q
theorem md_del_line {v : List Int32} {b q : Nat} {d : md_D} (h : md_del T v b q = some d) : d.1 = q ∨ (q + 2 ≤ d.1 ∧ T (d.1 - 2) = ni 13) := by
  rw [md_del] at h
  split at h
  · next g =>
    have h1 := md_eol_ge T b q
    dsimp only at h
    generalize (if md_dash T (q + 2 + v.length) (md_eol T b q) = true then q + 2 + v.length + 2 else q + 2 + v.length) = w at h
    split at h
    · cases h; exact Or.inl rfl
    · right
      by_cases hlt : md_eol T b q < b
      · rcases md_del_line h with r | r
        · rw [r]
          exact ⟨by omega, by rw [Nat.add_sub_cancel]; exact md_eol_cr hlt⟩
        · exact ⟨by omega, r.2⟩
      · rw [md_del, if_neg (by omega)] at h; cases h
  · cases h
termination_by b - q
decreasing_by omega
theorem c291 {D : sm_D} {a na : Nat} (ha : sm_ar C a na) (hna : na < 2147483648) {v : Int32} : sm_fe C 291 [.ref a, .int v] D = some (.inl none, (fun b j => if b = a ∧ j < na then v else D.1 b j, D.2)) := by
  have loop : ∀ (m k : Nat) (E : sm_D), k + m = na → E = (fun b j => if b = a ∧ j < k then v else D.1 b j, D.2) → sm_fx C 291 5 [.ref a, .int v, .int (ni k), .int (ni na)] [] E = some (.inl none, (fun b j => if b = a ∧ j < na then v else D.1 b j, D.2)) := by
    intro m
    induction m with
    | zero =>
      intro k E hk hE
      apply sw_eq
      refine sw_ge (n291_5 ha) ?_
      simp (disch := omega) only [sw_ite, ni_le, sw_some]
      rw [if_pos (by omega), hE, show k = na from by omega]
    | succ m ih =>
      intro k E hk hE
      apply sw_eq
      refine sw_ge (n291_5 ha) ?_
      simp (disch := omega) only [sw_ite, ni_le, sw_gu, ni_in, ni_nat, ni_add]
      rw [if_neg (by omega)]
      refine ⟨decide_eq_true (by omega), ?_⟩
      rw [ih (k + 1) _ (by omega) ?_, sw_some]
      rw [hE]
      refine Prod.ext ?_ rfl
      funext b j
      simp only [sm_up]
      by_cases hb : b = a
      · by_cases hj : j = k
        · simp [hb, hj]
        · by_cases hl : j < k
          · simp [hb, hj, hl, show j < k + 1 from by omega]
          · simp [hb, hj, hl, show ¬ j < k + 1 from by omega]
      · simp [hb]
  apply sw_eq
  refine sw_ge (f291 ha) ?_
  rw [loop na 0 D (by omega) ?_, sw_some]
  refine Prod.ext ?_ rfl
  funext b j
  simp
/-- one entity in a tree -/
def EN (T : Nat → Int32) (t : Nat) (D : sm_D) (σ : Nat → List Int32) (j tot : Nat) (u : md_E) : Prop := D.1 (t + 5) j = u.1 ∧ (D.1 (t + 6) j = ni tot ∧ D.1 (t + 7) j = ni u.2.1.length ∧ u.2.1.length ≤ 20 ∧ (∀ m h, u.2.1[m]? = some h → D.1 (t + 11) (tot + m) = ni h.1 ∧ h.1 ≤ 6) ∧ NS T tot u.2.1 σ) ∧ (σ (400 + 2 * j) = u.2.2.1.1 ∧ σ (400 + 2 * j + 1) = u.2.2.1.2.1 ∧ PS j u.2.2.1.2.2 σ ∧ u.2.2.1.2.2.length ≤ 6 ∧ D.1 (t + 8) j = ni u.2.2.1.2.2.length ∧ D.1 (t + 10) j = md_b u.2.2.2.2.1) ∧ D.1 (t + 9) j = ni u.2.2.2.1 ∧ σ (1020 + j) = u.2.2.2.2.2
def md_tb (es : List md_E) (j : Nat) : Nat := ((es.take j).map (fun u => u.2.1.length)).sum
/-- a tree holds a message -/
def MG (T : Nat → Int32) (t : Nat) (D : sm_D) (σ : Nat → List Int32) (m : md_M) : Prop := D.1 t 11 = ni m.1.length ∧ D.1 t 12 = ni m.tot ∧ m.1.length ≤ 40 ∧ m.tot ≤ 200 ∧ (∀ j u, m.1[j]? = some u → EN T t D σ j (md_tb m.1 j) u) ∧ σ 1060 = m.2.1 ∧ (D.2.1 t 13 = Int64.ofInt m.2.2.1.1 ∧ D.1 t 14 = Int32.ofInt m.2.2.1.2) ∧ TXa t 5 D σ (m.2.2.2 false) ∧ TXa t 6 D σ (m.2.2.2 true) ∧ ∀ j, m.1.length ≤ j → j < 40 → σ (1020 + j) = []
theorem md_tb_le (es : List md_E) (j : Nat) : md_tb es j ≤ (es.map (fun u => u.2.1.length)).sum := by
  unfold md_tb
  conv => rhs; rw [← List.take_append_drop j es]
  rw [List.map_append, List.sum_append]
  omega
theorem md_tb_get {es : List md_E} {j : Nat} {u : md_E} (h : es[j]? = some u) : md_tb es j + u.2.1.length ≤ (es.map (fun u => u.2.1.length)).sum := by
  have hj : j < es.length := by
    rcases Nat.lt_or_ge j es.length with z | z
    · exact z
    · rw [List.getElem?_eq_none z] at h; cases h
  have e1 : md_tb es (j + 1) = md_tb es j + u.2.1.length := by
    unfold md_tb
    rw [List.take_succ, h, List.map_append, List.sum_append]
    simp
  have := md_tb_le es (j + 1)
  omega
end CMG
