section ZIC
variable {T : Nat → Int32} {N : Nat}
theorem z_fo {P : Nat → Int32} {n s : Nat} : ∀ (m w k : Nat), (md_fo P n s m w k).length ≤ (n - k) + 2 * ((2 * (n - k) + w) / 79) := by
  intro m
  induction m with
  | zero => intro w k; exact Nat.zero_le _
  | succ m ih =>
    intro w k
    unfold md_fo
    by_cases hk : k < n
    · rw [if_pos hk]
      have hwd := md_wd_gt (P := P) hk
      generalize md_run P false n (md_run P true n k) = e at hwd ⊢
      have hl : (md_sl P k e).length = e - k := md_sl_len
      split
      · next hc =>
        have := ih (e - k) e
        rw [List.length_append, List.length_append, hl, show md_cr.length = 2 from rfl]
        omega
      · have := ih (w + (e - k)) e
        rw [List.length_append, hl]
        omega
    · rw [if_neg hk]
      exact Nat.zero_le _
theorem z_fold {l : List Int32} {w : Nat} : (md_fold l w).length ≤ l.length + 2 * ((2 * l.length + w) / 79) := by
  unfold md_fold
  have h1 := z_fo (P := md_nth l) (n := md_rt (md_nth l) 0 l.length) (s := md_run (md_nth l) true l.length 0) l.length w (md_run (md_nth l) true l.length 0)
  have h2 := md_rt_le (P := md_nth l) (a := 0) l.length
  have h3 : (2 * (md_rt (md_nth l) 0 l.length - md_run (md_nth l) true l.length 0) + w) / 79 ≤ (2 * l.length + w) / 79 := Nat.div_le_div_right (by omega)
  generalize (2 * (md_rt (md_nth l) 0 l.length - md_run (md_nth l) true l.length 0) + w) / 79 = A at h1 h3
  generalize (2 * l.length + w) / 79 = B at h3 ⊢
  omega
def md_sp1' (h : md_F) : Nat := h.2.2.2 + 2 - h.2.1
def md_sp (fs : List md_F) : Nat := (fs.map md_sp1').sum
theorem z_wf {h : md_F} (hz : FZ T N h) (hn : h.2.1 < h.2.2.1) : 5 * (md_wf T h).length ≤ 7 * md_sp1' h ∧ (h.1 = 1 → md_wf T h = []) := by
  obtain ⟨z1, z2, -⟩ := hz
  unfold md_wf md_sp1'
  refine ⟨?_, fun h1 => by rw [if_pos (Or.inl h1)]⟩
  split
  · exact Nat.zero_le _
  · have h1 : (md_nM T h).length = h.2.2.1 - h.2.1 := md_sl_len
    have h2 := z_fold (l := md_vl T h) (w := (md_nM T h).length + 2)
    have h3 : (md_vl T h).length ≤ h.2.2.2 - (h.2.2.1 + 1) := by
      have := md_chs_len (T := T) (z := h.2.2.2) (q := md_go T h.2.2.2 (h.2.2.1 + 1))
      have g := md_go_ge (T := T) (e := h.2.2.2) (q := h.2.2.1 + 1)
      show (md_chs T h.2.2.2 (md_go T h.2.2.2 (h.2.2.1 + 1))).length ≤ _
      omega
    rw [List.length_append, List.length_append, List.length_append, show (md_w ": ").length = 2 from by decide, show md_cr.length = 2 from rfl]
    generalize (md_fold (md_vl T h) ((md_nM T h).length + 2)).length = F at h2 ⊢
    generalize (md_vl T h).length = V at h2 h3
    rw [h1] at h2 ⊢
    omega
theorem z_wfs : ∀ (fs : List md_F), (∀ h ∈ fs, FZ T N h ∧ h.2.1 < h.2.2.1) → 5 * (md_wfs T fs).length ≤ 7 * md_sp fs ∧ ∀ f ∈ fs, f.1 = 1 → 5 * (md_wfs T fs).length + 7 * md_sp1' f ≤ 7 * md_sp fs := by
  intro fs
  induction fs with
  | nil => intro _; exact ⟨Nat.le_refl _, fun f hf => by cases hf⟩
  | cons h fs ih =>
    intro hP
    obtain ⟨a1, a2⟩ := z_wf (hP h List.mem_cons_self).1 (hP h List.mem_cons_self).2
    obtain ⟨b1, b2⟩ := ih (fun g hg => hP g (List.mem_cons_of_mem _ hg))
    have e1 : md_sp (h :: fs) = md_sp1' h + md_sp fs := by unfold md_sp; rw [List.map_cons, List.sum_cons]
    rw [md_wfs, List.length_append, e1]
    refine ⟨by omega, fun f hf h1 => ?_⟩
    rcases List.mem_cons.mp hf with rfl | hf
    · rw [a2 h1, List.length_nil]
      omega
    · have := b2 f hf h1
      omega
theorem z_fs_sp {i b tot : Nat} (hL : LN T N) (hb : b ≤ N) : ∀ (m : Nat) (fs : List md_F) (p : Nat) {fs' : List md_F} {body : Nat}, 20 - fs.length ≤ m → md_fs T i b tot fs p = .ok (fs', body) → md_sp fs' + p + 2 ≤ md_sp fs + body := by
  intro m
  induction m with
  | zero =>
    intro fs p fs' body hm h
    by_cases hp : p < b
    · by_cases h13 : T p = ni 13
      · rw [md_fs, if_pos hp, if_pos h13] at h; cases h; omega
      · rw [md_fs_step hp h13] at h
        unfold md_f1 at h
        rw [if_pos (Or.inl (by omega))] at h
        cases h
    · rw [md_fs, if_neg hp] at h; cases h
  | succ m ih =>
    intro fs p fs' body hm h
    by_cases hp : p < b
    · by_cases h13 : T p = ni 13
      · rw [md_fs, if_pos hp, if_pos h13] at h; cases h; omega
      · rw [md_fs_step hp h13] at h
        cases h1 : md_f1 T i b tot fs p with
        | error f => rw [h1] at h; cases h
        | ok hd =>
          rw [h1] at h
          dsimp only at h
          have := ih (fs ++ [hd]) _ (by rw [List.length_append, List.length_singleton]; omega) h
          have e1 : md_sp (fs ++ [hd]) = md_sp fs + md_sp1' hd := by unfold md_sp; rw [List.map_append, List.sum_append]; simp
          rw [e1] at this
          have e2 : hd.2.1 = p ∧ p ≤ hd.2.2.2 := by
            unfold md_f1 at h1
            split at h1
            · cases h1
            · cases h2 : md_nm T b p p with
              | error f => rw [h2] at h1; cases h1
              | ok c =>
                rw [h2] at h1
                dsimp only at h1
                split at h1
                · cases h1
                · cases h3 : md_tx T b (c + 1) with
                  | error f => rw [h3] at h1; cases h1
                  | ok z =>
                    rw [h3] at h1
                    cases h1
                    have hn := md_nm_ok (Nat.le_refl p) h2
                    have hx := md_tx_ok hL hb h3
                    exact ⟨rfl, by dsimp only; omega⟩
          unfold md_sp1' at this
          rw [e2.1] at this
          have := e2.2
          omega
    · rw [md_fs, if_neg hp] at h; cases h
theorem z_wp {i : Nat} {bx : Option Nat} : ∀ (ps : List (List Int32 × List Int32)) (n : Nat), (md_wp i bx n ps).length ≤ md_pl ps + 11 * ps.length := by
  intro ps
  induction ps with
  | nil => intro n; exact Nat.zero_le _
  | cons q ps ih =>
    intro n
    have e1 : md_pl (q :: ps) = (2 + q.1.length + (md_es q.2).length) + md_pl ps := by unfold md_pl; rw [List.map_cons, List.sum_cons]
    have h1 := ih (n + 1)
    have h2 : (if bx = some n then md_pn (ni i) else md_es q.2).length ≤ (md_es q.2).length + 6 := by
      split
      · have := md_pn_len (v := ni i); omega
      · omega
    rw [md_wp, List.length_append, List.length_append, List.length_append, List.length_append, List.length_append, List.length_cons, e1, show (md_w ";\r\n ").length = 4 from by decide, show (md_w "=\"").length = 2 from by decide, show (md_w "\"").length = 1 from by decide]
    omega
theorem z_wt {i : Nat} {u : md_E} (h6 : u.2.2.1.2.2.length ≤ 6) : (md_wt i u).length ≤ 83 + u.2.2.1.1.length + u.2.2.1.2.1.length + md_pl u.2.2.1.2.2 := by
  have := z_wp (i := i) (bx := md_bx u) u.2.2.1.2.2 0
  unfold md_wt
  rw [List.length_append, List.length_append, List.length_append, List.length_append, List.length_append, show (md_w "content-type: ").length = 14 from by decide, show (md_w "/").length = 1 from by decide, show md_cr.length = 2 from rfl]
  omega
theorem z_co {l : List Int32} : ∀ (f w k : Nat), w ≤ 76 → w % 4 = 0 → 5 * (md_co l f w k).length ≤ 21 * ((l.length - k + 2) / 3) + w / 4 := by
  intro f
  induction f with
  | zero => intro w k _ _; exact Nat.zero_le _
  | succ f ih =>
    intro w k hw h4
    unfold md_co
    by_cases hk : k < l.length
    · rw [if_pos hk, List.length_append, List.length_append, md_f4_len]
      by_cases h76 : w = 76
      · rw [if_pos h76, if_pos h76, show md_cr.length = 2 from rfl]
        have := ih (0 + 4) (k + 3) (by omega) (by omega)
        omega
      · rw [if_neg h76, if_neg h76, List.length_nil]
        have := ih (w + 4) (k + 3) (by omega) (by omega)
        omega
    · rw [if_neg hk]
      exact Nat.zero_le _
theorem z_co0 {l : List Int32} {f : Nat} : 5 * (md_co l f 0 0).length ≤ 7 * l.length + 14 := by
  have := z_co (l := l) f 0 0 (by omega) (by omega)
  omega
/-- where a type came from -/
theorem z_txts_src {dep : Nat} : ∀ (fs : List md_F) {x y : md_X}, md_txts T dep fs x = .ok y → ∀ τ, y.1 = some τ → x.1 = some τ ∨ ∃ f ∈ fs, f.1 = 1 ∧ md_type T f.2.2.2 dep (md_go T f.2.2.2 (f.2.2.1 + 1)) = .ok τ := by
  intro fs
  induction fs with
  | nil => intro x y h τ hτ; cases h; exact Or.inl hτ
  | cons f fs ih =>
    intro x y h τ hτ
    unfold md_txts at h
    obtain ⟨w, h1, h⟩ := bind_ok h
    rcases ih h τ hτ with g | ⟨f', hf', g1, g2⟩
    · by_cases hf : f.1 = 1
      · unfold md_txt1 at h1
        rw [if_pos hf] at h1
        obtain ⟨t, h2, h1⟩ := bind_ok h1
        cases h1
        cases g
        exact Or.inr ⟨f, List.mem_cons_self, hf, h2⟩
      · rw [md_txt1_ty h1 hf] at g
        exact Or.inl g
    · exact Or.inr ⟨f', List.mem_cons_of_mem _ hf', g1, g2⟩
/-- what an entity costs when it is written -/
def md_c1 (T : Nat → Int32) (i : Nat) (u : md_E) : Nat := (md_hd T i u).length + (md_co u.2.2.2.2.2 u.2.2.2.2.2.length 0 0).length
theorem z_c1 {dep i a b tot body : Nat} {fs : List md_F} {x y : md_X} {u : md_E} (hL : LN T N) (hb : b ≤ N) (hfs : md_fs T i b tot [] a = .ok (fs, body)) (hy : md_txts T dep fs x = .ok y) (hx : x.1 = none) (e1 : u.2.1 = fs) (e2 : u.2.2.1 = y.1.getD md_plain) (i' : Nat) : 5 * md_c1 T i' u + 7 * a ≤ 7 * body + 7 * u.2.2.2.2.2.length + 630 := by
  have hZ := md_fs_FZ hL hb 20 [] a (by decide) hfs (fun g hg => by cases hg)
  have hsp := z_fs_sp hL hb 20 [] a (by decide) hfs
  have h0 : md_sp [] = 0 := rfl
  rw [h0] at hsp
  obtain ⟨w1, w2⟩ := z_wfs fs hZ
  have hco := z_co0 (l := u.2.2.2.2.2) (f := u.2.2.2.2.2.length)
  unfold md_c1 md_hd
  rw [List.length_append, List.length_append, e1]
  have hcte : (if u.2.2.2.2.1 = true then md_cr else md_cte).length ≤ 37 := by
    split
    · show 2 ≤ 37; omega
    · have : md_cte.length = 37 := by decide
      omega
  have key : 5 * (md_wfs T fs).length + 5 * (md_wt i' u).length ≤ 7 * md_sp fs + 425 := by
    cases hy1 : y.1 with
    | none =>
      have e3 : u.2.2.1 = md_plain := by rw [e2, hy1]; rfl
      have := z_wt (i := i') (u := u) (by rw [e3]; decide)
      rw [e3] at this
      have e4 : md_plain.1.length = 4 := by decide
      have e5 : md_plain.2.1.length = 5 := by decide
      have e6 : md_pl md_plain.2.2 = 0 := rfl
      rw [e4, e5, e6] at this
      have ht : (md_wt i' u).length ≤ 85 := by
        unfold md_wt
        rw [List.length_append, List.length_append, List.length_append, List.length_append, List.length_append, e3, e4, e5, show (md_w "content-type: ").length = 14 from by decide, show (md_w "/").length = 1 from by decide, show md_cr.length = 2 from rfl]
        show 14 + (4 + (1 + (5 + (0 + 2)))) ≤ 85
        omega
      omega
    | some τ =>
      have e3 : u.2.2.1 = τ := by rw [e2, hy1]; rfl
      rcases z_txts_src fs hy τ hy1 with g | ⟨f, hf, g1, g2⟩
      · rw [hx] at g; cases g
      · obtain ⟨⟨z1, z2, z3, z4, z5⟩, z6⟩ := hZ f hf
        have hok : md_ok T f.2.2.2 (md_go T f.2.2.2 (f.2.2.1 + 1)) := md_go_ok (by omega) (fun r hr => z3 r (by omega))
        obtain ⟨t1, t2⟩ := z_type_l hok g2
        have g3 := md_go_ge (T := T) (e := f.2.2.2) (q := f.2.2.1 + 1)
        have ht := z_wt (i := i') (u := u) (by rw [e3]; exact t2)
        rw [e3] at ht
        have := w2 f hf g1
        unfold md_sp1' at this
        omega
  omega
end ZIC
