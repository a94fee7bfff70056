/-! ===== what the tables of the small machine rest on: the code decodes so; the words stand in lw_tbl ===== -/
def sm_okd (m : sm_M) : Prop := ∀ r ∈ m.2.2, decode m.1.2.1 r.1 = .ok (r.2.1, r.2.2)
theorem sm_okd_of {m : sm_M} (h : m.2.2.all (fun r => decide (decode m.1.2.1 r.1 = .ok (r.2.1, r.2.2))) = true) : sm_okd m := fun r hr => of_decide_eq_true (List.all_eq_true.mp h r hr)
theorem sm_td {α : Type} {P : α → Prop} (n : Nat) {l : List α} (h1 : ∀ r ∈ l.take n, P r) (h2 : ∀ r ∈ l.drop n, P r) : ∀ r ∈ l, P r := fun r hr => by
  rw [← List.take_append_drop n l] at hr
  exact (List.mem_append.mp hr).elim (h1 r) (h2 r)
theorem sm_dc {cc : ByteArray} {l : List (Nat × Instr × Nat)} (h : l.all (fun r => decide (decode cc r.1 = .ok (r.2.1, r.2.2))) = true) : ∀ r ∈ l, decode cc r.1 = .ok (r.2.1, r.2.2) := fun r hr => of_decide_eq_true (List.all_eq_true.mp h r hr)
def sm_hh (m : sm_M) : List (Nat × Nat × Nat × Nat) := m.2.1.2.1.map (fun q => (q.1, q.2.1, q.2.2.1, q.2.2.2.1))
def sm_cw (m : sm_M) : Cond := if m.2.1.2.1.isEmpty then .code m.1.1 m.1.2.1 m.1.2.2.1 m.1.2.2.2 else .codeWith m.1.1 m.1.2.1 m.1.2.2.1 m.1.2.2.2 (sm_hh m)
def sm_wM (m : sm_M) : List Cond := sm_cw m :: .initialized m.1.1.cls :: (if m.2.1.2.2 then [.static m.1.1] else if m.1.1.name = "<init>" then [.instanceMethod m.1.1] else [.instanceMethod m.1.1, .selects m.1.1.cls m.1.1 m.1.1])
def sm_in (ws : List Cond) : Prop := ∀ w ∈ ws, w ∈ lw_tbl
theorem sm_in_of {ws : List Cond} (ps : List Nat) (h : ws = ps.filterMap (fun i => lw_tbl[i]?)) : sm_in ws := by
  intro w hw
  rw [h] at hw
  obtain ⟨i, -, hi⟩ := List.mem_filterMap.mp hw
  exact List.mem_of_getElem? hi
def sm_ch (j : Nat) : List Cond := match j with
  | 0 => k2_sels lw_privs
  | 1 => tables_1_1
  | 2 => tables_1_2
  | 3 => tables_1_3
  | 4 => tables_1_4
  | 5 => tables_1_5
  | 6 => tables_1_6
  | 7 => tables_1_7
  | 8 => tables_1_8
  | _ => tables_1_9
theorem sm_ch_mem {w : Cond} (j : Nat) (h : w ∈ sm_ch j) : w ∈ lw_tbl := by
  unfold lw_tbl tables_1
  simp only [List.mem_append]
  unfold sm_ch at h
  split at h
  · exact Or.inl h
  · exact Or.inr (Or.inl h)
  · exact Or.inr (Or.inr (Or.inl h))
  · exact Or.inr (Or.inr (Or.inr (Or.inl h)))
  · exact Or.inr (Or.inr (Or.inr (Or.inr (Or.inl h))))
  · exact Or.inr (Or.inr (Or.inr (Or.inr (Or.inr (Or.inl h)))))
  · exact Or.inr (Or.inr (Or.inr (Or.inr (Or.inr (Or.inr (Or.inl h))))))
  · exact Or.inr (Or.inr (Or.inr (Or.inr (Or.inr (Or.inr (Or.inr (Or.inl h)))))))
  · exact Or.inr (Or.inr (Or.inr (Or.inr (Or.inr (Or.inr (Or.inr (Or.inr (Or.inl h))))))))
  · exact Or.inr (Or.inr (Or.inr (Or.inr (Or.inr (Or.inr (Or.inr (Or.inr (Or.inr h))))))))
theorem sm_in_ch {ws : List Cond} (ps : List (Nat × Nat)) (h : ws = ps.filterMap (fun q => (sm_ch q.1)[q.2]?)) : sm_in ws := by
  intro w hw
  rw [h] at hw
  obtain ⟨q, -, hq⟩ := List.mem_filterMap.mp hw
  exact sm_ch_mem q.1 (List.mem_of_getElem? hq)
def sm_ok (m : sm_M) : Prop := sm_okd m ∧ sm_in (sm_wM m) ∧ m.1.1.cls = sm_cn m.2.1.1 ∧ plainFor m.1.1 = true ∧ m.1.2.2.1 ≤ 21
