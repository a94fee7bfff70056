/-! ===== the start: the words on text constants and statics ===== -/
def i_ps : List Nat := [790, 834, 886, 955, 1150, 923, 864, 704, 466, 534, 554, 579, 93, 109, 138, 149, 157, 165, 431, 443, 457, 69, 619, 284, 171, 179, 271, 188, 296, 375, 383, 391, 401, 411, 1040, 978, 984, 992, 998, 1016, 1021, 1029, 1035, 1081, 1187, 1204, 1234, 1246, 1255, 1264, 1271, 1280, 1290, 1304, 1317, 1326, 1335, 1346, 1357, 1378, 1404, 1445, 1458, 1473, 1500, 1507, 1526, 1533, 1542, 1483, 1493]
def i_tk (j : Nat) : Nat := (sm_CS.getD j (0, 0)).1
def i_tm (j : Nat) : Term := .string (sm_own (i_tk j)) (i_tk j % 65536)
def i_b (j : Nat) : List Int32 := (sm_tx.getD j "").toList.map (fun c => ni c.toNat)
def i_vt (j : Nat) : Term := .field (i_tm j) "java/lang/String" "value" "[B"
def i_ex (j : Nat) : List Cond := .exactly (i_tm j) "java/lang/String" :: .eq (.field (i_tm j) "java/lang/String" "coder" "B") (.int 0) :: .arrayOf (i_vt j) .byte :: .eq (.length (i_vt j)) (.int (Int32.ofNat (i_b j).length)) ::
  (List.range (i_b j).length).map (fun i => .eq (.elem (i_vt j) (.int (Int32.ofNat i))) (.int ((i_b j).getD i 0)))
def i_ck (j : Nat) : Bool := decide ((((flatC narrow_1).drop (i_ps.getD j 0)).take (4 + (i_b j).length)) = i_ex j)
set_option maxRecDepth 100000 in
theorem i_ck0 : (List.range 6).all (fun j => i_ck (0 + j)) = true := by decide +kernel
set_option maxRecDepth 100000 in
theorem i_ck1 : (List.range 6).all (fun j => i_ck (6 + j)) = true := by decide +kernel
set_option maxRecDepth 100000 in
theorem i_ck2 : (List.range 6).all (fun j => i_ck (12 + j)) = true := by decide +kernel
set_option maxRecDepth 100000 in
theorem i_ck3 : (List.range 6).all (fun j => i_ck (18 + j)) = true := by decide +kernel
set_option maxRecDepth 100000 in
theorem i_ck4 : (List.range 6).all (fun j => i_ck (24 + j)) = true := by decide +kernel
set_option maxRecDepth 100000 in
theorem i_ck5 : (List.range 6).all (fun j => i_ck (30 + j)) = true := by decide +kernel
set_option maxRecDepth 100000 in
theorem i_ck6 : (List.range 6).all (fun j => i_ck (36 + j)) = true := by decide +kernel
set_option maxRecDepth 100000 in
theorem i_ck7 : (List.range 6).all (fun j => i_ck (42 + j)) = true := by decide +kernel
set_option maxRecDepth 100000 in
theorem i_ck8 : (List.range 6).all (fun j => i_ck (48 + j)) = true := by decide +kernel
set_option maxRecDepth 100000 in
theorem i_ck9 : (List.range 6).all (fun j => i_ck (54 + j)) = true := by decide +kernel
set_option maxRecDepth 100000 in
theorem i_ck10 : (List.range 6).all (fun j => i_ck (60 + j)) = true := by decide +kernel
set_option maxRecDepth 100000 in
theorem i_ck11 : (List.range 5).all (fun j => i_ck (66 + j)) = true := by decide +kernel
theorem i_ck_ok (j : Nat) (hj : j < 71) : i_ck j = true := by
  rcases Nat.lt_or_ge j 6 with h0 | h0
  · have g := List.all_eq_true.mp i_ck0 (j - 0) (List.mem_range.mpr (by omega)); rw [show 0 + (j - 0) = j from by omega] at g; exact g
  rcases Nat.lt_or_ge j 12 with h1 | h1
  · have g := List.all_eq_true.mp i_ck1 (j - 6) (List.mem_range.mpr (by omega)); rw [show 6 + (j - 6) = j from by omega] at g; exact g
  rcases Nat.lt_or_ge j 18 with h2 | h2
  · have g := List.all_eq_true.mp i_ck2 (j - 12) (List.mem_range.mpr (by omega)); rw [show 12 + (j - 12) = j from by omega] at g; exact g
  rcases Nat.lt_or_ge j 24 with h3 | h3
  · have g := List.all_eq_true.mp i_ck3 (j - 18) (List.mem_range.mpr (by omega)); rw [show 18 + (j - 18) = j from by omega] at g; exact g
  rcases Nat.lt_or_ge j 30 with h4 | h4
  · have g := List.all_eq_true.mp i_ck4 (j - 24) (List.mem_range.mpr (by omega)); rw [show 24 + (j - 24) = j from by omega] at g; exact g
  rcases Nat.lt_or_ge j 36 with h5 | h5
  · have g := List.all_eq_true.mp i_ck5 (j - 30) (List.mem_range.mpr (by omega)); rw [show 30 + (j - 30) = j from by omega] at g; exact g
  rcases Nat.lt_or_ge j 42 with h6 | h6
  · have g := List.all_eq_true.mp i_ck6 (j - 36) (List.mem_range.mpr (by omega)); rw [show 36 + (j - 36) = j from by omega] at g; exact g
  rcases Nat.lt_or_ge j 48 with h7 | h7
  · have g := List.all_eq_true.mp i_ck7 (j - 42) (List.mem_range.mpr (by omega)); rw [show 42 + (j - 42) = j from by omega] at g; exact g
  rcases Nat.lt_or_ge j 54 with h8 | h8
  · have g := List.all_eq_true.mp i_ck8 (j - 48) (List.mem_range.mpr (by omega)); rw [show 48 + (j - 48) = j from by omega] at g; exact g
  rcases Nat.lt_or_ge j 60 with h9 | h9
  · have g := List.all_eq_true.mp i_ck9 (j - 54) (List.mem_range.mpr (by omega)); rw [show 54 + (j - 54) = j from by omega] at g; exact g
  rcases Nat.lt_or_ge j 66 with h10 | h10
  · have g := List.all_eq_true.mp i_ck10 (j - 60) (List.mem_range.mpr (by omega)); rw [show 60 + (j - 60) = j from by omega] at g; exact g
  have g := List.all_eq_true.mp i_ck11 (j - 66) (List.mem_range.mpr (by omega))
  rw [show 66 + (j - 66) = j from by omega] at g
  exact g
theorem i_mem {j : Nat} (hj : j < 71) {w : Cond} (hw : w ∈ i_ex j) : w ∈ flatC narrow_1 := by
  have h : _ = i_ex j := of_decide_eq_true (i_ck_ok j hj)
  rw [← h] at hw
  exact List.mem_of_mem_drop (List.mem_of_mem_take hw)
theorem i_len : ∀ j, j < 71 → (i_b j).length < 1000 := by decide +kernel
theorem i_md : (((flatC narrow_1).drop 12).take 12) = (List.range 12).map (fun j => Cond.eq (.elem (.static "MessageTree" "MONTH_DAYS" "[I") (.int (Int32.ofNat j))) (.int (ni (md_mds.getD j 0)))) := by decide +kernel
theorem good_on (w : Cond) (h : sm_good w = true) : w.onTables = true ∨ ∃ ty, w = .arrayClass ty := by
  cases w <;> first | exact Or.inr ⟨_, rfl⟩ | exact Or.inl rfl | (simp [sm_good, goodWord] at h; exact Or.inl h.1) | (simp [sm_good, goodWord] at h)
theorem i_gd {s : State} {args : Array Value} (w : Cond) (hg : sm_good w = true) (h : w.before args s = true) : w.before #[] s = true := by
  rcases good_on w hg with h1 | ⟨ty, rfl⟩
  · exact va_tabs h1 rfl h
  · simpa only [Cond.before, Cond.holds, Cond.value] using h
section STR
variable {s : State} {args : Array Value}
theorem i_str (hs : ∀ c ∈ flatC narrow_1, c.before args s = true) : ∃ ad : Nat → Nat × Nat, ∀ j, j < 71 → (i_tm j).eval args s none [] s = some (.ref (ad j).1) ∧ va_O "java/lang/String" (ad j).1 (fun q => s.heap.size ≤ q) s s.heap ∧ va_OF "java/lang/String" "coder" "B" (.int 0) (ad j).1 (fun q => s.heap.size ≤ q) s s.heap ∧ va_OF "java/lang/String" "value" "[B" (.ref (ad j).2) (ad j).1 (fun q => s.heap.size ≤ q) s s.heap ∧ va_T .byte (ad j).2 (i_b j).length (fun i => .int ((i_b j).getD i 0)) (fun q => s.heap.size ≤ q) s s.heap := by
  have hA : ∀ a : Nat, a < s.heap.size → ¬ s.heap.size ≤ a := fun a ha => by omega
  have h0 : ∀ j : Nat, ∃ q : Nat × Nat, j < 71 → (i_tm j).eval args s none [] s = some (.ref q.1) ∧ va_O "java/lang/String" q.1 (fun q => s.heap.size ≤ q) s s.heap ∧ va_OF "java/lang/String" "coder" "B" (.int 0) q.1 (fun q => s.heap.size ≤ q) s s.heap ∧ va_OF "java/lang/String" "value" "[B" (.ref q.2) q.1 (fun q => s.heap.size ≤ q) s s.heap ∧ va_T .byte q.2 (i_b j).length (fun i => .int ((i_b j).getD i 0)) (fun q => s.heap.size ≤ q) s s.heap := by
    intro j
    by_cases hj : j < 71
    · have m1 : Cond.exactly (i_tm j) "java/lang/String" ∈ i_ex j := List.mem_cons_self
      have m2 : Cond.eq (.field (i_tm j) "java/lang/String" "coder" "B") (.int 0) ∈ i_ex j := List.mem_cons_of_mem _ List.mem_cons_self
      have m3 : Cond.arrayOf (i_vt j) .byte ∈ i_ex j := List.mem_cons_of_mem _ (List.mem_cons_of_mem _ List.mem_cons_self)
      have m4 : Cond.eq (.length (i_vt j)) (.int (Int32.ofNat (i_b j).length)) ∈ i_ex j := List.mem_cons_of_mem _ (List.mem_cons_of_mem _ (List.mem_cons_of_mem _ List.mem_cons_self))
      have m5 : ∀ i, i < (i_b j).length → Cond.eq (.elem (i_vt j) (.int (Int32.ofNat i))) (.int ((i_b j).getD i 0)) ∈ i_ex j := fun i hi => List.mem_cons_of_mem _ (List.mem_cons_of_mem _ (List.mem_cons_of_mem _ (List.mem_cons_of_mem _ (List.mem_map.mpr ⟨i, List.mem_range.mpr hi, rfl⟩))))
      obtain ⟨a, c, cA, kA, q1, q2, q3, q4, q5, q6, -⟩ := Cond.exactly_spec (args := args) (first := s) (o := none) (s := s) (idx := []) (t := i_tm j) (cls := "java/lang/String") (hs _ (i_mem hj m1))
      obtain ⟨t, ht, hT⟩ := va_Tof (tm := i_vt j) (f := fun i => .int ((i_b j).getD i 0)) (A := fun q => s.heap.size ≤ q) (N := (i_b j).length) (by have := i_len j hj; omega) (hs _ (i_mem hj m3)) (va_eqt (hs _ (i_mem hj m4))) (fun i hi => va_eqt (hs _ (i_mem hj (m5 i hi)))) hA
      exact ⟨(a, t), fun _ => ⟨q1, ⟨cA, q3, q5, by rw [q6]; exact q2, hA a (Array.getElem?_eq_some_iff.mp q3).1⟩, vk_OFof q1 (va_eqt (hs _ (i_mem hj m2))) hA, vk_OFof q1 ht hA, hT⟩⟩
    · exact ⟨(0, 0), fun h => absurd h hj⟩
  obtain ⟨ad, had⟩ := Classical.axiomOfChoice h0
  exact ⟨ad, had⟩
theorem i_mds (hs : ∀ c ∈ flatC narrow_1, c.before args s = true) : ∃ t, (Term.static "MessageTree" "MONTH_DAYS" "[I").eval args s none [] s = some (.ref t) ∧ va_T .int t 12 (fun i => .int (ni (md_mds.getD i 0))) (fun q => s.heap.size ≤ q) s s.heap := by
  have hA : ∀ a : Nat, a < s.heap.size → ¬ s.heap.size ≤ a := fun a ha => by omega
  refine va_Tof (by omega) (hs _ (List.mem_of_getElem? (i := 10) (by decide +kernel))) (va_eqt (hs _ (List.mem_of_getElem? (i := 11) (by decide +kernel)))) (fun j hj => va_eqt (hs _ ?_)) hA
  have m : Cond.eq (.elem (.static "MessageTree" "MONTH_DAYS" "[I") (.int (Int32.ofNat j))) (.int (ni (md_mds.getD j 0))) ∈ (((flatC narrow_1).drop 12).take 12) := by
    rw [i_md]
    exact List.mem_map.mpr ⟨j, List.mem_range.mpr hj, rfl⟩
  exact List.mem_of_mem_drop (List.mem_of_mem_take m)
end STR
