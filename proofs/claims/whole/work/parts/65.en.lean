/-! texts at another place -/
section MSH
variable {P P' : Nat → Int32} {s n : Nat}
theorem md_run_sh {bl : Bool} (H : ∀ j, j < n → P (s + j) = P' j) {k : Nat} : md_run P bl (s + n) (s + k) = s + md_run P' bl n k := by
  rw [md_run.eq_def P bl (s + n) (s + k), md_run.eq_def P' bl n k]
  by_cases hk : k < n
  · by_cases hc : md_bl (P' k) = bl
    · rw [if_pos ⟨by omega, by rw [H k hk]; exact hc⟩, if_pos ⟨hk, hc⟩]
      exact md_run_sh H (k := k + 1)
    · rw [if_neg (fun z => hc (by rw [H k hk] at z; exact z.2)), if_neg (fun z => hc z.2)]
  · rw [if_neg (fun z => by omega), if_neg (fun z => hk z.1)]
termination_by n - k
theorem md_mark_sh (H : ∀ j, j < n → P (s + j) = P' j) {k : Nat} : md_mark P (s + n) (s + k) = s + md_mark P' n k := by
  rw [md_mark.eq_def P (s + n) (s + k), md_mark.eq_def P' n k]
  by_cases hk : k < n
  · by_cases hc : P' k = ni 63
    · rw [if_neg (fun z => z.2 (by rw [H k hk]; exact hc)), if_neg (fun z => z.2 hc)]
    · rw [if_pos ⟨by omega, by rw [H k hk]; exact hc⟩, if_pos ⟨hk, hc⟩]
      exact md_mark_sh H (k := k + 1)
  · rw [if_neg (fun z => by omega), if_neg (fun z => hk z.1)]
termination_by n - k
theorem md_at_sh (H : ∀ j, j < n → P (s + j) = P' j) : ∀ (w : List Int32) (a : Nat), a + w.length ≤ n → md_at P (s + a) w = md_at P' a w := by
  intro w
  induction w with
  | nil => intro a _; rfl
  | cons c w ih =>
    intro a ha
    rw [List.length_cons] at ha
    rw [md_at_cons, md_at_cons, H a (by omega), show s + a + 1 = s + (a + 1) from by omega, ih (a + 1) (by omega)]
theorem md_is_sh (H : ∀ j, j < n → P (s + j) = P' j) {a m : Nat} (ha : a + m ≤ n) {w : String} : md_is P (s + a) m w = md_is P' a m w := by
  unfold md_is
  by_cases hm : m = (md_w w).length
  · rw [decide_eq_true hm, md_at_sh H _ a (by omega)]
  · rw [decide_eq_false hm, Bool.false_and, Bool.false_and]
theorem md_mB_sh (H : ∀ j, j < n → P (s + j) = P' j) {v : Int32} {h pd k : Nat} : md_mB P (s + n) v h pd (s + k) = md_mB P' n v h pd k := by
  rw [md_mB.eq_def P (s + n) v h pd (s + k), md_mB.eq_def P' n v h pd k]
  by_cases hk : k < n
  · rw [if_pos (by omega), if_pos hk, H k hk]
    cases htk : md_tk v h pd (P' k) with
    | error b => rfl
    | ok w =>
      obtain ⟨v', h', pd', xs⟩ := w
      dsimp only
      rw [show s + k + 1 = s + (k + 1) from by omega, md_mB_sh H (k := k + 1)]
  · rw [if_neg (by omega), if_neg hk]
termination_by n - k
theorem md_mQ_sh (H : ∀ j, j < n → P (s + j) = P' j) {k : Nat} : md_mQ P (s + n) (s + k) = md_mQ P' n k := by
  rw [md_mQ.eq_def P (s + n) (s + k), md_mQ.eq_def P' n k]
  by_cases hk : k < n
  · rw [if_pos (by omega), if_pos hk, H k hk]
    by_cases h61 : P' k = ni 61
    · rw [if_pos h61, if_pos h61]
      by_cases h2 : k + 2 < n
      · rw [show s + k + 1 = s + (k + 1) from by omega, show s + k + 2 = s + (k + 2) from by omega, show s + k + 3 = s + (k + 3) from by omega, H (k + 1) (by omega), H (k + 2) h2, md_mQ_sh H (k := k + 3)]
        by_cases hx : md_hx (P' (k + 1)) (P' (k + 2)) ≠ sm_k (-1)
        · rw [if_pos ⟨by omega, hx⟩, if_pos ⟨h2, hx⟩]
        · rw [if_neg (fun z => hx z.2), if_neg (fun z => hx z.2)]
      · rw [if_neg (fun z => by omega), if_neg (fun z => h2 z.1)]
    · rw [if_neg h61, if_neg h61, show s + k + 1 = s + (k + 1) from by omega, md_mQ_sh H (k := k + 1)]
  · rw [if_neg (by omega), if_neg hk]
termination_by n - k
theorem md_enc_sh {a : Nat} (H : ∀ j, j < n → P (s + j) = P' j) : md_enc P (s + a) (s + n) = md_enc P' a n := by
  unfold md_enc
  dsimp only
  have m1 := md_mark_le (P := P') (n := n) (k := a + 2)
  have m2 := md_mark_le (P := P') (n := n) (k := md_mark P' n (a + 2) + 3)
  rw [show s + a + 2 = s + (a + 2) from by omega, md_mark_sh H, show s + md_mark P' n (a + 2) + 3 = s + (md_mark P' n (a + 2) + 3) from by omega, md_mark_sh H]
  generalize md_mark P' n (a + 2) = m at *
  generalize md_mark P' n (m + 3) = z at *
  by_cases hc : n ≤ a + 75 ∧ m + 3 < z ∧ z + 2 = n ∧ P' a = ni 61 ∧ P' (a + 1) = ni 63 ∧ P' (m + 2) = ni 63 ∧ P' (n - 1) = ni 61
  · have hc' : s + n ≤ s + a + 75 ∧ s + (m + 3) < s + z ∧ s + z + 2 = s + n ∧ P (s + a) = ni 61 ∧ P (s + a + 1) = ni 63 ∧ P (s + m + 2) = ni 63 ∧ P (s + n - 1) = ni 61 := by
      refine ⟨by omega, by omega, by omega, ?_, ?_, ?_, ?_⟩
      · rw [H a (by omega)]; exact hc.2.2.2.1
      · rw [show s + a + 1 = s + (a + 1) from by omega, H (a + 1) (by omega)]; exact hc.2.2.2.2.1
      · rw [show s + m + 2 = s + (m + 2) from by omega, H (m + 2) (by omega)]; exact hc.2.2.2.2.2.1
      · rw [show s + n - 1 = s + (n - 1) from by omega, H (n - 1) (by omega)]; exact hc.2.2.2.2.2.2
    rw [if_pos hc, if_pos hc']
    have e1 : md_chset P (s + (a + 2)) (s + m - (s + (a + 2))) = md_chset P' (a + 2) (m - (a + 2)) := by
      unfold md_chset
      rw [show s + m - (s + (a + 2)) = m - (a + 2) from by omega, md_is_sh H (by omega), md_is_sh H (by omega), md_is_sh H (by omega)]
    have Hz : ∀ j, j < z → P (s + j) = P' j := fun j hj => H j (by omega)
    rw [e1, show s + m + 1 = s + (m + 1) from by omega, H (m + 1) (by omega), md_mB_sh Hz, md_mQ_sh Hz]
  · have hc' : ¬ (s + n ≤ s + a + 75 ∧ s + (m + 3) < s + z ∧ s + z + 2 = s + n ∧ P (s + a) = ni 61 ∧ P (s + a + 1) = ni 63 ∧ P (s + m + 2) = ni 63 ∧ P (s + n - 1) = ni 61) := by
      rintro ⟨q1, q2, q3, q4, q5, q6, q7⟩
      refine hc ⟨by omega, by omega, by omega, ?_, ?_, ?_, ?_⟩
      · rw [H a (by omega)] at q4; exact q4
      · rw [show s + a + 1 = s + (a + 1) from by omega, H (a + 1) (by omega)] at q5; exact q5
      · rw [show s + m + 2 = s + (m + 2) from by omega, H (m + 2) (by omega)] at q6; exact q6
      · rw [show s + n - 1 = s + (n - 1) from by omega, H (n - 1) (by omega)] at q7; exact q7
    rw [if_neg hc, if_neg hc']
theorem md_sl_sh {a b : Nat} (H : ∀ j, j < b → P (s + j) = P' j) : md_sl P (s + a) (s + b) = md_sl P' a b := by
  unfold md_sl
  rw [show s + b - (s + a) = b - a from by omega]
  refine List.map_congr_left (fun k hk => ?_)
  rw [List.mem_range] at hk
  rw [Nat.add_assoc, H (a + k) (by omega)]
theorem ni_any (x : Int32) : ∃ n, x = ni n := ⟨x.toBitVec.toNat, by
  apply Int32.toBitVec_inj.mp
  show x.toBitVec = BitVec.ofNat 32 _
  rw [BitVec.ofNat_toNat, BitVec.setWidth_eq]⟩
theorem ni_255 (x : Int32) : ∃ n, n < 256 ∧ x &&& ni 255 = ni n := by
  obtain ⟨k, rfl⟩ := ni_any x
  refine ⟨k % 256, by omega, ?_⟩
  rw [ni_and]; exact congrArg ni (Nat.and_two_pow_sub_one_eq_mod k 8)
theorem md_tk_by {v : Int32} {h pd : Nat} {c v' : Int32} {h' pd' : Nat} {xs : List Int32} (hk : md_tk v h pd c = .ok (v', h', pd', xs)) : md_by xs := by
  unfold md_tk at hk
  split at hk
  · cases hk
  · split at hk
    · cases hk
    · dsimp only at hk
      generalize (if c = ni 61 then pd + 1 else pd) = q at hk
      generalize (v <<< ni 6 ||| if c = ni 61 then ni 0 else md_six c) = u at hk
      split at hk
      · cases hk
        intro x hx
        have hx2 := List.mem_of_mem_take hx
        simp only [List.mem_cons, List.not_mem_nil, or_false] at hx2
        rcases hx2 with rfl | rfl | rfl <;> exact ni_255 _
      · cases hk
        intro x hx
        cases hx
theorem md_mB_len {z : Nat} {v : Int32} {h pd k : Nat} {l : List Int32} (hJ : md_J h pd) (hl : md_mB P z v h pd k = some l) : l.length ≤ (z - k) + h ∧ md_by l := by
  rw [md_mB] at hl
  split at hl
  · next g =>
    cases htk : md_tk v h pd (P k) with
    | error b => rw [htk] at hl; cases hl
    | ok w =>
      obtain ⟨v', h', pd', xs⟩ := w
      rw [htk] at hl
      dsimp only at hl
      obtain ⟨t1, t2⟩ := md_tk_J hJ htk
      have hb1 := md_tk_by htk
      cases hr : md_mB P z v' h' pd' (k + 1) with
      | none => rw [hr] at hl; cases hl
      | some ys =>
        rw [hr] at hl
        cases hl
        obtain ⟨i1, i2⟩ := md_mB_len t1 hr
        rw [List.length_append]
        refine ⟨by omega, fun x hx => ?_⟩
        rcases List.mem_append.mp hx with q | q
        · exact hb1 x q
        · exact i2 x q
  · split at hl
    · cases hl; exact ⟨Nat.zero_le _, fun x hx => by cases hx⟩
    · cases hl
termination_by z - k
theorem md_hx_by {a b : Nat} (ha : a < 256) (hb : b < 256) (h : md_hx (ni a) (ni b) ≠ sm_k (-1)) : ∃ n, n < 256 ∧ md_hx (ni a) (ni b) = ni n := by
  have key : ∀ n, n < 256 → md_hex (ni n) = sm_k (-1) ∨ ∃ k, k < 16 ∧ md_hex (ni n) = ni k := by
    have k2 : ∀ n, n < 256 → md_hex (ni n) = sm_k (-1) ∨ (md_hex (ni n)).toInt.toNat < 16 ∧ md_hex (ni n) = ni (md_hex (ni n)).toInt.toNat := by decide +kernel
    intro n hn
    rcases k2 n hn with q | q
    · exact Or.inl q
    · exact Or.inr ⟨_, q.1, q.2⟩
  unfold md_hx at h ⊢
  by_cases hc : md_hex (ni a) = sm_k (-1) ∨ md_hex (ni b) = sm_k (-1)
  · rw [if_pos hc] at h; exact absurd rfl h
  · rw [if_neg hc]
    obtain ⟨x, x1, x2⟩ := (key a ha).resolve_left (fun z => hc (Or.inl z))
    obtain ⟨y, y1, y2⟩ := (key b hb).resolve_left (fun z => hc (Or.inr z))
    exact ⟨16 * x + y, by omega, by rw [x2, y2, ni_mul, ni_add]⟩
theorem md_mQ_len {z k : Nat} {l : List Int32} (hby : ∀ j, k ≤ j → j < z → ∃ n, n < 256 ∧ P j = ni n) (hl : md_mQ P z k = some l) : l.length ≤ z - k ∧ md_by l := by
  rw [md_mQ] at hl
  split at hl
  · next g =>
    split at hl
    · split at hl
      · next g2 =>
        cases hr : md_mQ P z (k + 3) with
        | none => rw [hr] at hl; cases hl
        | some ys =>
          rw [hr] at hl
          cases hl
          obtain ⟨i1, i2⟩ := md_mQ_len (fun j h1 h2 => hby j (by omega) h2) hr
          obtain ⟨n1, a1, b1⟩ := hby (k + 1) (by omega) (by omega)
          obtain ⟨n2, a2, b2⟩ := hby (k + 2) (by omega) (by omega)
          rw [List.length_cons]
          refine ⟨by omega, fun x hx => ?_⟩
          rcases List.mem_cons.mp hx with q | q
          · rw [q, b1, b2]
            rw [b1, b2] at g2
            exact md_hx_by a1 a2 g2.2
          · exact i2 x q
      · cases hl
    · cases hr : md_mQ P z (k + 1) with
      | none => rw [hr] at hl; cases hl
      | some ys =>
        rw [hr] at hl
        cases hl
        obtain ⟨i1, i2⟩ := md_mQ_len (fun j h1 h2 => hby j (by omega) h2) hr
        rw [List.length_cons]
        refine ⟨by omega, fun x hx => ?_⟩
        rcases List.mem_cons.mp hx with q | q
        · rw [q]
          split
          · exact ⟨32, by omega, rfl⟩
          · exact hby k (Nat.le_refl _) g
        · exact i2 x q
  · cases hl; exact ⟨Nat.zero_le _, fun x hx => by cases hx⟩
termination_by z - k
theorem md_enc_len {a n ch : Nat} {l : List Int32} (hby : ∀ j, a ≤ j → j < n → ∃ n, n < 256 ∧ P j = ni n) (hl : md_enc P a n = some (ch, l)) : l.length + a < n ∧ md_by l ∧ ch < 3 := by
  unfold md_enc at hl
  dsimp only at hl
  have m1 := md_mark_le (P := P) (n := n) (k := a + 2)
  generalize md_mark P n (a + 2) = m at *
  generalize md_mark P n (m + 3) = z at *
  split at hl
  · next g =>
    split at hl
    · cases hl
    · next cs hcs =>
      have hch : cs < 3 := by
        unfold md_chset at hcs
        repeat' split at hcs
        all_goals first
          | (cases hcs; omega)
          | cases hcs
      split at hl
      · cases hr : md_mB P z (ni 0) 0 0 (m + 3) with
        | none => rw [hr] at hl; cases hl
        | some ys =>
          rw [hr] at hl
          cases hl
          obtain ⟨i1, i2⟩ := md_mB_len (⟨by omega, by omega⟩ : md_J 0 0) hr
          exact ⟨by omega, i2, hch⟩
      · split at hl
        · cases hr : md_mQ P z (m + 3) with
          | none => rw [hr] at hl; cases hl
          | some ys =>
            rw [hr] at hl
            cases hl
            obtain ⟨i1, i2⟩ := md_mQ_len (fun j h1 h2 => hby j (by omega) (by omega)) hr
            exact ⟨by omega, i2, hch⟩
        · cases hl
  · cases hl
theorem md_pts_len {ch : Nat} {l : List Int32} : ∀ (m i : Nat), (md_pts ch l m i).length ≤ l.length - i := by
  intro m
  induction m with
  | zero => intro i; exact Nat.zero_le _
  | succ m ih =>
    intro i
    unfold md_pts
    split
    · split
      · rw [List.length_cons]
        have := ih (i + 1 + (md_u8 (md_nth l i) (md_nth l (i + 1)) (md_nth l (i + 2)) (md_nth l (i + 3))).2)
        omega
      · rw [List.length_cons]
        have := ih (i + 1)
        omega
    · exact Nat.zero_le _
end MSH
