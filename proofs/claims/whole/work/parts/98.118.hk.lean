/-! ===== the reference: its tape ===== -/
def mB (F : List Int32) : Prop := ∀ x ∈ F, ∃ n, n < 256 ∧ x = ni n
def md_oy (v : Int32) (k : Nat) : Int32 := ((v.toUInt32 >>> ((ni k).toUInt32 &&& Int32.toUInt32 31)).toInt32) &&& ni 255
def md_se (v1 v2 v3 v4 v5 : Int32) : Nat → Int32
  | 0 => v1
  | 1 => v2
  | 2 => v3
  | 3 => v4
  | _ => v5
def md_b20 (v1 v2 v3 v4 v5 : Int32) : List Int32 := (List.range 20).map (fun k => md_oy (md_se v1 v2 v3 v4 v5 (k / 4)) (24 - 8 * (k % 4)))
def RB (X : Nat) (F : List Int32) (D : sm_D) : Prop := D.1 (X + 49) 2 = ni F.length ∧ F.length ≤ 8000 ∧ (∀ i, i < F.length → D.1 (X + 50) i = (md_nth F i).toInt8.toInt32) ∧ mB F
def sFd (X c j : Nat) : Prop := (c = X + 49 ∧ (j = 0 ∨ j = 2)) ∨ c = X + 50
section RHM
variable {C : sm_K} {X N : Nat} {T : Nat → Int32} {D E : sm_D} {Q : (Option Value ⊕ Nat) → sm_D → Prop} {m : md_M} {F : List Int32}
theorem md_sh20 : ∀ k, k < 20 → (((ni 24) - ((ni 8) * (ni k - ni k / (ni 4) * (ni 4)))) &&& 31) = ni (24 - 8 * (k % 4)) := by decide
theorem md_and_255 (x : Int32) : ∃ n, n < 256 ∧ x &&& ni 255 = ni n := by
  obtain ⟨n, rfl⟩ := ni_any x
  exact ⟨n % 256, Nat.mod_lt _ (by decide), ni_m255 n⟩
theorem md_255_bits : ∀ i, i < 8 → (BitVec.ofNat 32 255).getLsbD i = true := by decide
theorem md_sh8 (v : Int32) {k : Nat} (hk : k = 0 ∨ k = 8 ∨ k = 16 ∨ k = 24) : (v >>> ni k).toInt8 = (md_oy v k).toInt8 := by
  have e1 : (Int32.toBitVec (ni k)).smod 32 = BitVec.ofNat 32 k := by rcases hk with rfl | rfl | rfl | rfl <;> decide
  have e2 : ((ni k).toUInt32 &&& Int32.toUInt32 31).toBitVec % 32 = BitVec.ofNat 32 k := by rcases hk with rfl | rfl | rfl | rfl <;> decide
  have e3 : (BitVec.ofNat 32 k).toNat = k := by rcases hk with rfl | rfl | rfl | rfl <;> decide
  have hk24 : k ≤ 24 := by omega
  apply Int8.toBitVec_inj.mp
  show (v.toBitVec.sshiftRight' ((Int32.toBitVec (ni k)).smod 32)).signExtend 8 = ((v.toBitVec >>> (((ni k).toUInt32 &&& Int32.toUInt32 31).toBitVec % 32)) &&& BitVec.ofNat 32 255).signExtend 8
  rw [e1, e2]
  show (v.toBitVec.sshiftRight (BitVec.ofNat 32 k).toNat).signExtend 8 = ((v.toBitVec >>> (BitVec.ofNat 32 k).toNat) &&& BitVec.ofNat 32 255).signExtend 8
  rw [e3]
  apply BitVec.eq_of_getLsbD_eq
  intro i hi
  rw [BitVec.getLsbD_signExtend, BitVec.getLsbD_signExtend, BitVec.getLsbD_sshiftRight, BitVec.getLsbD_and, md_255_bits i hi, BitVec.getLsbD_ushiftRight]
  simp [hi, show i < 32 from by omega, show k + i < 32 from by omega]
theorem md_oy_B (v : Int32) (k : Nat) : ∃ n, n < 256 ∧ md_oy v k = ni n := md_and_255 _
theorem md_b20_len {v1 v2 v3 v4 v5 : Int32} : (md_b20 v1 v2 v3 v4 v5).length = 20 := by unfold md_b20; rw [List.length_map, List.length_range]
theorem md_b20_nth {v1 v2 v3 v4 v5 : Int32} {k : Nat} (hk : k < 20) : md_nth (md_b20 v1 v2 v3 v4 v5) k = md_oy (md_se v1 v2 v3 v4 v5 (k / 4)) (24 - 8 * (k % 4)) := by
  unfold md_nth md_b20
  rw [List.getD_eq_getElem?_getD, List.getElem?_map, List.getElem?_range hk]
  rfl
theorem md_b20_B {v1 v2 v3 v4 v5 : Int32} : mB (md_b20 v1 v2 v3 v4 v5) := by
  intro x hx
  unfold md_b20 at hx
  obtain ⟨k, -, rfl⟩ := List.mem_map.mp hx
  exact md_oy_B _ _
theorem nar_by (x : Int32) : sm_nar .byte (x.toInt8.toInt32) = x.toInt8.toInt32 := by
  obtain ⟨n, rfl⟩ := ni_any x
  show ((ni n).toInt8.toInt32).toInt8.toInt32 = _
  rw [Int8.toInt8_toInt32]
theorem md_nth_app1 {l n : List Int32} {i : Nat} (h : i < l.length) : md_nth (l ++ n) i = md_nth l i := by
  unfold md_nth
  rw [List.getD_eq_getElem?_getD, List.getD_eq_getElem?_getD, List.getElem?_append_left h]
theorem md_nth_app3 {l n : List Int32} {i : Nat} (h : l.length ≤ i) : md_nth (l ++ n) i = md_nth n (i - l.length) := by
  unfold md_nth
  rw [List.getD_eq_getElem?_getD, List.getD_eq_getElem?_getD, List.getElem?_append_right h]
theorem r154 (hX : sm_Lay C X) (hF : RB X F D) {v1 v2 v3 v4 v5 : Int32}
    (hok : F.length + 20 ≤ 8000 → ∀ E, fr (sFd X) D E → RB X (F ++ md_b20 v1 v2 v3 v4 v5) E → E.1 (X + 49) 0 = ni 0 → Q (.inl (some (.int (ni (F.length + 20))))) E)
    (her : ¬ F.length + 20 ≤ 8000 → ∀ E, fr (s0 X) D E → E.1 (X + 49) 0 = ni 1 → Q (.inl (some (.int (ni 0)))) E) :
    sw (sm_fe C 154 [.ref (X + 49), .int v1, .int v2, .int v3, .int v4, .int v5] D) Q := by
  obtain ⟨f1, f2, f3, f4⟩ := id hF
  refine sw_ge (f154 hX) ?_
  simp (disch := omega) only [sw_ite, f1, ni_add, ni_lt]
  by_cases h8 : F.length + 20 ≤ 8000
  · rw [if_neg (by omega)]
    refine sw_ge (n154_19 hX) ?_
    refine r155q hX (b := true) rfl (fun E hf h0 => ?_)
    rw [if_neg (show ¬ (md_b true = ni 0) by decide)]
    have loop : ∀ (n k : Nat) (E : sm_D), k + n = 20 → fr (sFd X) D E → E.1 (X + 49) 0 = ni 0 → E.1 (X + 49) 2 = ni (F.length + k) → (∀ i, i < F.length → E.1 (X + 50) i = (md_nth F i).toInt8.toInt32) → (∀ i, i < k → E.1 (X + 50) (F.length + i) = (md_nth (md_b20 v1 v2 v3 v4 v5) i).toInt8.toInt32) → sw (sm_fx C 154 30 [.ref (X + 49), .int v1, .int v2, .int v3, .int v4, .int v5, .int (ni k), sm_junk] [] E) Q := by
      intro n
      induction n with
      | zero =>
        intro k E hk hfr g0 g2 g3 g4
        refine sw_ge (n154_30 hX) ?_
        simp (disch := omega) only [sw_ite, ni_le, sw_some, g2]
        rw [if_pos (by omega), show k = 20 from by omega]
        refine hok h8 E hfr ⟨by rw [g2, List.length_append, md_b20_len, show k = 20 from by omega], by rw [List.length_append, md_b20_len]; exact h8, fun i hi => ?_, fun x hx => ?_⟩ g0
        · rw [List.length_append, md_b20_len] at hi
          rcases Nat.lt_or_ge i F.length with z | z
          · rw [md_nth_app1 z]; exact g3 i z
          · rw [md_nth_app3 z]
            have := g4 (i - F.length) (by omega)
            rw [show F.length + (i - F.length) = i from by omega] at this
            exact this
        · rcases List.mem_append.mp hx with z | z
          · exact f4 x z
          · exact md_b20_B x z
      | succ n ih =>
        intro k E hk hfr g0 g2 g3 g4
        have n83 : sw (sm_fx C 154 83 [.ref (X + 49), .int v1, .int v2, .int v3, .int v4, .int v5, .int (ni k), sm_junk] [.int (md_se v1 v2 v3 v4 v5 (k / 4))] E) Q := by
          refine sw_ge (n154_83 hX) ?_
          rw [md_sh20 k (by omega), nar_by, md_sh8 _ (by omega), ← md_b20_nth (by omega)]
          have e1 : (sm_dI E (X + 50) (F.length + k) (md_nth (md_b20 v1 v2 v3 v4 v5) k).toInt8.toInt32).1 (X + 49) 2 = ni (F.length + k) := by rw [dI_ne (by omega)]; exact g2
          simp (disch := omega) only [sw_gu, g2, ni_in, ni_nat]
          refine ⟨decide_eq_true (by omega), ?_⟩
          rw [up_ne (by omega), g2, ni_add, ni_add]
          refine ih (k + 1) _ (by omega) ((hfr.dI (by unfold sFd; omega)).dI (by unfold sFd; omega)) (by rw [dI_ne (by omega), dI_ne (by omega)]; exact g0) (by rw [dI_eq, Nat.add_assoc]) (fun i hi => ?_) (fun i hi => ?_)
          · rw [dI_ne (by omega), dI_ne (by omega)]; exact g3 i hi
          · rw [dI_ne (by omega)]
            by_cases hik : i = k
            · subst hik; rw [dI_eq]
            · rw [dI_ne (by omega)]; exact g4 i (by omega)
        refine sw_ge (n154_30 hX) ?_
        simp (disch := omega) only [sw_ite, ni_le]
        rw [if_neg (by omega)]
        by_cases h4 : 4 ≤ k
        · rw [if_pos h4]
          by_cases h8 : 8 ≤ k
          · rw [if_pos h8]
            by_cases h12 : 12 ≤ k
            · rw [if_pos h12]
              by_cases h16 : 16 ≤ k
              · rw [if_pos h16]
                rw [show k / 4 = 4 from by omega] at n83
                exact n83
              · rw [if_neg h16]
                rw [show k / 4 = 3 from by omega] at n83
                exact n83
            · rw [if_neg h12]
              rw [show k / 4 = 2 from by omega] at n83
              exact n83
          · rw [if_neg h8]
            rw [show k / 4 = 1 from by omega] at n83
            exact n83
        · rw [if_neg h4]
          rw [show k / 4 = 0 from by omega] at n83
          exact n83
    exact loop 20 0 E rfl (hf.mono (fun c j hc => by unfold s0 at hc; unfold sFd; omega)) h0 (by rw [hf.2 _ _ (by unfold s0; omega)]; exact f1) (fun i hi => by rw [hf.2 _ _ (by unfold s0; omega)]; exact f3 i hi) (fun i hi => by omega)
  · rw [if_pos (by omega)]
    refine sw_ge (n154_19 hX) ?_
    refine r155q hX (b := false) rfl (fun E hf h0 => ?_)
    rw [if_pos (show md_b false = ni 0 from rfl), sw_some]
    exact her h8 E hf h0
theorem RB.take (h : RB X F D) {k : Nat} (hk : k ≤ F.length) (h2 : E.1 (X + 49) 2 = ni k) (h50 : ∀ i, E.1 (X + 50) i = D.1 (X + 50) i) : RB X (F.take k) E := by
  obtain ⟨f1, f2, f3, f4⟩ := h
  have hl : (F.take k).length = k := by rw [List.length_take]; omega
  refine ⟨by rw [hl]; exact h2, by omega, fun i hi => ?_, fun x hx => f4 x (List.mem_of_mem_take hx)⟩
  rw [hl] at hi
  rw [h50, f3 i (by omega)]
  unfold md_nth
  rw [List.getD_eq_getElem?_getD, List.getD_eq_getElem?_getD, List.getElem?_take_of_lt hi]
theorem r156 (hX : sm_Lay C X) (hF : RB X F D) {v : Int32}
    (hok : ∀ k, ac_in v (F.length + 1) = some k → ∀ E, fr (sFd X) D E → RB X (F.take k) E → E.1 (X + 49) 0 = ni 0 → Q (.inl none) E)
    (her : ac_in v (F.length + 1) = none → ∀ E, fr (sFd X) D E → RB X F E → E.1 (X + 49) 0 = ni 1 → Q (.inl none) E) :
    sw (sm_fe C 156 [.ref (X + 49), .int v] D) Q := by
  obtain ⟨f1, f2, f3, f4⟩ := id hF
  refine sw_ge (f156 hX) ?_
  rw [sw_bi, f1, r157n (by omega), sw_some]
  show sw (sm_bi _ _) Q
  refine r155q hX rfl (fun E hf h0 => ?_)
  rw [sw_ite]
  simp only [md_b_0, sw_some]
  have hf2 : fr (sFd X) D E := hf.mono (fun c j hc => by unfold s0 at hc; unfold sFd; omega)
  cases h1 : ac_in v (F.length + 1) with
  | none =>
    rw [h1] at h0
    rw [if_pos (show Option.isSome (none : Option Nat) = false from rfl)]
    refine her h1 _ (hf2.dI (by unfold sFd; omega)) ⟨?_, f2, fun i hi => ?_, f4⟩ (by rw [dI_ne (by omega)]; exact h0)
    · rw [dI_eq, hf.2 _ _ (by unfold s0; omega)]; exact f1
    · rw [dI_ne (by omega), hf.2 _ _ (by unfold s0; omega)]; exact f3 i hi
  | some k =>
    rw [h1] at h0
    obtain ⟨hk, rfl⟩ := ac_in_some h1
    rw [if_neg (show ¬ (Option.isSome (some k) = false) by exact Bool.noConfusion)]
    exact hok k h1 _ (hf2.dI (by unfold sFd; omega)) (hF.take (by omega) dI_eq (fun i => by rw [dI_ne (by omega), hf.2 _ _ (by unfold s0; omega)])) (by rw [dI_ne (by omega)]; exact h0)
end RHM
