/-! ===== the reference: encoded words ===== -/
theorem ni_shr (a k : Nat) (ha : a < 2147483648) (hk : (Int32.toBitVec (ni k)).smod 32 = BitVec.ofNat 32 k) (h32 : k < 32) : ni a >>> ni k = ni (a / 2 ^ k) := by
  apply Int32.toBitVec_inj.mp
  show (BitVec.ofNat 32 a).sshiftRight' ((Int32.toBitVec (ni k)).smod 32) = BitVec.ofNat 32 (a / 2 ^ k)
  rw [hk]
  have hm : (BitVec.ofNat 32 a).msb = false := by
    rw [BitVec.msb_eq_false_iff_two_mul_lt, BitVec.toNat_ofNat, Nat.mod_eq_of_lt (by omega)]
    omega
  rw [BitVec.sshiftRight_eq', BitVec.sshiftRight_eq_of_msb_false hm]
  apply BitVec.eq_of_toNat_eq
  have hd : a / 2 ^ k < 4294967296 := Nat.lt_of_le_of_lt (Nat.div_le_self _ _) (by omega)
  rw [BitVec.toNat_ushiftRight, BitVec.toNat_ofNat, BitVec.toNat_ofNat, BitVec.toNat_ofNat, Nat.mod_eq_of_lt (show a < 2 ^ 32 by omega), Nat.mod_eq_of_lt (show k < 2 ^ 32 by omega), Nat.mod_eq_of_lt (show a / 2 ^ k < 2 ^ 32 from hd), Nat.shiftRight_eq_div_pow]
theorem ni_m255 (a : Nat) : ni a &&& ni 255 = ni (a % 256) := by
  rw [ni_and]; exact congrArg ni (Nat.and_two_pow_sub_one_eq_mod a 8)
theorem ni_m15 (a : Nat) : ni a &&& ni 15 = ni (a % 16) := by
  rw [ni_and]; exact congrArg ni (Nat.and_two_pow_sub_one_eq_mod a 4)
theorem ni_m3 (a : Nat) : ni a &&& ni 3 = ni (a % 4) := by
  rw [ni_and]; exact congrArg ni (Nat.and_two_pow_sub_one_eq_mod a 2)
theorem ni_orp {a c k : Nat} (hc : c < 2 ^ k) : ni (a * 2 ^ k) ||| ni c = ni (a * 2 ^ k + c) := by
  rw [ni_or]
  have := Nat.shiftLeft_add_eq_or_of_lt hc a
  rw [Nat.shiftLeft_eq] at this
  exact congrArg ni this.symm
def WB (X : Nat) (m : List Int32) (E : sm_D) : Prop := E.1 (X + 49) 57 = ni m.length ∧ ∀ i, i < m.length → E.1 (X + 83) i = md_nth m i
def sEn (X c j : Nat) : Prop := (c = X + 49 ∧ (j = 57 ∨ j = 59)) ∨ c = X + 83
section RGP
variable {C : sm_K} {X q0 : Nat} {D E : sm_D} {Q : (Option Value ⊕ Nat) → sm_D → Prop} {xs : List Int32}
theorem r217 {c : Int32} : sm_fe C 217 [.int c] D = some (.inl (some (.int (md_six c))), D) := by
  apply sw_eq
  refine sw_ge f217 ?_
  simp only [sw_bi, r157, r186, sw_some, sb_i, sw_ite, md_b_0]
  unfold md_six
  cases md_in c 65 90 <;> cases md_in c 97 122 <;> cases md_dg c <;> try rfl
  rw [if_pos rfl, if_pos rfl, if_pos rfl]
  simp only [Bool.false_eq_true, if_false]
  by_cases h1 : c = ni 43
  · rw [if_pos h1, if_pos h1]
  · rw [if_neg h1, if_neg h1]
    by_cases h2 : c = ni 47
    · rw [if_pos h2, if_pos h2]
    · rw [if_neg h2, if_neg h2]
theorem r220 {c : Int32} : sm_fe C 220 [.int c] D = some (.inl (some (.int (md_hex c))), D) := by
  apply sw_eq
  refine sw_ge f220 ?_
  simp only [sw_bi, r157, r186, sw_some, sb_i, sw_ite, md_b_0]
  unfold md_hex
  cases md_dg c
  · cases md_in c 65 70 <;> rfl
  · rfl
theorem md_six_64 (c : Int32) : md_six c = sm_k (-1) ∨ ∃ a, a < 64 ∧ md_six c = ni a := by
  unfold md_six
  by_cases h1 : md_in c 65 90 = true
  · obtain ⟨n, n1, n2, rfl⟩ := (md_in_iff (by omega) (by omega)).mp h1
    rw [if_pos h1, ni_sub n1]; exact Or.inr ⟨_, by omega, rfl⟩
  · rw [if_neg h1]
    by_cases h2 : md_in c 97 122 = true
    · obtain ⟨n, n1, n2, rfl⟩ := (md_in_iff (by omega) (by omega)).mp h2
      rw [if_pos h2, ni_sub n1, ni_add]; exact Or.inr ⟨_, by omega, rfl⟩
    · rw [if_neg h2]
      by_cases h3 : md_dg c = true
      · obtain ⟨n, n1, n2, rfl⟩ := md_dg_ni h3
        rw [if_pos h3, ni_sub n1, ni_add]; exact Or.inr ⟨_, by omega, rfl⟩
      · rw [if_neg h3]
        by_cases h4 : c = ni 43
        · rw [if_pos h4]; exact Or.inr ⟨62, by omega, rfl⟩
        · rw [if_neg h4]
          by_cases h5 : c = ni 47
          · rw [if_pos h5]; exact Or.inr ⟨63, by omega, rfl⟩
          · rw [if_neg h5]; exact Or.inl rfl
theorem md_hex_16 (c : Int32) : md_hex c = sm_k (-1) ∨ ∃ a, a < 16 ∧ md_hex c = ni a := by
  unfold md_hex
  by_cases h1 : md_dg c = true
  · obtain ⟨n, n1, n2, rfl⟩ := md_dg_ni h1
    rw [if_pos h1, ni_sub n1]; exact Or.inr ⟨_, by omega, rfl⟩
  · rw [if_neg h1]
    by_cases h2 : md_in c 65 70 = true
    · obtain ⟨n, n1, n2, rfl⟩ := (md_in_iff (by omega) (by omega)).mp h2
      rw [if_pos h2, ni_sub n1, ni_add]; exact Or.inr ⟨_, by omega, rfl⟩
    · rw [if_neg h2]; exact Or.inl rfl
theorem r214 (hX : sm_Lay C X) (hP : PLN X xs E) (hL : xs.length ≤ 8000) {n : Nat} (hn : n ≤ xs.length) : ∀ (m k : Nat), n - k ≤ m → k < 100000 → sm_fx C 214 2 [.ref (X + 49), sm_junk, .int (ni n), .int (ni k)] [] E = some (.inl (some (.int (if md_mark (md_nth xs) n k < n then ni (md_mark (md_nth xs) n k) else sm_k (-1)))), E) := by
  intro m
  induction m with
  | zero =>
    intro k hm hk
    apply sw_eq
    refine sw_ge (n214_2 hX) ?_
    simp (disch := omega) only [sw_ite, ni_le, sw_some]
    have em : md_mark (md_nth xs) n k = k := by rw [md_mark, if_neg (fun g => by omega)]
    rw [if_pos (by omega), em, if_neg (by omega)]
  | succ m ih =>
    intro k hm hk
    by_cases hkn : k < n
    · apply sw_eq
      refine sw_ge (n214_2 hX) ?_
      simp (disch := omega) only [sw_ite, ni_le, sw_some, sw_gu, ni_in, ni_nat, hP.2 k (by omega), ni_add]
      rw [if_neg (by omega)]
      refine ⟨decide_eq_true (by omega), ?_⟩
      by_cases h63 : md_nth xs k = ni 63
      · have em : md_mark (md_nth xs) n k = k := by rw [md_mark, if_neg (fun g => g.2 h63)]
        rw [if_pos h63, em, if_pos hkn]
      · have em : md_mark (md_nth xs) n k = md_mark (md_nth xs) n (k + 1) := by rw [md_mark, if_pos ⟨hkn, h63⟩]
        rw [if_neg h63, em, ih (k + 1) (by omega) (by omega), sw_some]
    · apply sw_eq
      refine sw_ge (n214_2 hX) ?_
      simp (disch := omega) only [sw_ite, ni_le, sw_some]
      have em : md_mark (md_nth xs) n k = k := by rw [md_mark, if_neg (fun g => hkn g.1)]
      rw [if_pos (by omega), em, if_neg hkn]
theorem r214' (hX : sm_Lay C X) (hP : PLN X xs E) (hL : xs.length ≤ 8000) {n k : Nat} (hn : n ≤ xs.length) (hk : k < 100000) : sm_fe C 214 [.ref (X + 49), .int (ni k), .int (ni n)] E = some (.inl (some (.int (if md_mark (md_nth xs) n k < n then ni (md_mark (md_nth xs) n k) else sm_k (-1)))), E) := by
  apply sw_eq
  refine sw_ge (f214 hX) ?_
  rw [r214 hX hP hL hn n k (by omega) hk, sw_some]
theorem r215 (hX : sm_Lay C X) (hP : PLN X xs E) (hL : xs.length ≤ 8000) {s c n : Nat} {w : List Int32} (hs : st C s w) (hc : c ≤ n) (hn : n ≤ xs.length) : sm_fe C 215 [.ref (X + 49), .int (ni c), .int (ni n), .ref s] E = some (.inl (some (.int (md_b (decide (n - c = w.length) && md_at (md_nth xs) c w)))), E) := by
  obtain ⟨u, h1, -, -, h4, -⟩ := id hs
  have loop : ∀ (m k : Nat) (fl : Bool), k + m = n - c → n - c = w.length → sm_fx C 215 20 [.ref (X + 49), .int (ni c), .int (ni n), .ref s, .int (md_b fl), .int (ni (c + k))] [] E = some (.inl (some (.int (md_b (fl && md_at (md_nth xs) (c + k) (w.drop k))))), E) := by
    intro m
    induction m with
    | zero =>
      intro k fl hk hw
      apply sw_eq
      refine sw_ge (n215_20 hX h1) ?_
      simp (disch := omega) only [sw_ite, sw_some, ni_le]
      rw [if_pos (by omega), List.drop_of_length_le (by omega), nar_bb, md_at, Bool.and_true]
    | succ m ih =>
      intro k fl hk hw
      have hk2 : k < w.length := by omega
      have hsub : ni (c + k) - ni c = ni k := by rw [ni_sub (by omega)]; congr 1; omega
      apply sw_eq
      refine sw_ge (n215_20 hX h1) ?_
      simp (disch := omega) only [sw_ite, sw_some, ni_le, hsub, ni_add, sw_gu, ni_in, ni_nat, sw_bi, r168, sb_i, s262 hs hk2, hP.2 (c + k) (by omega)]
      rw [if_neg (by omega)]
      cases fl
      · rw [if_pos (show md_b false = ni 0 from rfl), nar_bb, Bool.false_and]
      · rw [if_neg (by decide)]
        refine ⟨decide_eq_true (by omega), ?_⟩
        have e1 := ih (k + 1) true (by omega) hw
        have e0 := ih (k + 1) false (by omega) hw
        rw [show md_b true = ni 1 from rfl] at e1
        rw [show md_b false = ni 0 from rfl] at e0
        rw [← Nat.add_assoc] at e1 e0
        simp only [e1, e0, sw_some]
        rw [List.drop_eq_getElem_cons hk2, md_at_cons, Bool.true_and, ← md_nth_get hk2]
        split
        · next g => rw [decide_eq_true g, Bool.true_and, Bool.true_and]
        · next g => rw [decide_eq_false g, Bool.false_and]; rfl
  apply sw_eq
  refine sw_ge (f215 hX h1) ?_
  simp (disch := omega) only [sw_bi, s260 h1, sw_some, sb_i, sw_ite, ni_sub hc, ni_inj]
  by_cases hw : n - c = w.length
  · rw [if_pos hw]
    refine sw_ge (n215_15 hX h1) ?_
    have := loop (n - c) 0 true (by omega) hw
    rw [show md_b true = ni 1 from rfl] at this
    simp only [Nat.add_zero] at this
    rw [this, sw_some, decide_eq_true hw, List.drop_zero]
  · rw [if_neg hw]
    refine sw_ge (n215_15 hX h1) ?_
    refine sw_ge (n215_20 hX h1) ?_
    simp (disch := omega) only [sw_ite, sw_some, ni_le, if_true]
    rw [decide_eq_false hw, Bool.false_and, show ni 0 = md_b false from rfl, nar_bb]
    split <;> trivial
theorem r218 (hX : sm_Lay C X) {m : List Int32} (hW : WB X m E) (hm : m.length < 80) {v : Int32} (hq : ∀ E', fr (sEn X) E E' → WB X (m ++ [v &&& ni 255]) E' → (∀ j, j ≠ 57 → E'.1 (X + 49) j = E.1 (X + 49) j) → Q (.inl none) E') : sw (sm_fe C 218 [.ref (X + 49), .int v] E) Q := by
  refine sw_ge (f218 hX) ?_
  have e1 : sm_up E.1 (X + 83) m.length (v &&& ni 255) (X + 49) 57 = ni m.length := by rw [up_ne (by omega)]; exact hW.1
  simp (disch := omega) only [sw_gu, hW.1, ni_in, ni_nat, e1, ni_add, sw_some]
  refine ⟨decide_eq_true hm, hq _ ((fr.refl.dI (Or.inr rfl)).dI (Or.inl ⟨rfl, Or.inl rfl⟩)) ⟨by rw [dI_eq, List.length_append]; rfl, fun i hi => ?_⟩ (fun j hj => by rw [dI_ne (by omega), dI_ne (by omega)])⟩
  rw [List.length_append, List.length_singleton] at hi
  rw [dI_ne (by omega), md_nth_sn hi]
  split
  · next g => subst g; rw [dI_eq]
  · next g => rw [dI_ne (by omega), hW.2 i (by omega)]
theorem PLN.fr {S : Nat → Nat → Prop} (h : PLN X xs D) (g : fr S D E) (hS : ∀ c j, S c j → ¬ (c = X + 82 ∨ (c = X + 49 ∧ j = 55))) : PLN X xs E := ⟨by rw [g.2 _ _ (fun z => hS _ _ z (Or.inr ⟨rfl, rfl⟩))]; exact h.1, fun i hi => by rw [g.2 _ _ (fun z => hS _ _ z (Or.inl rfl))]; exact h.2 i hi⟩
theorem sEn_P : ∀ c j, sEn X c j → ¬ (c = X + 82 ∨ (c = X + 49 ∧ j = 55)) := by intro c j h; unfold sEn at h; omega
/-- a quoted word -/
theorem r219 (hX : sm_Lay C X) (hL : xs.length ≤ 8000) {n : Nat} (hn : n ≤ xs.length) (hpr : ∀ j, j < n → md_in (md_nth xs j) 33 126 = true ∨ j < q0) {D0 : sm_D} :
    ∀ (m k : Nat) (acc : List Int32) (E : sm_D), n - k ≤ m → q0 ≤ k → k < 100000 → PLN X xs E → WB X acc E → acc.length + (n - k) ≤ 80 → fr (sEn X) D0 E →
    (∀ ys, md_mQ (md_nth xs) n k = some ys → ∀ E', fr (sEn X) D0 E' → WB X (acc ++ ys) E' → E'.1 (X + 49) 59 = E.1 (X + 49) 59 → Q (.inl (some (.int (ni 1)))) E') →
    (md_mQ (md_nth xs) n k = none → ∀ E', fr (sEn X) D0 E' → Q (.inl (some (.int (ni 0)))) E') →
    sw (sm_fx C 219 2 [.ref (X + 49), sm_junk, .int (ni n), .int (ni k), sm_junk] [] E) Q := by
  intro m
  induction m with
  | zero =>
    intro k acc E hm hk0 hk hP hW hb hfr hok her
    rw [md_mQ, if_neg (by omega)] at hok
    refine sw_ge (n219_2 hX) ?_
    simp (disch := omega) only [sw_ite, ni_le, sw_some, nar_b1]
    rw [if_pos (by omega)]
    exact hok [] rfl E hfr (by rw [List.append_nil]; exact hW) rfl
  | succ m ih =>
    intro k acc E hm hk0 hk hP hW hb hfr hok her
    by_cases hkn : k < n
    · rw [md_mQ, if_pos hkn] at hok her
      refine sw_ge (n219_2 hX) ?_
      have hin : md_in (md_nth xs k) 33 126 = true := (hpr k hkn).elim id (fun g => by omega)
      obtain ⟨cn, c1, c2, hcn⟩ := (md_in_iff (by omega) (by omega)).mp hin
      simp (disch := omega) only [sw_ite, ni_le, sw_some, nar_b0, sw_gu, ni_in, ni_nat, hP.2 k (by omega), sw_bi, r157, sb_i, hin, md_b_0, ni_add]
      rw [if_neg (by omega), if_neg (fun g => nomatch g)]
      refine ⟨decide_eq_true (by omega), ?_⟩
      by_cases h61 : md_nth xs k = ni 61
      · rw [if_pos h61]
        rw [if_pos h61] at hok her
        by_cases hk2 : k + 2 < n
        · rw [if_neg (by omega)]
          simp (disch := omega) only [hP.2 (k + 1) (by omega), hP.2 (k + 2) (by omega), ni_in, r220, sw_some, sb_i, sw_ite, sw_gu, sw_bi, ni_nat, sw_bv]
          refine ⟨decide_eq_true (by omega), ?_⟩
          unfold md_hx at hok her
          rcases md_hex_16 (md_nth xs (k + 1)) with g1 | ⟨a1, b1, g1⟩
          · rw [if_pos g1]
            rw [if_neg (fun g => g.2 (by rw [if_pos (Or.inl g1)]))] at her
            exact her rfl E hfr
          · rw [if_neg (by rw [g1, ni_ne_k (by omega)]; exact id)]
            refine ⟨decide_eq_true (by omega), ?_⟩
            rcases md_hex_16 (md_nth xs (k + 2)) with g2 | ⟨a2, b2, g2⟩
            · rw [if_pos g2]
              rw [if_neg (fun g => g.2 (by rw [if_pos (Or.inr g2)]))] at her
              exact her rfl E hfr
            · rw [if_neg (by rw [g2, ni_ne_k (by omega)]; exact id)]
              have hx : ¬ (md_hex (md_nth xs (k + 1)) = sm_k (-1) ∨ md_hex (md_nth xs (k + 2)) = sm_k (-1)) := by
                rw [g1, g2, ni_ne_k (by omega), ni_ne_k (by omega)]; exact fun g => g.elim id id
              rw [if_neg hx] at hok her
              rw [g1, g2, ni_mul, ni_add] at hok her
              rw [if_pos ⟨hk2, cast (ni_ne_k (show 16 * a1 + a2 < 2147483648 by omega))⟩] at hok her
              refine ⟨decide_eq_true (by omega), decide_eq_true (by omega), ?_⟩
              rw [g1, g2, ni_mul, ni_add]
              refine r218 hX hW (by omega) (fun E2 hfr2 hW2 h59 => ?_)
              simp only [sb_v]
              have e255 : ni (16 * a1 + a2) &&& ni 255 = ni (16 * a1 + a2) := by rw [ni_m255]; congr 1; omega
              rw [e255] at hW2
              refine ih (k + 3) _ E2 (by omega) (by omega) (by omega) (hP.fr hfr2 sEn_P) hW2 (by rw [List.length_append, List.length_singleton]; omega) (hfr.trans hfr2) (fun ys hy E' hE' hWE h59' => ?_) (fun hy E' hE' => her (by rw [hy]; rfl) E' hE')
              refine hok (ni (16 * a1 + a2) :: ys) (by rw [hy]; rfl) E' hE' ?_ (by rw [h59', h59 _ (by omega)])
              rw [List.append_assoc, List.singleton_append] at hWE
              exact hWE
        · rw [if_pos (by omega)]
          rw [if_neg (fun g => hk2 g.1)] at her
          exact her rfl E hfr
      · rw [if_neg h61]
        rw [if_neg h61] at hok her
        have n127 : ∀ v : Int32, v = (if md_nth xs k = ni 95 then ni 32 else md_nth xs k) → sw (sm_fx C 219 127 [.ref (X + 49), sm_junk, .int (ni n), .int (ni k), sm_junk] [.int v, .ref (X + 49)] E) Q := by
          intro v hv
          refine sw_ge (n219_127 hX) ?_
          simp only [sw_bv]
          refine r218 hX hW (by omega) (fun E2 hfr2 hW2 h59 => ?_)
          simp only [sb_v, ni_add]
          have e255 : v &&& ni 255 = v := by
            rw [hv]
            split
            · rfl
            · rw [hcn, ni_m255]; congr 1; omega
          rw [e255, hv] at hW2
          refine ih (k + 1) _ E2 (by omega) (by omega) (by omega) (hP.fr hfr2 sEn_P) hW2 (by rw [List.length_append, List.length_singleton]; omega) (hfr.trans hfr2) (fun ys hy E' hE' hWE h59' => ?_) (fun hy E' hE' => her (by rw [hy]; rfl) E' hE')
          refine hok _ (by rw [hy]; rfl) E' hE' ?_ (by rw [h59', h59 _ (by omega)])
          rw [List.append_assoc, List.singleton_append] at hWE
          exact hWE
        by_cases h95 : md_nth xs k = ni 95
        · rw [if_pos h95]; exact n127 _ (by rw [if_pos h95])
        · rw [if_neg h95]; exact n127 _ (by rw [if_neg h95])
    · rw [md_mQ, if_neg hkn] at hok
      refine sw_ge (n219_2 hX) ?_
      simp (disch := omega) only [sw_ite, ni_le, sw_some, nar_b1]
      rw [if_pos (by omega)]
      exact hok [] rfl E hfr (by rw [List.append_nil]; exact hW) rfl
end RGP
