/-! ===== the law's loop ===== -/
section LXL
variable {C : sm_K} {X b L I t t' : Nat} {D : sm_D}
/-- the block of read -/
theorem lb_2 (h : LB C X b L I D) (hs : STr C X 16 D) {w5 w6 w7 : Value} : ∃ C' t2 t2' D2, (C'.1 = C.1 ∧ C'.2.1 = C.2.1 ∧ C'.2.2.2 = C.2.2.2 ∧ C'.2.2.1.1 = C.2.2.1.1) ∧ JK C' X t2 t2' D2 ∧ gr D D2 ∧ lx_ex (sm_ev C.1 C.2.1 false 16) 264 [.ref b, .ref X, .ref (X + 49), .ref (X + 89), .int (ni I), w5, w6, w7] [] (C.2.2.1, D) = lx_ex (sm_ev C.1 C.2.1 false 16) 1216 [.ref b, .ref X, .ref (X + 49), .ref (X + 89), .int (ni I), w5, w6, w7] [] (C'.2.2.1, D2) := by
  obtain ⟨hX, hl, hb, hsh, hI, hL⟩ := h
  obtain ⟨v, C', D1, D2, t2, t2', e1, h2, ⟨q1, q2, q3, q4⟩, l1, h5, h6⟩ := hs
  have e2 := (sm_fe_ev (S := (C'.2.2.1, D1)) (q := false) (d := 16) rfl l1 (by decide) h2).1
  rw [q1, q2] at e2
  refine ⟨C', t2, t2', D2, ⟨q1, q2, q3, q4⟩, h5, h6, ?_⟩
  refine Eq.trans (lx_p (pc' := 265) (lv' := [.ref b, .ref X, .ref (X + 49), .ref (X + 89), .int (ni I), w5, w6, w7]) (st' := [.ref X]) lx_z2 0 1 rfl) ?_
  refine Eq.trans (lx_V lx_z2 1 rfl lxk_88 lxv_1 lxn_1 rfl rfl rfl rfl (hX.s 0 rfl) e1) ?_
  refine Eq.trans (lx_p (pc' := 269) (lv' := [.ref b, .ref X, .ref (X + 49), .ref (X + 89), .int (ni I), w5, w6, w7]) (st' := [.ref (X + 49), .int v]) lx_z2 2 1 rfl) ?_
  refine Eq.trans (lx_V lx_z2 3 rfl lxk_91 lxv_158 lxn_158 rfl rfl rfl rfl (by show C'.2.2.1.1 (X + 49) = _; rw [q4]; exact hX.s 49 rfl) e2) ?_
  refine Eq.trans (lx_ic lx_z2 4 rfl (t := 1216) (by decide)) ?_
  rw [lx_eq, if_pos rfl]
def lx_h : List (Nat × Instr × Nat) := [(23, .iload 4, 2), (25, .aload_n 0, 1), (26, .arraylength, 1), (27, .bipush 6, 2), (29, .isub, 1), (30, .if_icmp .gt 1192, 3), (33, .aload_n 0, 1), (34, .iload 4, 2), (36, .iaload, 1), (37, .bipush 31, 2), (39, .iand, 1), (40, .tableswitch 1176 0 16 #[84, 188, 224, 237, 305, 373, 441, 509, 601, 681, 773, 829, 884, 940, 1032, 1076, 1132], 84), (1216, .iinc 4 6, 3), (1219, .goto (-1196), 3), (1222, .iconst 1, 1), (1223, .ireturn, 1)]
theorem lx_zh : lx_in lx_h := lx_in_of (by decide +kernel)
theorem lx_ts {call : sm_F'} {lv st : List Value} {S : sm_S} {v : Int32} {T : Nat} (h : sp_tsw 1176 0 16 #[84, 188, 224, 237, 305, 373, 441, 509, 601, 681, 773, 829, 884, 940, 1032, 1076, 1132] 40 lv (.int v :: st) = some (T, lv, st)) : lx_ex call 40 lv (.int v :: st) S = lx_ex call T lv st S := lx_go (lx_pu (lx_at lx_zh 11 rfl) h)
theorem lx_31 (x : Int32) : ∃ n, n < 32 ∧ x &&& ni 31 = ni n := by
  have h1 : (x &&& ni 31).toBitVec.toNat < 32 := by
    show (x.toBitVec &&& (ni 31).toBitVec).toNat < 32
    rw [BitVec.toNat_and]
    exact Nat.lt_of_le_of_lt Nat.and_le_right (by decide)
  refine ⟨(x &&& ni 31).toBitVec.toNat, h1, ?_⟩
  apply Int32.toBitVec_inj.mp
  apply BitVec.eq_of_toNat_eq
  show _ = (BitVec.ofNat 32 _).toNat
  rw [BitVec.toNat_ofNat]
  omega
theorem lx_gt (hI : I ≤ L) (hL : L ≤ 3072) : (ni L - ni 6 < ni I) = (L < I + 6) := by
  by_cases h : 6 ≤ L
  · rw [ni_sub h, ni_lt (by omega) (by omega)]
    exact propext ⟨fun z => by omega, fun z => by omega⟩
  · have g : ∀ l, l < 6 → ∀ i, i < 6 → ni l - ni 6 < ni i := by decide
    exact propext ⟨fun _ => by omega, fun _ => g L (by omega) I (by omega)⟩
/-- what holds at the loop's head -/
def LH (C : sm_K) (X b L : Nat) (D : sm_D) : Prop := sm_Lay C X ∧ (∀ a, a < C.2.1 → D.1 a = C.2.2.2 a) ∧ b < C.2.1 ∧ C.2.2.1.1 b = some (.inr (.int, L)) ∧ L ≤ 3072
theorem JK.low (h : JK C X t t' D) : sm_Lay C X ∧ ∀ a, a < C.2.1 → D.1 a = C.2.2.2 a := by
  obtain ⟨F, T, N, m, W, h⟩ := h
  exact ⟨h.1.1, h.2.2.2.2⟩
/-- the law's own variables -/
abbrev lw_v (b X I : Nat) (w5 w6 w7 : Value) : List Value := [.ref b, .ref X, .ref (X + 49), .ref (X + 89), .int (ni I), w5, w6, w7]
def TN (C : sm_K) (X b I : Nat) (D : sm_D) (pc : Nat) (st : List Value) (w5 w6 w7 : Value) : Prop := ∃ C' t2 t2' D2 u5 u6 u7, (C'.1 = C.1 ∧ C'.2.1 = C.2.1 ∧ C'.2.2.2 = C.2.2.2 ∧ C'.2.2.1.1 = C.2.2.1.1) ∧ JK C' X t2 t2' D2 ∧ gr D D2 ∧ lx_ex (sm_ev C.1 C.2.1 false 16) pc (lw_v b X I w5 w6 w7) st (C.2.2.1, D) = lx_ex (sm_ev C.1 C.2.1 false 16) 1216 (lw_v b X I u5 u6 u7) [] (C'.2.2.1, D2)
theorem tn_go {T n : Nat} {w5 w6 w7 : Value} (hsw : sp_tsw 1176 0 16 #[84, 188, 224, 237, 305, 373, 441, 509, 601, 681, 773, 829, 884, 940, 1032, 1076, 1132] 40 (lw_v b X I w5 w6 w7) [.int (ni n)] = some (T, lw_v b X I w5 w6 w7, [])) (h : ∃ D2 u5 u6 u7, JK C X t t' D2 ∧ gr D D2 ∧ lx_ex (sm_ev C.1 C.2.1 false 16) T (lw_v b X I w5 w6 w7) [] (C.2.2.1, D) = lx_ex (sm_ev C.1 C.2.1 false 16) 1216 (lw_v b X I u5 u6 u7) [] (C.2.2.1, D2)) : TN C X b I D 40 [.int (ni n)] w5 w6 w7 := by
  obtain ⟨D2, u5, u6, u7, g1, g2, g3⟩ := h
  exact ⟨C, t, t', D2, u5, u6, u7, ⟨rfl, rfl, rfl, rfl⟩, g1, g2, (lx_ts hsw).trans g3⟩
/-- one turn -/
theorem lx_turn (h : LB C X b L I D) (hj : JK C X t t' D) {w5 w6 w7 : Value} (n : Nat) (hn : n < 32) : TN C X b I D 40 [.int (ni n)] w5 w6 w7 := by
  obtain ⟨F, T, N, m, W, hr⟩ := id hj
  match n, hn with
  | 0, _ => exact tn_go rfl (lb_0 h (st_feed hr))
  | 1, _ => exact tn_go rfl (lb_1 h (st_ende hr))
  | 2, _ =>
    obtain ⟨C', t2, t2', D2, q, g1, g2, g3⟩ := lb_2 (w5 := w5) (w6 := w6) (w7 := w7) h (st_read hr (by decide))
    exact ⟨C', t2, t2', D2, w5, w6, w7, q, g1, g2, (lx_ts rfl).trans g3⟩
  | 3, _ => exact tn_go rfl (lb_3 h (st_entity hr))
  | 4, _ => exact tn_go rfl (lb_4 h (st_part hr))
  | 5, _ => exact tn_go rfl (lb_5 h (st_octet hr))
  | 6, _ => exact tn_go rfl (lb_6 h (st_kind hr))
  | 7, _ => exact tn_go rfl (lb_7 h (st_letter hr))
  | 8, _ => exact tn_go rfl (lb_8 h (st_type hr))
  | 9, _ => exact tn_go rfl (lb_9 h (st_param hr))
  | 10, _ => exact tn_go rfl (lb_10 h (st_subject hr))
  | 11, _ => exact tn_go rfl (lb_11 h (st_date hr))
  | 12, _ => exact tn_go rfl (lb_12 h (st_addrs hr))
  | 13, _ => exact tn_go rfl (lb_13 h (st_addr hr))
  | 14, _ => exact tn_go rfl (lb_14 h (st_write hr))
  | 15, _ => exact tn_go rfl (lb_15 h (st_out hr))
  | 16, _ => exact tn_go rfl (lb_16 h (st_again hr))
  | n + 17, hn =>
    refine ⟨C, t, t', D, w5, w6, w7, ⟨rfl, rfl, rfl, rfl⟩, hj, ⟨by omega, by omega⟩, lx_ts ?_⟩
    unfold sp_tsw
    dsimp only
    rw [if_pos (by rw [ni_toInt (by omega)]; right; omega)]
    rfl
set_option maxRecDepth 20000 in
theorem lx_loop : ∀ (n I : Nat) (C : sm_K) (t t' : Nat) (D : sm_D) (w5 w6 w7 : Value), LH C X b L D → JK C X t t' D → I ≤ L → L ≤ I + 6 * n + 5 → ∃ S', lx_ex (sm_ev C.1 C.2.1 false 16) 23 (lw_v b X I w5 w6 w7) [] (C.2.2.1, D) = some (.inl (some (.int 1)), S') ∧ sm_n S' ≤ D.2.2.2.1 + n ∧ sm_u S' ≤ D.2.2.2.2 + 6 * n := by
  intro n
  induction n with
  | zero =>
    intro I C t t' D w5 w6 w7 h hj hI hn
    obtain ⟨hX, hl, hb, hsh, hL⟩ := h
    refine ⟨(C.2.2.1, D), ?_, Nat.le_refl _, Nat.le_refl _⟩
    refine Eq.trans (lx_p (pc' := 26) (lv' := lw_v b X I w5 w6 w7) (st' := [.ref b, .int (ni I)]) lx_zh 0 2 rfl) ?_
    refine Eq.trans (lx_len lx_zh 2 rfl hsh) ?_
    refine Eq.trans (lx_p (pc' := 30) (lv' := lw_v b X I w5 w6 w7) (st' := [.int (ni L - ni 6), .int (ni I)]) lx_zh 3 2 rfl) ?_
    refine Eq.trans (lx_ic lx_zh 5 rfl (t := 1222) (by decide)) ?_
    rw [if_pos (show sm_cmp .gt (ni I) (ni L - ni 6) = true from decide_eq_true (p := ni L - ni 6 < ni I) (by rw [lx_gt hI hL]; omega))]
    refine Eq.trans (lx_p (pc' := 1223) (lv' := lw_v b X I w5 w6 w7) (st' := [.int (ni 1)]) lx_zh 14 1 rfl) ?_
    exact lx_R lx_zh 15 rfl
  | succ n ih =>
    intro I C t t' D w5 w6 w7 h hj hI hn
    have h' := h
    obtain ⟨hX, hl, hb, hsh, hL⟩ := h'
    have head : lx_ex (sm_ev C.1 C.2.1 false 16) 23 (lw_v b X I w5 w6 w7) [] (C.2.2.1, D) = lx_ex (sm_ev C.1 C.2.1 false 16) (if sm_cmp .gt (ni I) (ni L - ni 6) = true then 1222 else 33) (lw_v b X I w5 w6 w7) [] (C.2.2.1, D) := by
      refine Eq.trans (lx_p (pc' := 26) (lv' := lw_v b X I w5 w6 w7) (st' := [.ref b, .int (ni I)]) lx_zh 0 2 rfl) ?_
      refine Eq.trans (lx_len lx_zh 2 rfl hsh) ?_
      refine Eq.trans (lx_p (pc' := 30) (lv' := lw_v b X I w5 w6 w7) (st' := [.int (ni L - ni 6), .int (ni I)]) lx_zh 3 2 rfl) ?_
      exact lx_ic lx_zh 5 rfl (t := 1222) (by decide)
    by_cases hlt : L < I + 6
    · refine ⟨(C.2.2.1, D), ?_, by show D.2.2.2.1 ≤ _; omega, by show D.2.2.2.2 ≤ _; omega⟩
      refine Eq.trans head ?_
      rw [if_pos (show sm_cmp .gt (ni I) (ni L - ni 6) = true from decide_eq_true (p := ni L - ni 6 < ni I) (by rw [lx_gt hI hL]; omega))]
      refine Eq.trans (lx_p (pc' := 1223) (lv' := lw_v b X I w5 w6 w7) (st' := [.int (ni 1)]) lx_zh 14 1 rfl) ?_
      exact lx_R lx_zh 15 rfl
    · obtain ⟨c, hc, ec⟩ := lx_31 (D.1 b (ni I).toNatClampNeg)
      obtain ⟨C', t2, t2', D2, u5, u6, u7, ⟨q1, q2, q3, q4⟩, g1, g2, g3⟩ := lx_turn (w5 := w5) (w6 := w6) (w7 := w7) (I := I) ⟨hX, hl, hb, hsh, by omega, hL⟩ hj c hc
      have lh : LH C' X b L D2 := ⟨g1.low.1, g1.low.2, by rw [q2]; exact hb, by rw [q4]; exact hsh, hL⟩
      obtain ⟨S', s1, s2, s3⟩ := ih (I + 6) C' t2 t2' D2 u5 u6 u7 lh g1 (by omega) (by omega)
      refine ⟨S', ?_, by unfold gr at g2; omega, by unfold gr at g2; omega⟩
      refine Eq.trans head ?_
      rw [if_neg (show ¬ sm_cmp .gt (ni I) (ni L - ni 6) = true from fun z => by have z2 : ni L - ni 6 < ni I := of_decide_eq_true z; rw [lx_gt hI hL] at z2; omega)]
      refine Eq.trans (lx_p (pc' := 36) (lv' := lw_v b X I w5 w6 w7) (st' := [.int (ni I), .ref b]) lx_zh 6 2 rfl) ?_
      refine Eq.trans (lx_al lx_zh 8 rfl hsh (by rw [ni_in (by omega)]; exact decide_eq_true (by omega))) ?_
      refine Eq.trans (lx_p (pc' := 40) (lv' := lw_v b X I w5 w6 w7) (st' := [.int (D.1 b (ni I).toNatClampNeg &&& ni 31)]) lx_zh 9 2 rfl) ?_
      rw [ec]
      refine Eq.trans g3 ?_
      refine Eq.trans (lx_p (pc' := 23) (lv' := [.ref b, .ref X, .ref (X + 49), .ref (X + 89), .int (ni I + ni 6), u5, u6, u7]) (st' := []) lx_zh 12 2 rfl) ?_
      rw [ni_add, ← q1, ← q2]
      exact s1
end LXL
