/-! ===== the blocks of the law's loop ===== -/
def lx_b0 : List (Nat × Instr × Nat) := [(124, .aload_n 1, 1), (125, .aload_n 0, 1), (126, .iload 4, 2), (128, .iconst 1, 1), (129, .iadd, 1), (130, .iaload, 1), (131, .aload_n 0, 1), (132, .iload 4, 2), (134, .iconst 2, 1), (135, .iadd, 1), (136, .iaload, 1), (137, .aload_n 0, 1), (138, .iload 4, 2), (140, .iconst 3, 1), (141, .iadd, 1), (142, .iaload, 1), (143, .aload_n 0, 1), (144, .iload 4, 2), (146, .iconst 4, 1), (147, .iadd, 1), (148, .iaload, 1), (149, .aload_n 0, 1), (150, .iload 4, 2), (152, .iconst 5, 1), (153, .iadd, 1), (154, .iaload, 1), (155, .aload_n 3, 1), (156, .invokestatic 75, 3), (159, .istore 5, 2), (161, .aload_n 2, 1), (162, .aload_n 0, 1), (163, .iload 4, 2), (165, .iconst 1, 1), (166, .iadd, 1), (167, .iaload, 1), (168, .aload_n 0, 1), (169, .iload 4, 2), (171, .iconst 2, 1), (172, .iadd, 1), (173, .iaload, 1), (174, .aload_n 0, 1), (175, .iload 4, 2), (177, .iconst 3, 1), (178, .iadd, 1), (179, .iaload, 1), (180, .aload_n 0, 1), (181, .iload 4, 2), (183, .iconst 4, 1), (184, .iadd, 1), (185, .iaload, 1), (186, .aload_n 0, 1), (187, .iload 4, 2), (189, .iconst 5, 1), (190, .iadd, 1), (191, .iaload, 1), (192, .invokevirtual 80, 3), (195, .istore 6, 2), (197, .aload_n 2, 1), (198, .invokevirtual 81, 3), (201, .iload 5, 2), (203, .if_icmp .eq 5, 3), (206, .iconst 0, 1), (207, .ireturn, 1), (208, .iload 5, 2), (210, .ifCond .ne 15, 3), (213, .aload_n 3, 1), (214, .iconst 0, 1), (215, .laload, 1), (216, .iload 6, 2), (218, .i2l, 1), (219, .lcmp, 1), (220, .ifCond .eq 5, 3), (223, .iconst 0, 1), (224, .ireturn, 1), (225, .goto 991, 3)]
theorem lx_z0 : lx_in lx_b0 := lx_in_of (by decide +kernel)
theorem lxk_75 : sm_lk 14 75 267 = true := by decide +kernel
theorem lxv_267 : (sm_m 267).2.1.2.2 = true := by decide +kernel
theorem lxn_267 : sm_na 267 = 7 := by decide +kernel
theorem lxk_80 : sm_lk 14 80 154 = true := by decide +kernel
theorem lxv_154 : ((sm_m 154).2.1.2.2 = false ∧ ¬ (sm_m 154).1.1.name = "<init>") ∧ (sm_m 154).2.1.1 < 14 := by decide +kernel
theorem lxn_154 : sm_na 154 = 5 := by decide +kernel
theorem lxk_81 : sm_lk 14 81 153 = true := by decide +kernel
theorem lxv_153 : ((sm_m 153).2.1.2.2 = false ∧ ¬ (sm_m 153).1.1.name = "<init>") ∧ (sm_m 153).2.1.1 < 14 := by decide +kernel
theorem lxn_153 : sm_na 153 = 0 := by decide +kernel
set_option maxRecDepth 8000 in
theorem lb_0 {C : sm_K} {X b L I t t' : Nat} {D : sm_D} (h : LB C X b L I D) (hs : ST C X t t' 267 154 [.int (lb_g C b I 1), .int (lb_g C b I 2), .int (lb_g C b I 3), .int (lb_g C b I 4), .int (lb_g C b I 5)] D) {w5 w6 w7 : Value} : ∃ D2 u5 u6 u7, JK C X t t' D2 ∧ gr D D2 ∧ lx_ex (sm_ev C.1 C.2.1 false 16) 124 [.ref b, .ref X, .ref (X + 49), .ref (X + 89), .int (ni I), w5, w6, w7] [] (C.2.2.1, D) = lx_ex (sm_ev C.1 C.2.1 false 16) 1216 [.ref b, .ref X, .ref (X + 49), .ref (X + 89), .int (ni I), u5, u6, u7] [] (C.2.2.1, D2) := by
  obtain ⟨hX, hl, hb, hsh, hI, hL⟩ := h
  obtain ⟨k, D1, v, D2, h1, h2, h3, h4, h5, h6⟩ := hs
  obtain ⟨e1, l1⟩ := sm_fe_ev (S := (C.2.2.1, D)) (q := false) (d := 16) rfl hl (by decide) h1
  obtain ⟨e2, l2⟩ := sm_fe_ev (S := (C.2.2.1, D1)) (q := false) (d := 16) rfl l1 (by decide) h2
  have e3 := (sm_fe_ev (S := (C.2.2.1, D2)) (q := false) (d := 16) rfl l2 (by decide) (r153 hX)).1
  rw [show (C.2.2.1, D2).2.1 (X + 49) 0 = k from h3] at e3
  refine ⟨D2, .int k, .int v, w7, h5, h6, ?_⟩
  refine Eq.trans (lx_p (pc' := 130) (lv' := [.ref b, .ref X, .ref (X + 49), .ref (X + 89), .int (ni I), w5, w6, w7]) (st' := [.int (ni I + ni 1), .ref b, .ref X]) lx_z0 0 5 rfl) ?_
  refine Eq.trans (lx_ar lx_z0 5 1 rfl hsh (by omega) hL (hl b hb)) ?_
  refine Eq.trans (lx_p (pc' := 136) (lv' := [.ref b, .ref X, .ref (X + 49), .ref (X + 89), .int (ni I), w5, w6, w7]) (st' := [.int (ni I + ni 2), .ref b, .int (lb_g C b I 1), .ref X]) lx_z0 6 4 rfl) ?_
  refine Eq.trans (lx_ar lx_z0 10 2 rfl hsh (by omega) hL (hl b hb)) ?_
  refine Eq.trans (lx_p (pc' := 142) (lv' := [.ref b, .ref X, .ref (X + 49), .ref (X + 89), .int (ni I), w5, w6, w7]) (st' := [.int (ni I + ni 3), .ref b, .int (lb_g C b I 2), .int (lb_g C b I 1), .ref X]) lx_z0 11 4 rfl) ?_
  refine Eq.trans (lx_ar lx_z0 15 3 rfl hsh (by omega) hL (hl b hb)) ?_
  refine Eq.trans (lx_p (pc' := 148) (lv' := [.ref b, .ref X, .ref (X + 49), .ref (X + 89), .int (ni I), w5, w6, w7]) (st' := [.int (ni I + ni 4), .ref b, .int (lb_g C b I 3), .int (lb_g C b I 2), .int (lb_g C b I 1), .ref X]) lx_z0 16 4 rfl) ?_
  refine Eq.trans (lx_ar lx_z0 20 4 rfl hsh (by omega) hL (hl b hb)) ?_
  refine Eq.trans (lx_p (pc' := 154) (lv' := [.ref b, .ref X, .ref (X + 49), .ref (X + 89), .int (ni I), w5, w6, w7]) (st' := [.int (ni I + ni 5), .ref b, .int (lb_g C b I 4), .int (lb_g C b I 3), .int (lb_g C b I 2), .int (lb_g C b I 1), .ref X]) lx_z0 21 4 rfl) ?_
  refine Eq.trans (lx_ar lx_z0 25 5 rfl hsh (by omega) hL (hl b hb)) ?_
  refine Eq.trans (lx_p (pc' := 156) (lv' := [.ref b, .ref X, .ref (X + 49), .ref (X + 89), .int (ni I), w5, w6, w7]) (st' := [.ref (X + 89), .int (lb_g C b I 5), .int (lb_g C b I 4), .int (lb_g C b I 3), .int (lb_g C b I 2), .int (lb_g C b I 1), .ref X]) lx_z0 26 1 rfl) ?_
  refine Eq.trans (lx_S lx_z0 27 rfl lxk_75 lxv_267 lxn_267 rfl rfl rfl rfl e1) ?_
  refine Eq.trans (lx_p (pc' := 167) (lv' := [.ref b, .ref X, .ref (X + 49), .ref (X + 89), .int (ni I), .int k, w6, w7]) (st' := [.int (ni I + ni 1), .ref b, .ref (X + 49)]) lx_z0 28 6 rfl) ?_
  refine Eq.trans (lx_ar lx_z0 34 1 rfl hsh (by omega) hL (l1 b hb)) ?_
  refine Eq.trans (lx_p (pc' := 173) (lv' := [.ref b, .ref X, .ref (X + 49), .ref (X + 89), .int (ni I), .int k, w6, w7]) (st' := [.int (ni I + ni 2), .ref b, .int (lb_g C b I 1), .ref (X + 49)]) lx_z0 35 4 rfl) ?_
  refine Eq.trans (lx_ar lx_z0 39 2 rfl hsh (by omega) hL (l1 b hb)) ?_
  refine Eq.trans (lx_p (pc' := 179) (lv' := [.ref b, .ref X, .ref (X + 49), .ref (X + 89), .int (ni I), .int k, w6, w7]) (st' := [.int (ni I + ni 3), .ref b, .int (lb_g C b I 2), .int (lb_g C b I 1), .ref (X + 49)]) lx_z0 40 4 rfl) ?_
  refine Eq.trans (lx_ar lx_z0 44 3 rfl hsh (by omega) hL (l1 b hb)) ?_
  refine Eq.trans (lx_p (pc' := 185) (lv' := [.ref b, .ref X, .ref (X + 49), .ref (X + 89), .int (ni I), .int k, w6, w7]) (st' := [.int (ni I + ni 4), .ref b, .int (lb_g C b I 3), .int (lb_g C b I 2), .int (lb_g C b I 1), .ref (X + 49)]) lx_z0 45 4 rfl) ?_
  refine Eq.trans (lx_ar lx_z0 49 4 rfl hsh (by omega) hL (l1 b hb)) ?_
  refine Eq.trans (lx_p (pc' := 191) (lv' := [.ref b, .ref X, .ref (X + 49), .ref (X + 89), .int (ni I), .int k, w6, w7]) (st' := [.int (ni I + ni 5), .ref b, .int (lb_g C b I 4), .int (lb_g C b I 3), .int (lb_g C b I 2), .int (lb_g C b I 1), .ref (X + 49)]) lx_z0 50 4 rfl) ?_
  refine Eq.trans (lx_ar lx_z0 54 5 rfl hsh (by omega) hL (l1 b hb)) ?_
  refine Eq.trans (lx_V lx_z0 55 rfl lxk_80 lxv_154 lxn_154 rfl rfl rfl rfl (hX.s 49 rfl) e2) ?_
  refine Eq.trans (lx_p (pc' := 198) (lv' := [.ref b, .ref X, .ref (X + 49), .ref (X + 89), .int (ni I), .int k, .int v, w7]) (st' := [.ref (X + 49)]) lx_z0 56 2 rfl) ?_
  refine Eq.trans (lx_V lx_z0 58 rfl lxk_81 lxv_153 lxn_153 rfl rfl rfl rfl (hX.s 49 rfl) e3) ?_
  refine Eq.trans (lx_p (pc' := 203) (lv' := [.ref b, .ref X, .ref (X + 49), .ref (X + 89), .int (ni I), .int k, .int v, w7]) (st' := [.int k, .int k]) lx_z0 59 1 rfl) ?_
  refine Eq.trans (lx_ic lx_z0 60 rfl (t := 208) (by decide)) ?_
  rw [lx_eq, if_pos rfl]
  refine Eq.trans (lx_p (pc' := 210) (lv' := [.ref b, .ref X, .ref (X + 49), .ref (X + 89), .int (ni I), .int k, .int v, w7]) (st' := [.int k]) lx_z0 63 1 rfl) ?_
  refine Eq.trans (lx_if lx_z0 64 rfl (t := 225) (by decide)) ?_
  by_cases hk : k = ni 0
  · rw [if_neg (show ¬ sm_cmp .ne k 0 = true by rw [hk]; decide)]
    refine Eq.trans (lx_p (pc' := 215) (lv' := [.ref b, .ref X, .ref (X + 49), .ref (X + 89), .int (ni I), .int k, .int v, w7]) (st' := [.int (ni 0), .ref (X + 89)]) lx_z0 65 2 rfl) ?_
    refine Eq.trans (lx_ll lx_z0 67 rfl (hX.s 89 rfl) (by decide)) ?_
    refine Eq.trans (lx_p (pc' := 220) (lv' := [.ref b, .ref X, .ref (X + 49), .ref (X + 89), .int (ni I), .int k, .int v, w7]) (st' := [.int (lg_cmp (D2.2.1 (X + 89) (ni 0).toNatClampNeg) v.toInt64)]) lx_z0 68 3 rfl) ?_
    have hz : lg_cmp (D2.2.1 (X + 89) (ni 0).toNatClampNeg) v.toInt64 = ni 0 := by rw [lg_0, show (ni 0).toNatClampNeg = 0 from by decide]; exact h4 hk
    rw [hz]
    refine Eq.trans (lx_if lx_z0 71 rfl (t := 225) (by decide)) ?_
    rw [if_pos (show sm_cmp .eq (ni 0) 0 = true by decide)]
    exact lx_p (pc' := 1216) (lv' := [.ref b, .ref X, .ref (X + 49), .ref (X + 89), .int (ni I), .int k, .int v, w7]) (st' := []) lx_z0 74 1 rfl
  · rw [if_pos (show sm_cmp .ne k 0 = true from decide_eq_true hk)]
    exact lx_p (pc' := 1216) (lv' := [.ref b, .ref X, .ref (X + 49), .ref (X + 89), .int (ni I), .int k, .int v, w7]) (st' := []) lx_z0 74 1 rfl
def lx_b1 : List (Nat × Instr × Nat) := [(228, .aload_n 1, 1), (229, .aload_n 0, 1), (230, .iload 4, 2), (232, .iconst 1, 1), (233, .iadd, 1), (234, .iaload, 1), (235, .invokestatic 84, 3), (238, .istore 5, 2), (240, .aload_n 2, 1), (241, .aload_n 0, 1), (242, .iload 4, 2), (244, .iconst 1, 1), (245, .iadd, 1), (246, .iaload, 1), (247, .invokevirtual 87, 3), (250, .aload_n 2, 1), (251, .invokevirtual 81, 3), (254, .iload 5, 2), (256, .if_icmp .eq 5, 3), (259, .iconst 0, 1), (260, .ireturn, 1), (261, .goto 955, 3)]
theorem lx_z1 : lx_in lx_b1 := lx_in_of (by decide +kernel)
theorem lxk_84 : sm_lk 14 84 268 = true := by decide +kernel
theorem lxv_268 : (sm_m 268).2.1.2.2 = true := by decide +kernel
theorem lxn_268 : sm_na 268 = 2 := by decide +kernel
theorem lxk_87 : sm_lk 14 87 156 = true := by decide +kernel
theorem lxv_156 : ((sm_m 156).2.1.2.2 = false ∧ ¬ (sm_m 156).1.1.name = "<init>") ∧ (sm_m 156).2.1.1 < 14 := by decide +kernel
theorem lxn_156 : sm_na 156 = 1 := by decide +kernel
set_option maxRecDepth 8000 in
theorem lb_1 {C : sm_K} {X b L I t t' : Nat} {D : sm_D} (h : LB C X b L I D) (hs : STe C X t t' (lb_g C b I 1) D) {w5 w6 w7 : Value} : ∃ D2 u5 u6 u7, JK C X t t' D2 ∧ gr D D2 ∧ lx_ex (sm_ev C.1 C.2.1 false 16) 228 [.ref b, .ref X, .ref (X + 49), .ref (X + 89), .int (ni I), w5, w6, w7] [] (C.2.2.1, D) = lx_ex (sm_ev C.1 C.2.1 false 16) 1216 [.ref b, .ref X, .ref (X + 49), .ref (X + 89), .int (ni I), u5, u6, u7] [] (C.2.2.1, D2) := by
  obtain ⟨hX, hl, hb, hsh, hI, hL⟩ := h
  obtain ⟨k, D1, D2, h1, h2, h3, h5, h6⟩ := hs
  obtain ⟨e1, l1⟩ := sm_fe_ev (S := (C.2.2.1, D)) (q := false) (d := 16) rfl hl (by decide) h1
  obtain ⟨e2, l2⟩ := sm_fe_ev (S := (C.2.2.1, D1)) (q := false) (d := 16) rfl l1 (by decide) h2
  have e3 := (sm_fe_ev (S := (C.2.2.1, D2)) (q := false) (d := 16) rfl l2 (by decide) (r153 hX)).1
  rw [show (C.2.2.1, D2).2.1 (X + 49) 0 = k from h3] at e3
  refine ⟨D2, .int k, w6, w7, h5, h6, ?_⟩
  refine Eq.trans (lx_p (pc' := 234) (lv' := [.ref b, .ref X, .ref (X + 49), .ref (X + 89), .int (ni I), w5, w6, w7]) (st' := [.int (ni I + ni 1), .ref b, .ref X]) lx_z1 0 5 rfl) ?_
  refine Eq.trans (lx_ar lx_z1 5 1 rfl hsh (by omega) hL (hl b hb)) ?_
  refine Eq.trans (lx_S lx_z1 6 rfl lxk_84 lxv_268 lxn_268 rfl rfl rfl rfl e1) ?_
  refine Eq.trans (lx_p (pc' := 246) (lv' := [.ref b, .ref X, .ref (X + 49), .ref (X + 89), .int (ni I), .int k, w6, w7]) (st' := [.int (ni I + ni 1), .ref b, .ref (X + 49)]) lx_z1 7 6 rfl) ?_
  refine Eq.trans (lx_ar lx_z1 13 1 rfl hsh (by omega) hL (l1 b hb)) ?_
  refine Eq.trans (lx_V lx_z1 14 rfl lxk_87 lxv_156 lxn_156 rfl rfl rfl rfl (hX.s 49 rfl) e2) ?_
  refine Eq.trans (lx_p (pc' := 251) (lv' := [.ref b, .ref X, .ref (X + 49), .ref (X + 89), .int (ni I), .int k, w6, w7]) (st' := [.ref (X + 49)]) lx_z1 15 1 rfl) ?_
  refine Eq.trans (lx_V lx_z1 16 rfl lxk_81 lxv_153 lxn_153 rfl rfl rfl rfl (hX.s 49 rfl) e3) ?_
  refine Eq.trans (lx_p (pc' := 256) (lv' := [.ref b, .ref X, .ref (X + 49), .ref (X + 89), .int (ni I), .int k, w6, w7]) (st' := [.int k, .int k]) lx_z1 17 1 rfl) ?_
  refine Eq.trans (lx_ic lx_z1 18 rfl (t := 261) (by decide)) ?_
  rw [lx_eq, if_pos rfl]
  exact lx_p (pc' := 1216) (lv' := [.ref b, .ref X, .ref (X + 49), .ref (X + 89), .int (ni I), .int k, w6, w7]) (st' := []) lx_z1 21 1 rfl
def lx_b2 : List (Nat × Instr × Nat) := [(264, .aload_n 1, 1), (265, .invokevirtual 88, 3), (268, .aload_n 2, 1), (269, .invokevirtual 91, 3), (272, .if_icmp .eq 944, 3), (275, .iconst 0, 1), (276, .ireturn, 1)]
theorem lx_z2 : lx_in lx_b2 := lx_in_of (by decide +kernel)
theorem lxk_88 : sm_lk 14 88 1 = true := by decide +kernel
theorem lxv_1 : ((sm_m 1).2.1.2.2 = false ∧ ¬ (sm_m 1).1.1.name = "<init>") ∧ (sm_m 1).2.1.1 < 14 := by decide +kernel
theorem lxn_1 : sm_na 1 = 0 := by decide +kernel
theorem lxk_91 : sm_lk 14 91 158 = true := by decide +kernel
theorem lxv_158 : ((sm_m 158).2.1.2.2 = false ∧ ¬ (sm_m 158).1.1.name = "<init>") ∧ (sm_m 158).2.1.1 < 14 := by decide +kernel
theorem lxn_158 : sm_na 158 = 0 := by decide +kernel
def lx_b3 : List (Nat × Instr × Nat) := [(277, .aload_n 1, 1), (278, .aload_n 0, 1), (279, .iload 4, 2), (281, .iconst 1, 1), (282, .iadd, 1), (283, .iaload, 1), (284, .aload_n 0, 1), (285, .iload 4, 2), (287, .iconst 2, 1), (288, .iadd, 1), (289, .iaload, 1), (290, .aload_n 3, 1), (291, .invokestatic 92, 3), (294, .istore 5, 2), (296, .aload_n 2, 1), (297, .aload_n 0, 1), (298, .iload 4, 2), (300, .iconst 1, 1), (301, .iadd, 1), (302, .iaload, 1), (303, .aload_n 0, 1), (304, .iload 4, 2), (306, .iconst 2, 1), (307, .iadd, 1), (308, .iaload, 1), (309, .invokevirtual 95, 3), (312, .istore 6, 2), (314, .aload_n 2, 1), (315, .invokevirtual 81, 3), (318, .iload 5, 2), (320, .if_icmp .eq 5, 3), (323, .iconst 0, 1), (324, .ireturn, 1), (325, .iload 5, 2), (327, .ifCond .ne 15, 3), (330, .aload_n 3, 1), (331, .iconst 0, 1), (332, .laload, 1), (333, .iload 6, 2), (335, .i2l, 1), (336, .lcmp, 1), (337, .ifCond .eq 5, 3), (340, .iconst 0, 1), (341, .ireturn, 1), (342, .goto 874, 3)]
theorem lx_z3 : lx_in lx_b3 := lx_in_of (by decide +kernel)
theorem lxk_92 : sm_lk 14 92 269 = true := by decide +kernel
theorem lxv_269 : (sm_m 269).2.1.2.2 = true := by decide +kernel
theorem lxn_269 : sm_na 269 = 4 := by decide +kernel
theorem lxk_95 : sm_lk 14 95 231 = true := by decide +kernel
theorem lxv_231 : ((sm_m 231).2.1.2.2 = false ∧ ¬ (sm_m 231).1.1.name = "<init>") ∧ (sm_m 231).2.1.1 < 14 := by decide +kernel
theorem lxn_231 : sm_na 231 = 2 := by decide +kernel
set_option maxRecDepth 8000 in
theorem lb_3 {C : sm_K} {X b L I t t' : Nat} {D : sm_D} (h : LB C X b L I D) (hs : ST C X t t' 269 231 [.int (lb_g C b I 1), .int (lb_g C b I 2)] D) {w5 w6 w7 : Value} : ∃ D2 u5 u6 u7, JK C X t t' D2 ∧ gr D D2 ∧ lx_ex (sm_ev C.1 C.2.1 false 16) 277 [.ref b, .ref X, .ref (X + 49), .ref (X + 89), .int (ni I), w5, w6, w7] [] (C.2.2.1, D) = lx_ex (sm_ev C.1 C.2.1 false 16) 1216 [.ref b, .ref X, .ref (X + 49), .ref (X + 89), .int (ni I), u5, u6, u7] [] (C.2.2.1, D2) := by
  obtain ⟨hX, hl, hb, hsh, hI, hL⟩ := h
  obtain ⟨k, D1, v, D2, h1, h2, h3, h4, h5, h6⟩ := hs
  obtain ⟨e1, l1⟩ := sm_fe_ev (S := (C.2.2.1, D)) (q := false) (d := 16) rfl hl (by decide) h1
  obtain ⟨e2, l2⟩ := sm_fe_ev (S := (C.2.2.1, D1)) (q := false) (d := 16) rfl l1 (by decide) h2
  have e3 := (sm_fe_ev (S := (C.2.2.1, D2)) (q := false) (d := 16) rfl l2 (by decide) (r153 hX)).1
  rw [show (C.2.2.1, D2).2.1 (X + 49) 0 = k from h3] at e3
  refine ⟨D2, .int k, .int v, w7, h5, h6, ?_⟩
  refine Eq.trans (lx_p (pc' := 283) (lv' := [.ref b, .ref X, .ref (X + 49), .ref (X + 89), .int (ni I), w5, w6, w7]) (st' := [.int (ni I + ni 1), .ref b, .ref X]) lx_z3 0 5 rfl) ?_
  refine Eq.trans (lx_ar lx_z3 5 1 rfl hsh (by omega) hL (hl b hb)) ?_
  refine Eq.trans (lx_p (pc' := 289) (lv' := [.ref b, .ref X, .ref (X + 49), .ref (X + 89), .int (ni I), w5, w6, w7]) (st' := [.int (ni I + ni 2), .ref b, .int (lb_g C b I 1), .ref X]) lx_z3 6 4 rfl) ?_
  refine Eq.trans (lx_ar lx_z3 10 2 rfl hsh (by omega) hL (hl b hb)) ?_
  refine Eq.trans (lx_p (pc' := 291) (lv' := [.ref b, .ref X, .ref (X + 49), .ref (X + 89), .int (ni I), w5, w6, w7]) (st' := [.ref (X + 89), .int (lb_g C b I 2), .int (lb_g C b I 1), .ref X]) lx_z3 11 1 rfl) ?_
  refine Eq.trans (lx_S lx_z3 12 rfl lxk_92 lxv_269 lxn_269 rfl rfl rfl rfl e1) ?_
  refine Eq.trans (lx_p (pc' := 302) (lv' := [.ref b, .ref X, .ref (X + 49), .ref (X + 89), .int (ni I), .int k, w6, w7]) (st' := [.int (ni I + ni 1), .ref b, .ref (X + 49)]) lx_z3 13 6 rfl) ?_
  refine Eq.trans (lx_ar lx_z3 19 1 rfl hsh (by omega) hL (l1 b hb)) ?_
  refine Eq.trans (lx_p (pc' := 308) (lv' := [.ref b, .ref X, .ref (X + 49), .ref (X + 89), .int (ni I), .int k, w6, w7]) (st' := [.int (ni I + ni 2), .ref b, .int (lb_g C b I 1), .ref (X + 49)]) lx_z3 20 4 rfl) ?_
  refine Eq.trans (lx_ar lx_z3 24 2 rfl hsh (by omega) hL (l1 b hb)) ?_
  refine Eq.trans (lx_V lx_z3 25 rfl lxk_95 lxv_231 lxn_231 rfl rfl rfl rfl (hX.s 49 rfl) e2) ?_
  refine Eq.trans (lx_p (pc' := 315) (lv' := [.ref b, .ref X, .ref (X + 49), .ref (X + 89), .int (ni I), .int k, .int v, w7]) (st' := [.ref (X + 49)]) lx_z3 26 2 rfl) ?_
  refine Eq.trans (lx_V lx_z3 28 rfl lxk_81 lxv_153 lxn_153 rfl rfl rfl rfl (hX.s 49 rfl) e3) ?_
  refine Eq.trans (lx_p (pc' := 320) (lv' := [.ref b, .ref X, .ref (X + 49), .ref (X + 89), .int (ni I), .int k, .int v, w7]) (st' := [.int k, .int k]) lx_z3 29 1 rfl) ?_
  refine Eq.trans (lx_ic lx_z3 30 rfl (t := 325) (by decide)) ?_
  rw [lx_eq, if_pos rfl]
  refine Eq.trans (lx_p (pc' := 327) (lv' := [.ref b, .ref X, .ref (X + 49), .ref (X + 89), .int (ni I), .int k, .int v, w7]) (st' := [.int k]) lx_z3 33 1 rfl) ?_
  refine Eq.trans (lx_if lx_z3 34 rfl (t := 342) (by decide)) ?_
  by_cases hk : k = ni 0
  · rw [if_neg (show ¬ sm_cmp .ne k 0 = true by rw [hk]; decide)]
    refine Eq.trans (lx_p (pc' := 332) (lv' := [.ref b, .ref X, .ref (X + 49), .ref (X + 89), .int (ni I), .int k, .int v, w7]) (st' := [.int (ni 0), .ref (X + 89)]) lx_z3 35 2 rfl) ?_
    refine Eq.trans (lx_ll lx_z3 37 rfl (hX.s 89 rfl) (by decide)) ?_
    refine Eq.trans (lx_p (pc' := 337) (lv' := [.ref b, .ref X, .ref (X + 49), .ref (X + 89), .int (ni I), .int k, .int v, w7]) (st' := [.int (lg_cmp (D2.2.1 (X + 89) (ni 0).toNatClampNeg) v.toInt64)]) lx_z3 38 3 rfl) ?_
    have hz : lg_cmp (D2.2.1 (X + 89) (ni 0).toNatClampNeg) v.toInt64 = ni 0 := by rw [lg_0, show (ni 0).toNatClampNeg = 0 from by decide]; exact h4 hk
    rw [hz]
    refine Eq.trans (lx_if lx_z3 41 rfl (t := 342) (by decide)) ?_
    rw [if_pos (show sm_cmp .eq (ni 0) 0 = true by decide)]
    exact lx_p (pc' := 1216) (lv' := [.ref b, .ref X, .ref (X + 49), .ref (X + 89), .int (ni I), .int k, .int v, w7]) (st' := []) lx_z3 44 1 rfl
  · rw [if_pos (show sm_cmp .ne k 0 = true from decide_eq_true hk)]
    exact lx_p (pc' := 1216) (lv' := [.ref b, .ref X, .ref (X + 49), .ref (X + 89), .int (ni I), .int k, .int v, w7]) (st' := []) lx_z3 44 1 rfl
def lx_b4 : List (Nat × Instr × Nat) := [(345, .aload_n 1, 1), (346, .aload_n 0, 1), (347, .iload 4, 2), (349, .iconst 1, 1), (350, .iadd, 1), (351, .iaload, 1), (352, .aload_n 0, 1), (353, .iload 4, 2), (355, .iconst 2, 1), (356, .iadd, 1), (357, .iaload, 1), (358, .aload_n 3, 1), (359, .invokestatic 96, 3), (362, .istore 5, 2), (364, .aload_n 2, 1), (365, .aload_n 0, 1), (366, .iload 4, 2), (368, .iconst 1, 1), (369, .iadd, 1), (370, .iaload, 1), (371, .aload_n 0, 1), (372, .iload 4, 2), (374, .iconst 2, 1), (375, .iadd, 1), (376, .iaload, 1), (377, .invokevirtual 98, 3), (380, .istore 6, 2), (382, .aload_n 2, 1), (383, .invokevirtual 81, 3), (386, .iload 5, 2), (388, .if_icmp .eq 5, 3), (391, .iconst 0, 1), (392, .ireturn, 1), (393, .iload 5, 2), (395, .ifCond .ne 15, 3), (398, .aload_n 3, 1), (399, .iconst 0, 1), (400, .laload, 1), (401, .iload 6, 2), (403, .i2l, 1), (404, .lcmp, 1), (405, .ifCond .eq 5, 3), (408, .iconst 0, 1), (409, .ireturn, 1), (410, .goto 806, 3)]
theorem lx_z4 : lx_in lx_b4 := lx_in_of (by decide +kernel)
theorem lxk_96 : sm_lk 14 96 270 = true := by decide +kernel
theorem lxv_270 : (sm_m 270).2.1.2.2 = true := by decide +kernel
theorem lxn_270 : sm_na 270 = 4 := by decide +kernel
theorem lxk_98 : sm_lk 14 98 234 = true := by decide +kernel
theorem lxv_234 : ((sm_m 234).2.1.2.2 = false ∧ ¬ (sm_m 234).1.1.name = "<init>") ∧ (sm_m 234).2.1.1 < 14 := by decide +kernel
theorem lxn_234 : sm_na 234 = 2 := by decide +kernel
set_option maxRecDepth 8000 in
theorem lb_4 {C : sm_K} {X b L I t t' : Nat} {D : sm_D} (h : LB C X b L I D) (hs : ST C X t t' 270 234 [.int (lb_g C b I 1), .int (lb_g C b I 2)] D) {w5 w6 w7 : Value} : ∃ D2 u5 u6 u7, JK C X t t' D2 ∧ gr D D2 ∧ lx_ex (sm_ev C.1 C.2.1 false 16) 345 [.ref b, .ref X, .ref (X + 49), .ref (X + 89), .int (ni I), w5, w6, w7] [] (C.2.2.1, D) = lx_ex (sm_ev C.1 C.2.1 false 16) 1216 [.ref b, .ref X, .ref (X + 49), .ref (X + 89), .int (ni I), u5, u6, u7] [] (C.2.2.1, D2) := by
  obtain ⟨hX, hl, hb, hsh, hI, hL⟩ := h
  obtain ⟨k, D1, v, D2, h1, h2, h3, h4, h5, h6⟩ := hs
  obtain ⟨e1, l1⟩ := sm_fe_ev (S := (C.2.2.1, D)) (q := false) (d := 16) rfl hl (by decide) h1
  obtain ⟨e2, l2⟩ := sm_fe_ev (S := (C.2.2.1, D1)) (q := false) (d := 16) rfl l1 (by decide) h2
  have e3 := (sm_fe_ev (S := (C.2.2.1, D2)) (q := false) (d := 16) rfl l2 (by decide) (r153 hX)).1
  rw [show (C.2.2.1, D2).2.1 (X + 49) 0 = k from h3] at e3
  refine ⟨D2, .int k, .int v, w7, h5, h6, ?_⟩
  refine Eq.trans (lx_p (pc' := 351) (lv' := [.ref b, .ref X, .ref (X + 49), .ref (X + 89), .int (ni I), w5, w6, w7]) (st' := [.int (ni I + ni 1), .ref b, .ref X]) lx_z4 0 5 rfl) ?_
  refine Eq.trans (lx_ar lx_z4 5 1 rfl hsh (by omega) hL (hl b hb)) ?_
  refine Eq.trans (lx_p (pc' := 357) (lv' := [.ref b, .ref X, .ref (X + 49), .ref (X + 89), .int (ni I), w5, w6, w7]) (st' := [.int (ni I + ni 2), .ref b, .int (lb_g C b I 1), .ref X]) lx_z4 6 4 rfl) ?_
  refine Eq.trans (lx_ar lx_z4 10 2 rfl hsh (by omega) hL (hl b hb)) ?_
  refine Eq.trans (lx_p (pc' := 359) (lv' := [.ref b, .ref X, .ref (X + 49), .ref (X + 89), .int (ni I), w5, w6, w7]) (st' := [.ref (X + 89), .int (lb_g C b I 2), .int (lb_g C b I 1), .ref X]) lx_z4 11 1 rfl) ?_
  refine Eq.trans (lx_S lx_z4 12 rfl lxk_96 lxv_270 lxn_270 rfl rfl rfl rfl e1) ?_
  refine Eq.trans (lx_p (pc' := 370) (lv' := [.ref b, .ref X, .ref (X + 49), .ref (X + 89), .int (ni I), .int k, w6, w7]) (st' := [.int (ni I + ni 1), .ref b, .ref (X + 49)]) lx_z4 13 6 rfl) ?_
  refine Eq.trans (lx_ar lx_z4 19 1 rfl hsh (by omega) hL (l1 b hb)) ?_
  refine Eq.trans (lx_p (pc' := 376) (lv' := [.ref b, .ref X, .ref (X + 49), .ref (X + 89), .int (ni I), .int k, w6, w7]) (st' := [.int (ni I + ni 2), .ref b, .int (lb_g C b I 1), .ref (X + 49)]) lx_z4 20 4 rfl) ?_
  refine Eq.trans (lx_ar lx_z4 24 2 rfl hsh (by omega) hL (l1 b hb)) ?_
  refine Eq.trans (lx_V lx_z4 25 rfl lxk_98 lxv_234 lxn_234 rfl rfl rfl rfl (hX.s 49 rfl) e2) ?_
  refine Eq.trans (lx_p (pc' := 383) (lv' := [.ref b, .ref X, .ref (X + 49), .ref (X + 89), .int (ni I), .int k, .int v, w7]) (st' := [.ref (X + 49)]) lx_z4 26 2 rfl) ?_
  refine Eq.trans (lx_V lx_z4 28 rfl lxk_81 lxv_153 lxn_153 rfl rfl rfl rfl (hX.s 49 rfl) e3) ?_
  refine Eq.trans (lx_p (pc' := 388) (lv' := [.ref b, .ref X, .ref (X + 49), .ref (X + 89), .int (ni I), .int k, .int v, w7]) (st' := [.int k, .int k]) lx_z4 29 1 rfl) ?_
  refine Eq.trans (lx_ic lx_z4 30 rfl (t := 393) (by decide)) ?_
  rw [lx_eq, if_pos rfl]
  refine Eq.trans (lx_p (pc' := 395) (lv' := [.ref b, .ref X, .ref (X + 49), .ref (X + 89), .int (ni I), .int k, .int v, w7]) (st' := [.int k]) lx_z4 33 1 rfl) ?_
  refine Eq.trans (lx_if lx_z4 34 rfl (t := 410) (by decide)) ?_
  by_cases hk : k = ni 0
  · rw [if_neg (show ¬ sm_cmp .ne k 0 = true by rw [hk]; decide)]
    refine Eq.trans (lx_p (pc' := 400) (lv' := [.ref b, .ref X, .ref (X + 49), .ref (X + 89), .int (ni I), .int k, .int v, w7]) (st' := [.int (ni 0), .ref (X + 89)]) lx_z4 35 2 rfl) ?_
    refine Eq.trans (lx_ll lx_z4 37 rfl (hX.s 89 rfl) (by decide)) ?_
    refine Eq.trans (lx_p (pc' := 405) (lv' := [.ref b, .ref X, .ref (X + 49), .ref (X + 89), .int (ni I), .int k, .int v, w7]) (st' := [.int (lg_cmp (D2.2.1 (X + 89) (ni 0).toNatClampNeg) v.toInt64)]) lx_z4 38 3 rfl) ?_
    have hz : lg_cmp (D2.2.1 (X + 89) (ni 0).toNatClampNeg) v.toInt64 = ni 0 := by rw [lg_0, show (ni 0).toNatClampNeg = 0 from by decide]; exact h4 hk
    rw [hz]
    refine Eq.trans (lx_if lx_z4 41 rfl (t := 410) (by decide)) ?_
    rw [if_pos (show sm_cmp .eq (ni 0) 0 = true by decide)]
    exact lx_p (pc' := 1216) (lv' := [.ref b, .ref X, .ref (X + 49), .ref (X + 89), .int (ni I), .int k, .int v, w7]) (st' := []) lx_z4 44 1 rfl
  · rw [if_pos (show sm_cmp .ne k 0 = true from decide_eq_true hk)]
    exact lx_p (pc' := 1216) (lv' := [.ref b, .ref X, .ref (X + 49), .ref (X + 89), .int (ni I), .int k, .int v, w7]) (st' := []) lx_z4 44 1 rfl
def lx_b5 : List (Nat × Instr × Nat) := [(413, .aload_n 1, 1), (414, .aload_n 0, 1), (415, .iload 4, 2), (417, .iconst 1, 1), (418, .iadd, 1), (419, .iaload, 1), (420, .aload_n 0, 1), (421, .iload 4, 2), (423, .iconst 2, 1), (424, .iadd, 1), (425, .iaload, 1), (426, .aload_n 3, 1), (427, .invokestatic 99, 3), (430, .istore 5, 2), (432, .aload_n 2, 1), (433, .aload_n 0, 1), (434, .iload 4, 2), (436, .iconst 1, 1), (437, .iadd, 1), (438, .iaload, 1), (439, .aload_n 0, 1), (440, .iload 4, 2), (442, .iconst 2, 1), (443, .iadd, 1), (444, .iaload, 1), (445, .invokevirtual 101, 3), (448, .istore 6, 2), (450, .aload_n 2, 1), (451, .invokevirtual 81, 3), (454, .iload 5, 2), (456, .if_icmp .eq 5, 3), (459, .iconst 0, 1), (460, .ireturn, 1), (461, .iload 5, 2), (463, .ifCond .ne 15, 3), (466, .aload_n 3, 1), (467, .iconst 0, 1), (468, .laload, 1), (469, .iload 6, 2), (471, .i2l, 1), (472, .lcmp, 1), (473, .ifCond .eq 5, 3), (476, .iconst 0, 1), (477, .ireturn, 1), (478, .goto 738, 3)]
theorem lx_z5 : lx_in lx_b5 := lx_in_of (by decide +kernel)
theorem lxk_99 : sm_lk 14 99 271 = true := by decide +kernel
theorem lxv_271 : (sm_m 271).2.1.2.2 = true := by decide +kernel
theorem lxn_271 : sm_na 271 = 4 := by decide +kernel
theorem lxk_101 : sm_lk 14 101 235 = true := by decide +kernel
theorem lxv_235 : ((sm_m 235).2.1.2.2 = false ∧ ¬ (sm_m 235).1.1.name = "<init>") ∧ (sm_m 235).2.1.1 < 14 := by decide +kernel
theorem lxn_235 : sm_na 235 = 2 := by decide +kernel
set_option maxRecDepth 8000 in
theorem lb_5 {C : sm_K} {X b L I t t' : Nat} {D : sm_D} (h : LB C X b L I D) (hs : ST C X t t' 271 235 [.int (lb_g C b I 1), .int (lb_g C b I 2)] D) {w5 w6 w7 : Value} : ∃ D2 u5 u6 u7, JK C X t t' D2 ∧ gr D D2 ∧ lx_ex (sm_ev C.1 C.2.1 false 16) 413 [.ref b, .ref X, .ref (X + 49), .ref (X + 89), .int (ni I), w5, w6, w7] [] (C.2.2.1, D) = lx_ex (sm_ev C.1 C.2.1 false 16) 1216 [.ref b, .ref X, .ref (X + 49), .ref (X + 89), .int (ni I), u5, u6, u7] [] (C.2.2.1, D2) := by
  obtain ⟨hX, hl, hb, hsh, hI, hL⟩ := h
  obtain ⟨k, D1, v, D2, h1, h2, h3, h4, h5, h6⟩ := hs
  obtain ⟨e1, l1⟩ := sm_fe_ev (S := (C.2.2.1, D)) (q := false) (d := 16) rfl hl (by decide) h1
  obtain ⟨e2, l2⟩ := sm_fe_ev (S := (C.2.2.1, D1)) (q := false) (d := 16) rfl l1 (by decide) h2
  have e3 := (sm_fe_ev (S := (C.2.2.1, D2)) (q := false) (d := 16) rfl l2 (by decide) (r153 hX)).1
  rw [show (C.2.2.1, D2).2.1 (X + 49) 0 = k from h3] at e3
  refine ⟨D2, .int k, .int v, w7, h5, h6, ?_⟩
  refine Eq.trans (lx_p (pc' := 419) (lv' := [.ref b, .ref X, .ref (X + 49), .ref (X + 89), .int (ni I), w5, w6, w7]) (st' := [.int (ni I + ni 1), .ref b, .ref X]) lx_z5 0 5 rfl) ?_
  refine Eq.trans (lx_ar lx_z5 5 1 rfl hsh (by omega) hL (hl b hb)) ?_
  refine Eq.trans (lx_p (pc' := 425) (lv' := [.ref b, .ref X, .ref (X + 49), .ref (X + 89), .int (ni I), w5, w6, w7]) (st' := [.int (ni I + ni 2), .ref b, .int (lb_g C b I 1), .ref X]) lx_z5 6 4 rfl) ?_
  refine Eq.trans (lx_ar lx_z5 10 2 rfl hsh (by omega) hL (hl b hb)) ?_
  refine Eq.trans (lx_p (pc' := 427) (lv' := [.ref b, .ref X, .ref (X + 49), .ref (X + 89), .int (ni I), w5, w6, w7]) (st' := [.ref (X + 89), .int (lb_g C b I 2), .int (lb_g C b I 1), .ref X]) lx_z5 11 1 rfl) ?_
  refine Eq.trans (lx_S lx_z5 12 rfl lxk_99 lxv_271 lxn_271 rfl rfl rfl rfl e1) ?_
  refine Eq.trans (lx_p (pc' := 438) (lv' := [.ref b, .ref X, .ref (X + 49), .ref (X + 89), .int (ni I), .int k, w6, w7]) (st' := [.int (ni I + ni 1), .ref b, .ref (X + 49)]) lx_z5 13 6 rfl) ?_
  refine Eq.trans (lx_ar lx_z5 19 1 rfl hsh (by omega) hL (l1 b hb)) ?_
  refine Eq.trans (lx_p (pc' := 444) (lv' := [.ref b, .ref X, .ref (X + 49), .ref (X + 89), .int (ni I), .int k, w6, w7]) (st' := [.int (ni I + ni 2), .ref b, .int (lb_g C b I 1), .ref (X + 49)]) lx_z5 20 4 rfl) ?_
  refine Eq.trans (lx_ar lx_z5 24 2 rfl hsh (by omega) hL (l1 b hb)) ?_
  refine Eq.trans (lx_V lx_z5 25 rfl lxk_101 lxv_235 lxn_235 rfl rfl rfl rfl (hX.s 49 rfl) e2) ?_
  refine Eq.trans (lx_p (pc' := 451) (lv' := [.ref b, .ref X, .ref (X + 49), .ref (X + 89), .int (ni I), .int k, .int v, w7]) (st' := [.ref (X + 49)]) lx_z5 26 2 rfl) ?_
  refine Eq.trans (lx_V lx_z5 28 rfl lxk_81 lxv_153 lxn_153 rfl rfl rfl rfl (hX.s 49 rfl) e3) ?_
  refine Eq.trans (lx_p (pc' := 456) (lv' := [.ref b, .ref X, .ref (X + 49), .ref (X + 89), .int (ni I), .int k, .int v, w7]) (st' := [.int k, .int k]) lx_z5 29 1 rfl) ?_
  refine Eq.trans (lx_ic lx_z5 30 rfl (t := 461) (by decide)) ?_
  rw [lx_eq, if_pos rfl]
  refine Eq.trans (lx_p (pc' := 463) (lv' := [.ref b, .ref X, .ref (X + 49), .ref (X + 89), .int (ni I), .int k, .int v, w7]) (st' := [.int k]) lx_z5 33 1 rfl) ?_
  refine Eq.trans (lx_if lx_z5 34 rfl (t := 478) (by decide)) ?_
  by_cases hk : k = ni 0
  · rw [if_neg (show ¬ sm_cmp .ne k 0 = true by rw [hk]; decide)]
    refine Eq.trans (lx_p (pc' := 468) (lv' := [.ref b, .ref X, .ref (X + 49), .ref (X + 89), .int (ni I), .int k, .int v, w7]) (st' := [.int (ni 0), .ref (X + 89)]) lx_z5 35 2 rfl) ?_
    refine Eq.trans (lx_ll lx_z5 37 rfl (hX.s 89 rfl) (by decide)) ?_
    refine Eq.trans (lx_p (pc' := 473) (lv' := [.ref b, .ref X, .ref (X + 49), .ref (X + 89), .int (ni I), .int k, .int v, w7]) (st' := [.int (lg_cmp (D2.2.1 (X + 89) (ni 0).toNatClampNeg) v.toInt64)]) lx_z5 38 3 rfl) ?_
    have hz : lg_cmp (D2.2.1 (X + 89) (ni 0).toNatClampNeg) v.toInt64 = ni 0 := by rw [lg_0, show (ni 0).toNatClampNeg = 0 from by decide]; exact h4 hk
    rw [hz]
    refine Eq.trans (lx_if lx_z5 41 rfl (t := 478) (by decide)) ?_
    rw [if_pos (show sm_cmp .eq (ni 0) 0 = true by decide)]
    exact lx_p (pc' := 1216) (lv' := [.ref b, .ref X, .ref (X + 49), .ref (X + 89), .int (ni I), .int k, .int v, w7]) (st' := []) lx_z5 44 1 rfl
  · rw [if_pos (show sm_cmp .ne k 0 = true from decide_eq_true hk)]
    exact lx_p (pc' := 1216) (lv' := [.ref b, .ref X, .ref (X + 49), .ref (X + 89), .int (ni I), .int k, .int v, w7]) (st' := []) lx_z5 44 1 rfl
def lx_b6 : List (Nat × Instr × Nat) := [(481, .aload_n 1, 1), (482, .aload_n 0, 1), (483, .iload 4, 2), (485, .iconst 1, 1), (486, .iadd, 1), (487, .iaload, 1), (488, .aload_n 0, 1), (489, .iload 4, 2), (491, .iconst 2, 1), (492, .iadd, 1), (493, .iaload, 1), (494, .aload_n 3, 1), (495, .invokestatic 102, 3), (498, .istore 5, 2), (500, .aload_n 2, 1), (501, .aload_n 0, 1), (502, .iload 4, 2), (504, .iconst 1, 1), (505, .iadd, 1), (506, .iaload, 1), (507, .aload_n 0, 1), (508, .iload 4, 2), (510, .iconst 2, 1), (511, .iadd, 1), (512, .iaload, 1), (513, .invokevirtual 104, 3), (516, .istore 6, 2), (518, .aload_n 2, 1), (519, .invokevirtual 81, 3), (522, .iload 5, 2), (524, .if_icmp .eq 5, 3), (527, .iconst 0, 1), (528, .ireturn, 1), (529, .iload 5, 2), (531, .ifCond .ne 15, 3), (534, .aload_n 3, 1), (535, .iconst 0, 1), (536, .laload, 1), (537, .iload 6, 2), (539, .i2l, 1), (540, .lcmp, 1), (541, .ifCond .eq 5, 3), (544, .iconst 0, 1), (545, .ireturn, 1), (546, .goto 670, 3)]
theorem lx_z6 : lx_in lx_b6 := lx_in_of (by decide +kernel)
theorem lxk_102 : sm_lk 14 102 272 = true := by decide +kernel
theorem lxv_272 : (sm_m 272).2.1.2.2 = true := by decide +kernel
theorem lxn_272 : sm_na 272 = 4 := by decide +kernel
theorem lxk_104 : sm_lk 14 104 236 = true := by decide +kernel
theorem lxv_236 : ((sm_m 236).2.1.2.2 = false ∧ ¬ (sm_m 236).1.1.name = "<init>") ∧ (sm_m 236).2.1.1 < 14 := by decide +kernel
theorem lxn_236 : sm_na 236 = 2 := by decide +kernel
set_option maxRecDepth 8000 in
theorem lb_6 {C : sm_K} {X b L I t t' : Nat} {D : sm_D} (h : LB C X b L I D) (hs : ST C X t t' 272 236 [.int (lb_g C b I 1), .int (lb_g C b I 2)] D) {w5 w6 w7 : Value} : ∃ D2 u5 u6 u7, JK C X t t' D2 ∧ gr D D2 ∧ lx_ex (sm_ev C.1 C.2.1 false 16) 481 [.ref b, .ref X, .ref (X + 49), .ref (X + 89), .int (ni I), w5, w6, w7] [] (C.2.2.1, D) = lx_ex (sm_ev C.1 C.2.1 false 16) 1216 [.ref b, .ref X, .ref (X + 49), .ref (X + 89), .int (ni I), u5, u6, u7] [] (C.2.2.1, D2) := by
  obtain ⟨hX, hl, hb, hsh, hI, hL⟩ := h
  obtain ⟨k, D1, v, D2, h1, h2, h3, h4, h5, h6⟩ := hs
  obtain ⟨e1, l1⟩ := sm_fe_ev (S := (C.2.2.1, D)) (q := false) (d := 16) rfl hl (by decide) h1
  obtain ⟨e2, l2⟩ := sm_fe_ev (S := (C.2.2.1, D1)) (q := false) (d := 16) rfl l1 (by decide) h2
  have e3 := (sm_fe_ev (S := (C.2.2.1, D2)) (q := false) (d := 16) rfl l2 (by decide) (r153 hX)).1
  rw [show (C.2.2.1, D2).2.1 (X + 49) 0 = k from h3] at e3
  refine ⟨D2, .int k, .int v, w7, h5, h6, ?_⟩
  refine Eq.trans (lx_p (pc' := 487) (lv' := [.ref b, .ref X, .ref (X + 49), .ref (X + 89), .int (ni I), w5, w6, w7]) (st' := [.int (ni I + ni 1), .ref b, .ref X]) lx_z6 0 5 rfl) ?_
  refine Eq.trans (lx_ar lx_z6 5 1 rfl hsh (by omega) hL (hl b hb)) ?_
  refine Eq.trans (lx_p (pc' := 493) (lv' := [.ref b, .ref X, .ref (X + 49), .ref (X + 89), .int (ni I), w5, w6, w7]) (st' := [.int (ni I + ni 2), .ref b, .int (lb_g C b I 1), .ref X]) lx_z6 6 4 rfl) ?_
  refine Eq.trans (lx_ar lx_z6 10 2 rfl hsh (by omega) hL (hl b hb)) ?_
  refine Eq.trans (lx_p (pc' := 495) (lv' := [.ref b, .ref X, .ref (X + 49), .ref (X + 89), .int (ni I), w5, w6, w7]) (st' := [.ref (X + 89), .int (lb_g C b I 2), .int (lb_g C b I 1), .ref X]) lx_z6 11 1 rfl) ?_
  refine Eq.trans (lx_S lx_z6 12 rfl lxk_102 lxv_272 lxn_272 rfl rfl rfl rfl e1) ?_
  refine Eq.trans (lx_p (pc' := 506) (lv' := [.ref b, .ref X, .ref (X + 49), .ref (X + 89), .int (ni I), .int k, w6, w7]) (st' := [.int (ni I + ni 1), .ref b, .ref (X + 49)]) lx_z6 13 6 rfl) ?_
  refine Eq.trans (lx_ar lx_z6 19 1 rfl hsh (by omega) hL (l1 b hb)) ?_
  refine Eq.trans (lx_p (pc' := 512) (lv' := [.ref b, .ref X, .ref (X + 49), .ref (X + 89), .int (ni I), .int k, w6, w7]) (st' := [.int (ni I + ni 2), .ref b, .int (lb_g C b I 1), .ref (X + 49)]) lx_z6 20 4 rfl) ?_
  refine Eq.trans (lx_ar lx_z6 24 2 rfl hsh (by omega) hL (l1 b hb)) ?_
  refine Eq.trans (lx_V lx_z6 25 rfl lxk_104 lxv_236 lxn_236 rfl rfl rfl rfl (hX.s 49 rfl) e2) ?_
  refine Eq.trans (lx_p (pc' := 519) (lv' := [.ref b, .ref X, .ref (X + 49), .ref (X + 89), .int (ni I), .int k, .int v, w7]) (st' := [.ref (X + 49)]) lx_z6 26 2 rfl) ?_
  refine Eq.trans (lx_V lx_z6 28 rfl lxk_81 lxv_153 lxn_153 rfl rfl rfl rfl (hX.s 49 rfl) e3) ?_
  refine Eq.trans (lx_p (pc' := 524) (lv' := [.ref b, .ref X, .ref (X + 49), .ref (X + 89), .int (ni I), .int k, .int v, w7]) (st' := [.int k, .int k]) lx_z6 29 1 rfl) ?_
  refine Eq.trans (lx_ic lx_z6 30 rfl (t := 529) (by decide)) ?_
  rw [lx_eq, if_pos rfl]
  refine Eq.trans (lx_p (pc' := 531) (lv' := [.ref b, .ref X, .ref (X + 49), .ref (X + 89), .int (ni I), .int k, .int v, w7]) (st' := [.int k]) lx_z6 33 1 rfl) ?_
  refine Eq.trans (lx_if lx_z6 34 rfl (t := 546) (by decide)) ?_
  by_cases hk : k = ni 0
  · rw [if_neg (show ¬ sm_cmp .ne k 0 = true by rw [hk]; decide)]
    refine Eq.trans (lx_p (pc' := 536) (lv' := [.ref b, .ref X, .ref (X + 49), .ref (X + 89), .int (ni I), .int k, .int v, w7]) (st' := [.int (ni 0), .ref (X + 89)]) lx_z6 35 2 rfl) ?_
    refine Eq.trans (lx_ll lx_z6 37 rfl (hX.s 89 rfl) (by decide)) ?_
    refine Eq.trans (lx_p (pc' := 541) (lv' := [.ref b, .ref X, .ref (X + 49), .ref (X + 89), .int (ni I), .int k, .int v, w7]) (st' := [.int (lg_cmp (D2.2.1 (X + 89) (ni 0).toNatClampNeg) v.toInt64)]) lx_z6 38 3 rfl) ?_
    have hz : lg_cmp (D2.2.1 (X + 89) (ni 0).toNatClampNeg) v.toInt64 = ni 0 := by rw [lg_0, show (ni 0).toNatClampNeg = 0 from by decide]; exact h4 hk
    rw [hz]
    refine Eq.trans (lx_if lx_z6 41 rfl (t := 546) (by decide)) ?_
    rw [if_pos (show sm_cmp .eq (ni 0) 0 = true by decide)]
    exact lx_p (pc' := 1216) (lv' := [.ref b, .ref X, .ref (X + 49), .ref (X + 89), .int (ni I), .int k, .int v, w7]) (st' := []) lx_z6 44 1 rfl
  · rw [if_pos (show sm_cmp .ne k 0 = true from decide_eq_true hk)]
    exact lx_p (pc' := 1216) (lv' := [.ref b, .ref X, .ref (X + 49), .ref (X + 89), .int (ni I), .int k, .int v, w7]) (st' := []) lx_z6 44 1 rfl
def lx_b7 : List (Nat × Instr × Nat) := [(549, .aload_n 1, 1), (550, .aload_n 0, 1), (551, .iload 4, 2), (553, .iconst 1, 1), (554, .iadd, 1), (555, .iaload, 1), (556, .aload_n 0, 1), (557, .iload 4, 2), (559, .iconst 2, 1), (560, .iadd, 1), (561, .iaload, 1), (562, .aload_n 0, 1), (563, .iload 4, 2), (565, .iconst 3, 1), (566, .iadd, 1), (567, .iaload, 1), (568, .aload_n 0, 1), (569, .iload 4, 2), (571, .iconst 4, 1), (572, .iadd, 1), (573, .iaload, 1), (574, .aload_n 3, 1), (575, .invokestatic 105, 3), (578, .istore 5, 2), (580, .aload_n 2, 1), (581, .aload_n 0, 1), (582, .iload 4, 2), (584, .iconst 1, 1), (585, .iadd, 1), (586, .iaload, 1), (587, .aload_n 0, 1), (588, .iload 4, 2), (590, .iconst 2, 1), (591, .iadd, 1), (592, .iaload, 1), (593, .aload_n 0, 1), (594, .iload 4, 2), (596, .iconst 3, 1), (597, .iadd, 1), (598, .iaload, 1), (599, .aload_n 0, 1), (600, .iload 4, 2), (602, .iconst 4, 1), (603, .iadd, 1), (604, .iaload, 1), (605, .invokevirtual 108, 3), (608, .istore 6, 2), (610, .aload_n 2, 1), (611, .invokevirtual 81, 3), (614, .iload 5, 2), (616, .if_icmp .eq 5, 3), (619, .iconst 0, 1), (620, .ireturn, 1), (621, .iload 5, 2), (623, .ifCond .ne 15, 3), (626, .aload_n 3, 1), (627, .iconst 0, 1), (628, .laload, 1), (629, .iload 6, 2), (631, .i2l, 1), (632, .lcmp, 1), (633, .ifCond .eq 5, 3), (636, .iconst 0, 1), (637, .ireturn, 1), (638, .goto 578, 3)]
theorem lx_z7 : lx_in lx_b7 := lx_in_of (by decide +kernel)
theorem lxk_105 : sm_lk 14 105 273 = true := by decide +kernel
theorem lxv_273 : (sm_m 273).2.1.2.2 = true := by decide +kernel
theorem lxn_273 : sm_na 273 = 6 := by decide +kernel
theorem lxk_108 : sm_lk 14 108 238 = true := by decide +kernel
theorem lxv_238 : ((sm_m 238).2.1.2.2 = false ∧ ¬ (sm_m 238).1.1.name = "<init>") ∧ (sm_m 238).2.1.1 < 14 := by decide +kernel
theorem lxn_238 : sm_na 238 = 4 := by decide +kernel
set_option maxRecDepth 8000 in
theorem lb_7 {C : sm_K} {X b L I t t' : Nat} {D : sm_D} (h : LB C X b L I D) (hs : ST C X t t' 273 238 [.int (lb_g C b I 1), .int (lb_g C b I 2), .int (lb_g C b I 3), .int (lb_g C b I 4)] D) {w5 w6 w7 : Value} : ∃ D2 u5 u6 u7, JK C X t t' D2 ∧ gr D D2 ∧ lx_ex (sm_ev C.1 C.2.1 false 16) 549 [.ref b, .ref X, .ref (X + 49), .ref (X + 89), .int (ni I), w5, w6, w7] [] (C.2.2.1, D) = lx_ex (sm_ev C.1 C.2.1 false 16) 1216 [.ref b, .ref X, .ref (X + 49), .ref (X + 89), .int (ni I), u5, u6, u7] [] (C.2.2.1, D2) := by
  obtain ⟨hX, hl, hb, hsh, hI, hL⟩ := h
  obtain ⟨k, D1, v, D2, h1, h2, h3, h4, h5, h6⟩ := hs
  obtain ⟨e1, l1⟩ := sm_fe_ev (S := (C.2.2.1, D)) (q := false) (d := 16) rfl hl (by decide) h1
  obtain ⟨e2, l2⟩ := sm_fe_ev (S := (C.2.2.1, D1)) (q := false) (d := 16) rfl l1 (by decide) h2
  have e3 := (sm_fe_ev (S := (C.2.2.1, D2)) (q := false) (d := 16) rfl l2 (by decide) (r153 hX)).1
  rw [show (C.2.2.1, D2).2.1 (X + 49) 0 = k from h3] at e3
  refine ⟨D2, .int k, .int v, w7, h5, h6, ?_⟩
  refine Eq.trans (lx_p (pc' := 555) (lv' := [.ref b, .ref X, .ref (X + 49), .ref (X + 89), .int (ni I), w5, w6, w7]) (st' := [.int (ni I + ni 1), .ref b, .ref X]) lx_z7 0 5 rfl) ?_
  refine Eq.trans (lx_ar lx_z7 5 1 rfl hsh (by omega) hL (hl b hb)) ?_
  refine Eq.trans (lx_p (pc' := 561) (lv' := [.ref b, .ref X, .ref (X + 49), .ref (X + 89), .int (ni I), w5, w6, w7]) (st' := [.int (ni I + ni 2), .ref b, .int (lb_g C b I 1), .ref X]) lx_z7 6 4 rfl) ?_
  refine Eq.trans (lx_ar lx_z7 10 2 rfl hsh (by omega) hL (hl b hb)) ?_
  refine Eq.trans (lx_p (pc' := 567) (lv' := [.ref b, .ref X, .ref (X + 49), .ref (X + 89), .int (ni I), w5, w6, w7]) (st' := [.int (ni I + ni 3), .ref b, .int (lb_g C b I 2), .int (lb_g C b I 1), .ref X]) lx_z7 11 4 rfl) ?_
  refine Eq.trans (lx_ar lx_z7 15 3 rfl hsh (by omega) hL (hl b hb)) ?_
  refine Eq.trans (lx_p (pc' := 573) (lv' := [.ref b, .ref X, .ref (X + 49), .ref (X + 89), .int (ni I), w5, w6, w7]) (st' := [.int (ni I + ni 4), .ref b, .int (lb_g C b I 3), .int (lb_g C b I 2), .int (lb_g C b I 1), .ref X]) lx_z7 16 4 rfl) ?_
  refine Eq.trans (lx_ar lx_z7 20 4 rfl hsh (by omega) hL (hl b hb)) ?_
  refine Eq.trans (lx_p (pc' := 575) (lv' := [.ref b, .ref X, .ref (X + 49), .ref (X + 89), .int (ni I), w5, w6, w7]) (st' := [.ref (X + 89), .int (lb_g C b I 4), .int (lb_g C b I 3), .int (lb_g C b I 2), .int (lb_g C b I 1), .ref X]) lx_z7 21 1 rfl) ?_
  refine Eq.trans (lx_S lx_z7 22 rfl lxk_105 lxv_273 lxn_273 rfl rfl rfl rfl e1) ?_
  refine Eq.trans (lx_p (pc' := 586) (lv' := [.ref b, .ref X, .ref (X + 49), .ref (X + 89), .int (ni I), .int k, w6, w7]) (st' := [.int (ni I + ni 1), .ref b, .ref (X + 49)]) lx_z7 23 6 rfl) ?_
  refine Eq.trans (lx_ar lx_z7 29 1 rfl hsh (by omega) hL (l1 b hb)) ?_
  refine Eq.trans (lx_p (pc' := 592) (lv' := [.ref b, .ref X, .ref (X + 49), .ref (X + 89), .int (ni I), .int k, w6, w7]) (st' := [.int (ni I + ni 2), .ref b, .int (lb_g C b I 1), .ref (X + 49)]) lx_z7 30 4 rfl) ?_
  refine Eq.trans (lx_ar lx_z7 34 2 rfl hsh (by omega) hL (l1 b hb)) ?_
  refine Eq.trans (lx_p (pc' := 598) (lv' := [.ref b, .ref X, .ref (X + 49), .ref (X + 89), .int (ni I), .int k, w6, w7]) (st' := [.int (ni I + ni 3), .ref b, .int (lb_g C b I 2), .int (lb_g C b I 1), .ref (X + 49)]) lx_z7 35 4 rfl) ?_
  refine Eq.trans (lx_ar lx_z7 39 3 rfl hsh (by omega) hL (l1 b hb)) ?_
  refine Eq.trans (lx_p (pc' := 604) (lv' := [.ref b, .ref X, .ref (X + 49), .ref (X + 89), .int (ni I), .int k, w6, w7]) (st' := [.int (ni I + ni 4), .ref b, .int (lb_g C b I 3), .int (lb_g C b I 2), .int (lb_g C b I 1), .ref (X + 49)]) lx_z7 40 4 rfl) ?_
  refine Eq.trans (lx_ar lx_z7 44 4 rfl hsh (by omega) hL (l1 b hb)) ?_
  refine Eq.trans (lx_V lx_z7 45 rfl lxk_108 lxv_238 lxn_238 rfl rfl rfl rfl (hX.s 49 rfl) e2) ?_
  refine Eq.trans (lx_p (pc' := 611) (lv' := [.ref b, .ref X, .ref (X + 49), .ref (X + 89), .int (ni I), .int k, .int v, w7]) (st' := [.ref (X + 49)]) lx_z7 46 2 rfl) ?_
  refine Eq.trans (lx_V lx_z7 48 rfl lxk_81 lxv_153 lxn_153 rfl rfl rfl rfl (hX.s 49 rfl) e3) ?_
  refine Eq.trans (lx_p (pc' := 616) (lv' := [.ref b, .ref X, .ref (X + 49), .ref (X + 89), .int (ni I), .int k, .int v, w7]) (st' := [.int k, .int k]) lx_z7 49 1 rfl) ?_
  refine Eq.trans (lx_ic lx_z7 50 rfl (t := 621) (by decide)) ?_
  rw [lx_eq, if_pos rfl]
  refine Eq.trans (lx_p (pc' := 623) (lv' := [.ref b, .ref X, .ref (X + 49), .ref (X + 89), .int (ni I), .int k, .int v, w7]) (st' := [.int k]) lx_z7 53 1 rfl) ?_
  refine Eq.trans (lx_if lx_z7 54 rfl (t := 638) (by decide)) ?_
  by_cases hk : k = ni 0
  · rw [if_neg (show ¬ sm_cmp .ne k 0 = true by rw [hk]; decide)]
    refine Eq.trans (lx_p (pc' := 628) (lv' := [.ref b, .ref X, .ref (X + 49), .ref (X + 89), .int (ni I), .int k, .int v, w7]) (st' := [.int (ni 0), .ref (X + 89)]) lx_z7 55 2 rfl) ?_
    refine Eq.trans (lx_ll lx_z7 57 rfl (hX.s 89 rfl) (by decide)) ?_
    refine Eq.trans (lx_p (pc' := 633) (lv' := [.ref b, .ref X, .ref (X + 49), .ref (X + 89), .int (ni I), .int k, .int v, w7]) (st' := [.int (lg_cmp (D2.2.1 (X + 89) (ni 0).toNatClampNeg) v.toInt64)]) lx_z7 58 3 rfl) ?_
    have hz : lg_cmp (D2.2.1 (X + 89) (ni 0).toNatClampNeg) v.toInt64 = ni 0 := by rw [lg_0, show (ni 0).toNatClampNeg = 0 from by decide]; exact h4 hk
    rw [hz]
    refine Eq.trans (lx_if lx_z7 61 rfl (t := 638) (by decide)) ?_
    rw [if_pos (show sm_cmp .eq (ni 0) 0 = true by decide)]
    exact lx_p (pc' := 1216) (lv' := [.ref b, .ref X, .ref (X + 49), .ref (X + 89), .int (ni I), .int k, .int v, w7]) (st' := []) lx_z7 64 1 rfl
  · rw [if_pos (show sm_cmp .ne k 0 = true from decide_eq_true hk)]
    exact lx_p (pc' := 1216) (lv' := [.ref b, .ref X, .ref (X + 49), .ref (X + 89), .int (ni I), .int k, .int v, w7]) (st' := []) lx_z7 64 1 rfl
def lx_b8 : List (Nat × Instr × Nat) := [(641, .aload_n 1, 1), (642, .aload_n 0, 1), (643, .iload 4, 2), (645, .iconst 1, 1), (646, .iadd, 1), (647, .iaload, 1), (648, .aload_n 0, 1), (649, .iload 4, 2), (651, .iconst 2, 1), (652, .iadd, 1), (653, .iaload, 1), (654, .aload_n 0, 1), (655, .iload 4, 2), (657, .iconst 3, 1), (658, .iadd, 1), (659, .iaload, 1), (660, .aload_n 3, 1), (661, .invokestatic 109, 3), (664, .istore 5, 2), (666, .aload_n 2, 1), (667, .aload_n 0, 1), (668, .iload 4, 2), (670, .iconst 1, 1), (671, .iadd, 1), (672, .iaload, 1), (673, .aload_n 0, 1), (674, .iload 4, 2), (676, .iconst 2, 1), (677, .iadd, 1), (678, .iaload, 1), (679, .aload_n 0, 1), (680, .iload 4, 2), (682, .iconst 3, 1), (683, .iadd, 1), (684, .iaload, 1), (685, .invokevirtual 112, 3), (688, .istore 6, 2), (690, .aload_n 2, 1), (691, .invokevirtual 81, 3), (694, .iload 5, 2), (696, .if_icmp .eq 5, 3), (699, .iconst 0, 1), (700, .ireturn, 1), (701, .iload 5, 2), (703, .ifCond .ne 15, 3), (706, .aload_n 3, 1), (707, .iconst 0, 1), (708, .laload, 1), (709, .iload 6, 2), (711, .i2l, 1), (712, .lcmp, 1), (713, .ifCond .eq 5, 3), (716, .iconst 0, 1), (717, .ireturn, 1), (718, .goto 498, 3)]
theorem lx_z8 : lx_in lx_b8 := lx_in_of (by decide +kernel)
theorem lxk_109 : sm_lk 14 109 274 = true := by decide +kernel
theorem lxv_274 : (sm_m 274).2.1.2.2 = true := by decide +kernel
theorem lxn_274 : sm_na 274 = 5 := by decide +kernel
theorem lxk_112 : sm_lk 14 112 240 = true := by decide +kernel
theorem lxv_240 : ((sm_m 240).2.1.2.2 = false ∧ ¬ (sm_m 240).1.1.name = "<init>") ∧ (sm_m 240).2.1.1 < 14 := by decide +kernel
theorem lxn_240 : sm_na 240 = 3 := by decide +kernel
set_option maxRecDepth 8000 in
theorem lb_8 {C : sm_K} {X b L I t t' : Nat} {D : sm_D} (h : LB C X b L I D) (hs : ST C X t t' 274 240 [.int (lb_g C b I 1), .int (lb_g C b I 2), .int (lb_g C b I 3)] D) {w5 w6 w7 : Value} : ∃ D2 u5 u6 u7, JK C X t t' D2 ∧ gr D D2 ∧ lx_ex (sm_ev C.1 C.2.1 false 16) 641 [.ref b, .ref X, .ref (X + 49), .ref (X + 89), .int (ni I), w5, w6, w7] [] (C.2.2.1, D) = lx_ex (sm_ev C.1 C.2.1 false 16) 1216 [.ref b, .ref X, .ref (X + 49), .ref (X + 89), .int (ni I), u5, u6, u7] [] (C.2.2.1, D2) := by
  obtain ⟨hX, hl, hb, hsh, hI, hL⟩ := h
  obtain ⟨k, D1, v, D2, h1, h2, h3, h4, h5, h6⟩ := hs
  obtain ⟨e1, l1⟩ := sm_fe_ev (S := (C.2.2.1, D)) (q := false) (d := 16) rfl hl (by decide) h1
  obtain ⟨e2, l2⟩ := sm_fe_ev (S := (C.2.2.1, D1)) (q := false) (d := 16) rfl l1 (by decide) h2
  have e3 := (sm_fe_ev (S := (C.2.2.1, D2)) (q := false) (d := 16) rfl l2 (by decide) (r153 hX)).1
  rw [show (C.2.2.1, D2).2.1 (X + 49) 0 = k from h3] at e3
  refine ⟨D2, .int k, .int v, w7, h5, h6, ?_⟩
  refine Eq.trans (lx_p (pc' := 647) (lv' := [.ref b, .ref X, .ref (X + 49), .ref (X + 89), .int (ni I), w5, w6, w7]) (st' := [.int (ni I + ni 1), .ref b, .ref X]) lx_z8 0 5 rfl) ?_
  refine Eq.trans (lx_ar lx_z8 5 1 rfl hsh (by omega) hL (hl b hb)) ?_
  refine Eq.trans (lx_p (pc' := 653) (lv' := [.ref b, .ref X, .ref (X + 49), .ref (X + 89), .int (ni I), w5, w6, w7]) (st' := [.int (ni I + ni 2), .ref b, .int (lb_g C b I 1), .ref X]) lx_z8 6 4 rfl) ?_
  refine Eq.trans (lx_ar lx_z8 10 2 rfl hsh (by omega) hL (hl b hb)) ?_
  refine Eq.trans (lx_p (pc' := 659) (lv' := [.ref b, .ref X, .ref (X + 49), .ref (X + 89), .int (ni I), w5, w6, w7]) (st' := [.int (ni I + ni 3), .ref b, .int (lb_g C b I 2), .int (lb_g C b I 1), .ref X]) lx_z8 11 4 rfl) ?_
  refine Eq.trans (lx_ar lx_z8 15 3 rfl hsh (by omega) hL (hl b hb)) ?_
  refine Eq.trans (lx_p (pc' := 661) (lv' := [.ref b, .ref X, .ref (X + 49), .ref (X + 89), .int (ni I), w5, w6, w7]) (st' := [.ref (X + 89), .int (lb_g C b I 3), .int (lb_g C b I 2), .int (lb_g C b I 1), .ref X]) lx_z8 16 1 rfl) ?_
  refine Eq.trans (lx_S lx_z8 17 rfl lxk_109 lxv_274 lxn_274 rfl rfl rfl rfl e1) ?_
  refine Eq.trans (lx_p (pc' := 672) (lv' := [.ref b, .ref X, .ref (X + 49), .ref (X + 89), .int (ni I), .int k, w6, w7]) (st' := [.int (ni I + ni 1), .ref b, .ref (X + 49)]) lx_z8 18 6 rfl) ?_
  refine Eq.trans (lx_ar lx_z8 24 1 rfl hsh (by omega) hL (l1 b hb)) ?_
  refine Eq.trans (lx_p (pc' := 678) (lv' := [.ref b, .ref X, .ref (X + 49), .ref (X + 89), .int (ni I), .int k, w6, w7]) (st' := [.int (ni I + ni 2), .ref b, .int (lb_g C b I 1), .ref (X + 49)]) lx_z8 25 4 rfl) ?_
  refine Eq.trans (lx_ar lx_z8 29 2 rfl hsh (by omega) hL (l1 b hb)) ?_
  refine Eq.trans (lx_p (pc' := 684) (lv' := [.ref b, .ref X, .ref (X + 49), .ref (X + 89), .int (ni I), .int k, w6, w7]) (st' := [.int (ni I + ni 3), .ref b, .int (lb_g C b I 2), .int (lb_g C b I 1), .ref (X + 49)]) lx_z8 30 4 rfl) ?_
  refine Eq.trans (lx_ar lx_z8 34 3 rfl hsh (by omega) hL (l1 b hb)) ?_
  refine Eq.trans (lx_V lx_z8 35 rfl lxk_112 lxv_240 lxn_240 rfl rfl rfl rfl (hX.s 49 rfl) e2) ?_
  refine Eq.trans (lx_p (pc' := 691) (lv' := [.ref b, .ref X, .ref (X + 49), .ref (X + 89), .int (ni I), .int k, .int v, w7]) (st' := [.ref (X + 49)]) lx_z8 36 2 rfl) ?_
  refine Eq.trans (lx_V lx_z8 38 rfl lxk_81 lxv_153 lxn_153 rfl rfl rfl rfl (hX.s 49 rfl) e3) ?_
  refine Eq.trans (lx_p (pc' := 696) (lv' := [.ref b, .ref X, .ref (X + 49), .ref (X + 89), .int (ni I), .int k, .int v, w7]) (st' := [.int k, .int k]) lx_z8 39 1 rfl) ?_
  refine Eq.trans (lx_ic lx_z8 40 rfl (t := 701) (by decide)) ?_
  rw [lx_eq, if_pos rfl]
  refine Eq.trans (lx_p (pc' := 703) (lv' := [.ref b, .ref X, .ref (X + 49), .ref (X + 89), .int (ni I), .int k, .int v, w7]) (st' := [.int k]) lx_z8 43 1 rfl) ?_
  refine Eq.trans (lx_if lx_z8 44 rfl (t := 718) (by decide)) ?_
  by_cases hk : k = ni 0
  · rw [if_neg (show ¬ sm_cmp .ne k 0 = true by rw [hk]; decide)]
    refine Eq.trans (lx_p (pc' := 708) (lv' := [.ref b, .ref X, .ref (X + 49), .ref (X + 89), .int (ni I), .int k, .int v, w7]) (st' := [.int (ni 0), .ref (X + 89)]) lx_z8 45 2 rfl) ?_
    refine Eq.trans (lx_ll lx_z8 47 rfl (hX.s 89 rfl) (by decide)) ?_
    refine Eq.trans (lx_p (pc' := 713) (lv' := [.ref b, .ref X, .ref (X + 49), .ref (X + 89), .int (ni I), .int k, .int v, w7]) (st' := [.int (lg_cmp (D2.2.1 (X + 89) (ni 0).toNatClampNeg) v.toInt64)]) lx_z8 48 3 rfl) ?_
    have hz : lg_cmp (D2.2.1 (X + 89) (ni 0).toNatClampNeg) v.toInt64 = ni 0 := by rw [lg_0, show (ni 0).toNatClampNeg = 0 from by decide]; exact h4 hk
    rw [hz]
    refine Eq.trans (lx_if lx_z8 51 rfl (t := 718) (by decide)) ?_
    rw [if_pos (show sm_cmp .eq (ni 0) 0 = true by decide)]
    exact lx_p (pc' := 1216) (lv' := [.ref b, .ref X, .ref (X + 49), .ref (X + 89), .int (ni I), .int k, .int v, w7]) (st' := []) lx_z8 54 1 rfl
  · rw [if_pos (show sm_cmp .ne k 0 = true from decide_eq_true hk)]
    exact lx_p (pc' := 1216) (lv' := [.ref b, .ref X, .ref (X + 49), .ref (X + 89), .int (ni I), .int k, .int v, w7]) (st' := []) lx_z8 54 1 rfl
def lx_b9 : List (Nat × Instr × Nat) := [(721, .aload_n 1, 1), (722, .aload_n 0, 1), (723, .iload 4, 2), (725, .iconst 1, 1), (726, .iadd, 1), (727, .iaload, 1), (728, .aload_n 0, 1), (729, .iload 4, 2), (731, .iconst 2, 1), (732, .iadd, 1), (733, .iaload, 1), (734, .aload_n 0, 1), (735, .iload 4, 2), (737, .iconst 3, 1), (738, .iadd, 1), (739, .iaload, 1), (740, .aload_n 0, 1), (741, .iload 4, 2), (743, .iconst 4, 1), (744, .iadd, 1), (745, .iaload, 1), (746, .aload_n 3, 1), (747, .invokestatic 113, 3), (750, .istore 5, 2), (752, .aload_n 2, 1), (753, .aload_n 0, 1), (754, .iload 4, 2), (756, .iconst 1, 1), (757, .iadd, 1), (758, .iaload, 1), (759, .aload_n 0, 1), (760, .iload 4, 2), (762, .iconst 2, 1), (763, .iadd, 1), (764, .iaload, 1), (765, .aload_n 0, 1), (766, .iload 4, 2), (768, .iconst 3, 1), (769, .iadd, 1), (770, .iaload, 1), (771, .aload_n 0, 1), (772, .iload 4, 2), (774, .iconst 4, 1), (775, .iadd, 1), (776, .iaload, 1), (777, .invokevirtual 115, 3), (780, .istore 6, 2), (782, .aload_n 2, 1), (783, .invokevirtual 81, 3), (786, .iload 5, 2), (788, .if_icmp .eq 5, 3), (791, .iconst 0, 1), (792, .ireturn, 1), (793, .iload 5, 2), (795, .ifCond .ne 15, 3), (798, .aload_n 3, 1), (799, .iconst 0, 1), (800, .laload, 1), (801, .iload 6, 2), (803, .i2l, 1), (804, .lcmp, 1), (805, .ifCond .eq 5, 3), (808, .iconst 0, 1), (809, .ireturn, 1), (810, .goto 406, 3)]
theorem lx_z9 : lx_in lx_b9 := lx_in_of (by decide +kernel)
theorem lxk_113 : sm_lk 14 113 275 = true := by decide +kernel
theorem lxv_275 : (sm_m 275).2.1.2.2 = true := by decide +kernel
theorem lxn_275 : sm_na 275 = 6 := by decide +kernel
theorem lxk_115 : sm_lk 14 115 241 = true := by decide +kernel
theorem lxv_241 : ((sm_m 241).2.1.2.2 = false ∧ ¬ (sm_m 241).1.1.name = "<init>") ∧ (sm_m 241).2.1.1 < 14 := by decide +kernel
theorem lxn_241 : sm_na 241 = 4 := by decide +kernel
set_option maxRecDepth 8000 in
theorem lb_9 {C : sm_K} {X b L I t t' : Nat} {D : sm_D} (h : LB C X b L I D) (hs : ST C X t t' 275 241 [.int (lb_g C b I 1), .int (lb_g C b I 2), .int (lb_g C b I 3), .int (lb_g C b I 4)] D) {w5 w6 w7 : Value} : ∃ D2 u5 u6 u7, JK C X t t' D2 ∧ gr D D2 ∧ lx_ex (sm_ev C.1 C.2.1 false 16) 721 [.ref b, .ref X, .ref (X + 49), .ref (X + 89), .int (ni I), w5, w6, w7] [] (C.2.2.1, D) = lx_ex (sm_ev C.1 C.2.1 false 16) 1216 [.ref b, .ref X, .ref (X + 49), .ref (X + 89), .int (ni I), u5, u6, u7] [] (C.2.2.1, D2) := by
  obtain ⟨hX, hl, hb, hsh, hI, hL⟩ := h
  obtain ⟨k, D1, v, D2, h1, h2, h3, h4, h5, h6⟩ := hs
  obtain ⟨e1, l1⟩ := sm_fe_ev (S := (C.2.2.1, D)) (q := false) (d := 16) rfl hl (by decide) h1
  obtain ⟨e2, l2⟩ := sm_fe_ev (S := (C.2.2.1, D1)) (q := false) (d := 16) rfl l1 (by decide) h2
  have e3 := (sm_fe_ev (S := (C.2.2.1, D2)) (q := false) (d := 16) rfl l2 (by decide) (r153 hX)).1
  rw [show (C.2.2.1, D2).2.1 (X + 49) 0 = k from h3] at e3
  refine ⟨D2, .int k, .int v, w7, h5, h6, ?_⟩
  refine Eq.trans (lx_p (pc' := 727) (lv' := [.ref b, .ref X, .ref (X + 49), .ref (X + 89), .int (ni I), w5, w6, w7]) (st' := [.int (ni I + ni 1), .ref b, .ref X]) lx_z9 0 5 rfl) ?_
  refine Eq.trans (lx_ar lx_z9 5 1 rfl hsh (by omega) hL (hl b hb)) ?_
  refine Eq.trans (lx_p (pc' := 733) (lv' := [.ref b, .ref X, .ref (X + 49), .ref (X + 89), .int (ni I), w5, w6, w7]) (st' := [.int (ni I + ni 2), .ref b, .int (lb_g C b I 1), .ref X]) lx_z9 6 4 rfl) ?_
  refine Eq.trans (lx_ar lx_z9 10 2 rfl hsh (by omega) hL (hl b hb)) ?_
  refine Eq.trans (lx_p (pc' := 739) (lv' := [.ref b, .ref X, .ref (X + 49), .ref (X + 89), .int (ni I), w5, w6, w7]) (st' := [.int (ni I + ni 3), .ref b, .int (lb_g C b I 2), .int (lb_g C b I 1), .ref X]) lx_z9 11 4 rfl) ?_
  refine Eq.trans (lx_ar lx_z9 15 3 rfl hsh (by omega) hL (hl b hb)) ?_
  refine Eq.trans (lx_p (pc' := 745) (lv' := [.ref b, .ref X, .ref (X + 49), .ref (X + 89), .int (ni I), w5, w6, w7]) (st' := [.int (ni I + ni 4), .ref b, .int (lb_g C b I 3), .int (lb_g C b I 2), .int (lb_g C b I 1), .ref X]) lx_z9 16 4 rfl) ?_
  refine Eq.trans (lx_ar lx_z9 20 4 rfl hsh (by omega) hL (hl b hb)) ?_
  refine Eq.trans (lx_p (pc' := 747) (lv' := [.ref b, .ref X, .ref (X + 49), .ref (X + 89), .int (ni I), w5, w6, w7]) (st' := [.ref (X + 89), .int (lb_g C b I 4), .int (lb_g C b I 3), .int (lb_g C b I 2), .int (lb_g C b I 1), .ref X]) lx_z9 21 1 rfl) ?_
  refine Eq.trans (lx_S lx_z9 22 rfl lxk_113 lxv_275 lxn_275 rfl rfl rfl rfl e1) ?_
  refine Eq.trans (lx_p (pc' := 758) (lv' := [.ref b, .ref X, .ref (X + 49), .ref (X + 89), .int (ni I), .int k, w6, w7]) (st' := [.int (ni I + ni 1), .ref b, .ref (X + 49)]) lx_z9 23 6 rfl) ?_
  refine Eq.trans (lx_ar lx_z9 29 1 rfl hsh (by omega) hL (l1 b hb)) ?_
  refine Eq.trans (lx_p (pc' := 764) (lv' := [.ref b, .ref X, .ref (X + 49), .ref (X + 89), .int (ni I), .int k, w6, w7]) (st' := [.int (ni I + ni 2), .ref b, .int (lb_g C b I 1), .ref (X + 49)]) lx_z9 30 4 rfl) ?_
  refine Eq.trans (lx_ar lx_z9 34 2 rfl hsh (by omega) hL (l1 b hb)) ?_
  refine Eq.trans (lx_p (pc' := 770) (lv' := [.ref b, .ref X, .ref (X + 49), .ref (X + 89), .int (ni I), .int k, w6, w7]) (st' := [.int (ni I + ni 3), .ref b, .int (lb_g C b I 2), .int (lb_g C b I 1), .ref (X + 49)]) lx_z9 35 4 rfl) ?_
  refine Eq.trans (lx_ar lx_z9 39 3 rfl hsh (by omega) hL (l1 b hb)) ?_
  refine Eq.trans (lx_p (pc' := 776) (lv' := [.ref b, .ref X, .ref (X + 49), .ref (X + 89), .int (ni I), .int k, w6, w7]) (st' := [.int (ni I + ni 4), .ref b, .int (lb_g C b I 3), .int (lb_g C b I 2), .int (lb_g C b I 1), .ref (X + 49)]) lx_z9 40 4 rfl) ?_
  refine Eq.trans (lx_ar lx_z9 44 4 rfl hsh (by omega) hL (l1 b hb)) ?_
  refine Eq.trans (lx_V lx_z9 45 rfl lxk_115 lxv_241 lxn_241 rfl rfl rfl rfl (hX.s 49 rfl) e2) ?_
  refine Eq.trans (lx_p (pc' := 783) (lv' := [.ref b, .ref X, .ref (X + 49), .ref (X + 89), .int (ni I), .int k, .int v, w7]) (st' := [.ref (X + 49)]) lx_z9 46 2 rfl) ?_
  refine Eq.trans (lx_V lx_z9 48 rfl lxk_81 lxv_153 lxn_153 rfl rfl rfl rfl (hX.s 49 rfl) e3) ?_
  refine Eq.trans (lx_p (pc' := 788) (lv' := [.ref b, .ref X, .ref (X + 49), .ref (X + 89), .int (ni I), .int k, .int v, w7]) (st' := [.int k, .int k]) lx_z9 49 1 rfl) ?_
  refine Eq.trans (lx_ic lx_z9 50 rfl (t := 793) (by decide)) ?_
  rw [lx_eq, if_pos rfl]
  refine Eq.trans (lx_p (pc' := 795) (lv' := [.ref b, .ref X, .ref (X + 49), .ref (X + 89), .int (ni I), .int k, .int v, w7]) (st' := [.int k]) lx_z9 53 1 rfl) ?_
  refine Eq.trans (lx_if lx_z9 54 rfl (t := 810) (by decide)) ?_
  by_cases hk : k = ni 0
  · rw [if_neg (show ¬ sm_cmp .ne k 0 = true by rw [hk]; decide)]
    refine Eq.trans (lx_p (pc' := 800) (lv' := [.ref b, .ref X, .ref (X + 49), .ref (X + 89), .int (ni I), .int k, .int v, w7]) (st' := [.int (ni 0), .ref (X + 89)]) lx_z9 55 2 rfl) ?_
    refine Eq.trans (lx_ll lx_z9 57 rfl (hX.s 89 rfl) (by decide)) ?_
    refine Eq.trans (lx_p (pc' := 805) (lv' := [.ref b, .ref X, .ref (X + 49), .ref (X + 89), .int (ni I), .int k, .int v, w7]) (st' := [.int (lg_cmp (D2.2.1 (X + 89) (ni 0).toNatClampNeg) v.toInt64)]) lx_z9 58 3 rfl) ?_
    have hz : lg_cmp (D2.2.1 (X + 89) (ni 0).toNatClampNeg) v.toInt64 = ni 0 := by rw [lg_0, show (ni 0).toNatClampNeg = 0 from by decide]; exact h4 hk
    rw [hz]
    refine Eq.trans (lx_if lx_z9 61 rfl (t := 810) (by decide)) ?_
    rw [if_pos (show sm_cmp .eq (ni 0) 0 = true by decide)]
    exact lx_p (pc' := 1216) (lv' := [.ref b, .ref X, .ref (X + 49), .ref (X + 89), .int (ni I), .int k, .int v, w7]) (st' := []) lx_z9 64 1 rfl
  · rw [if_pos (show sm_cmp .ne k 0 = true from decide_eq_true hk)]
    exact lx_p (pc' := 1216) (lv' := [.ref b, .ref X, .ref (X + 49), .ref (X + 89), .int (ni I), .int k, .int v, w7]) (st' := []) lx_z9 64 1 rfl
def lx_b10 : List (Nat × Instr × Nat) := [(813, .aload_n 1, 1), (814, .aload_n 0, 1), (815, .iload 4, 2), (817, .iconst 1, 1), (818, .iadd, 1), (819, .iaload, 1), (820, .aload_n 3, 1), (821, .invokestatic 116, 3), (824, .istore 5, 2), (826, .aload_n 2, 1), (827, .aload_n 0, 1), (828, .iload 4, 2), (830, .iconst 1, 1), (831, .iadd, 1), (832, .iaload, 1), (833, .invokevirtual 119, 3), (836, .istore 6, 2), (838, .aload_n 2, 1), (839, .invokevirtual 81, 3), (842, .iload 5, 2), (844, .if_icmp .eq 5, 3), (847, .iconst 0, 1), (848, .ireturn, 1), (849, .iload 5, 2), (851, .ifCond .ne 15, 3), (854, .aload_n 3, 1), (855, .iconst 0, 1), (856, .laload, 1), (857, .iload 6, 2), (859, .i2l, 1), (860, .lcmp, 1), (861, .ifCond .eq 5, 3), (864, .iconst 0, 1), (865, .ireturn, 1), (866, .goto 350, 3)]
theorem lx_z10 : lx_in lx_b10 := lx_in_of (by decide +kernel)
theorem lxk_116 : sm_lk 14 116 276 = true := by decide +kernel
theorem lxv_276 : (sm_m 276).2.1.2.2 = true := by decide +kernel
theorem lxn_276 : sm_na 276 = 3 := by decide +kernel
theorem lxk_119 : sm_lk 14 119 242 = true := by decide +kernel
theorem lxv_242 : ((sm_m 242).2.1.2.2 = false ∧ ¬ (sm_m 242).1.1.name = "<init>") ∧ (sm_m 242).2.1.1 < 14 := by decide +kernel
theorem lxn_242 : sm_na 242 = 1 := by decide +kernel
set_option maxRecDepth 8000 in
theorem lb_10 {C : sm_K} {X b L I t t' : Nat} {D : sm_D} (h : LB C X b L I D) (hs : ST C X t t' 276 242 [.int (lb_g C b I 1)] D) {w5 w6 w7 : Value} : ∃ D2 u5 u6 u7, JK C X t t' D2 ∧ gr D D2 ∧ lx_ex (sm_ev C.1 C.2.1 false 16) 813 [.ref b, .ref X, .ref (X + 49), .ref (X + 89), .int (ni I), w5, w6, w7] [] (C.2.2.1, D) = lx_ex (sm_ev C.1 C.2.1 false 16) 1216 [.ref b, .ref X, .ref (X + 49), .ref (X + 89), .int (ni I), u5, u6, u7] [] (C.2.2.1, D2) := by
  obtain ⟨hX, hl, hb, hsh, hI, hL⟩ := h
  obtain ⟨k, D1, v, D2, h1, h2, h3, h4, h5, h6⟩ := hs
  obtain ⟨e1, l1⟩ := sm_fe_ev (S := (C.2.2.1, D)) (q := false) (d := 16) rfl hl (by decide) h1
  obtain ⟨e2, l2⟩ := sm_fe_ev (S := (C.2.2.1, D1)) (q := false) (d := 16) rfl l1 (by decide) h2
  have e3 := (sm_fe_ev (S := (C.2.2.1, D2)) (q := false) (d := 16) rfl l2 (by decide) (r153 hX)).1
  rw [show (C.2.2.1, D2).2.1 (X + 49) 0 = k from h3] at e3
  refine ⟨D2, .int k, .int v, w7, h5, h6, ?_⟩
  refine Eq.trans (lx_p (pc' := 819) (lv' := [.ref b, .ref X, .ref (X + 49), .ref (X + 89), .int (ni I), w5, w6, w7]) (st' := [.int (ni I + ni 1), .ref b, .ref X]) lx_z10 0 5 rfl) ?_
  refine Eq.trans (lx_ar lx_z10 5 1 rfl hsh (by omega) hL (hl b hb)) ?_
  refine Eq.trans (lx_p (pc' := 821) (lv' := [.ref b, .ref X, .ref (X + 49), .ref (X + 89), .int (ni I), w5, w6, w7]) (st' := [.ref (X + 89), .int (lb_g C b I 1), .ref X]) lx_z10 6 1 rfl) ?_
  refine Eq.trans (lx_S lx_z10 7 rfl lxk_116 lxv_276 lxn_276 rfl rfl rfl rfl e1) ?_
  refine Eq.trans (lx_p (pc' := 832) (lv' := [.ref b, .ref X, .ref (X + 49), .ref (X + 89), .int (ni I), .int k, w6, w7]) (st' := [.int (ni I + ni 1), .ref b, .ref (X + 49)]) lx_z10 8 6 rfl) ?_
  refine Eq.trans (lx_ar lx_z10 14 1 rfl hsh (by omega) hL (l1 b hb)) ?_
  refine Eq.trans (lx_V lx_z10 15 rfl lxk_119 lxv_242 lxn_242 rfl rfl rfl rfl (hX.s 49 rfl) e2) ?_
  refine Eq.trans (lx_p (pc' := 839) (lv' := [.ref b, .ref X, .ref (X + 49), .ref (X + 89), .int (ni I), .int k, .int v, w7]) (st' := [.ref (X + 49)]) lx_z10 16 2 rfl) ?_
  refine Eq.trans (lx_V lx_z10 18 rfl lxk_81 lxv_153 lxn_153 rfl rfl rfl rfl (hX.s 49 rfl) e3) ?_
  refine Eq.trans (lx_p (pc' := 844) (lv' := [.ref b, .ref X, .ref (X + 49), .ref (X + 89), .int (ni I), .int k, .int v, w7]) (st' := [.int k, .int k]) lx_z10 19 1 rfl) ?_
  refine Eq.trans (lx_ic lx_z10 20 rfl (t := 849) (by decide)) ?_
  rw [lx_eq, if_pos rfl]
  refine Eq.trans (lx_p (pc' := 851) (lv' := [.ref b, .ref X, .ref (X + 49), .ref (X + 89), .int (ni I), .int k, .int v, w7]) (st' := [.int k]) lx_z10 23 1 rfl) ?_
  refine Eq.trans (lx_if lx_z10 24 rfl (t := 866) (by decide)) ?_
  by_cases hk : k = ni 0
  · rw [if_neg (show ¬ sm_cmp .ne k 0 = true by rw [hk]; decide)]
    refine Eq.trans (lx_p (pc' := 856) (lv' := [.ref b, .ref X, .ref (X + 49), .ref (X + 89), .int (ni I), .int k, .int v, w7]) (st' := [.int (ni 0), .ref (X + 89)]) lx_z10 25 2 rfl) ?_
    refine Eq.trans (lx_ll lx_z10 27 rfl (hX.s 89 rfl) (by decide)) ?_
    refine Eq.trans (lx_p (pc' := 861) (lv' := [.ref b, .ref X, .ref (X + 49), .ref (X + 89), .int (ni I), .int k, .int v, w7]) (st' := [.int (lg_cmp (D2.2.1 (X + 89) (ni 0).toNatClampNeg) v.toInt64)]) lx_z10 28 3 rfl) ?_
    have hz : lg_cmp (D2.2.1 (X + 89) (ni 0).toNatClampNeg) v.toInt64 = ni 0 := by rw [lg_0, show (ni 0).toNatClampNeg = 0 from by decide]; exact h4 hk
    rw [hz]
    refine Eq.trans (lx_if lx_z10 31 rfl (t := 866) (by decide)) ?_
    rw [if_pos (show sm_cmp .eq (ni 0) 0 = true by decide)]
    exact lx_p (pc' := 1216) (lv' := [.ref b, .ref X, .ref (X + 49), .ref (X + 89), .int (ni I), .int k, .int v, w7]) (st' := []) lx_z10 34 1 rfl
  · rw [if_pos (show sm_cmp .ne k 0 = true from decide_eq_true hk)]
    exact lx_p (pc' := 1216) (lv' := [.ref b, .ref X, .ref (X + 49), .ref (X + 89), .int (ni I), .int k, .int v, w7]) (st' := []) lx_z10 34 1 rfl
def lx_b11 : List (Nat × Instr × Nat) := [(869, .aload_n 1, 1), (870, .aload_n 0, 1), (871, .iload 4, 2), (873, .iconst 1, 1), (874, .iadd, 1), (875, .iaload, 1), (876, .aload_n 3, 1), (877, .invokestatic 120, 3), (880, .istore 5, 2), (882, .aload_n 2, 1), (883, .aload_n 0, 1), (884, .iload 4, 2), (886, .iconst 1, 1), (887, .iadd, 1), (888, .iaload, 1), (889, .invokevirtual 122, 3), (892, .lstore 6, 2), (894, .aload_n 2, 1), (895, .invokevirtual 81, 3), (898, .iload 5, 2), (900, .if_icmp .eq 5, 3), (903, .iconst 0, 1), (904, .ireturn, 1), (905, .iload 5, 2), (907, .ifCond .ne 14, 3), (910, .aload_n 3, 1), (911, .iconst 0, 1), (912, .laload, 1), (913, .lload 6, 2), (915, .lcmp, 1), (916, .ifCond .eq 5, 3), (919, .iconst 0, 1), (920, .ireturn, 1), (921, .goto 295, 3)]
theorem lx_z11 : lx_in lx_b11 := lx_in_of (by decide +kernel)
theorem lxk_120 : sm_lk 14 120 277 = true := by decide +kernel
theorem lxv_277 : (sm_m 277).2.1.2.2 = true := by decide +kernel
theorem lxn_277 : sm_na 277 = 3 := by decide +kernel
theorem lxk_122 : sm_lk 14 122 243 = true := by decide +kernel
theorem lxv_243 : ((sm_m 243).2.1.2.2 = false ∧ ¬ (sm_m 243).1.1.name = "<init>") ∧ (sm_m 243).2.1.1 < 14 := by decide +kernel
theorem lxn_243 : sm_na 243 = 1 := by decide +kernel
set_option maxRecDepth 8000 in
theorem lb_11 {C : sm_K} {X b L I t t' : Nat} {D : sm_D} (h : LB C X b L I D) (hs : STd C X t t' 277 243 [.int (lb_g C b I 1)] D) {w5 w6 w7 : Value} : ∃ D2 u5 u6 u7, JK C X t t' D2 ∧ gr D D2 ∧ lx_ex (sm_ev C.1 C.2.1 false 16) 869 [.ref b, .ref X, .ref (X + 49), .ref (X + 89), .int (ni I), w5, w6, w7] [] (C.2.2.1, D) = lx_ex (sm_ev C.1 C.2.1 false 16) 1216 [.ref b, .ref X, .ref (X + 49), .ref (X + 89), .int (ni I), u5, u6, u7] [] (C.2.2.1, D2) := by
  obtain ⟨hX, hl, hb, hsh, hI, hL⟩ := h
  obtain ⟨k, D1, v, D2, h1, h2, h3, h4, h5, h6⟩ := hs
  obtain ⟨e1, l1⟩ := sm_fe_ev (S := (C.2.2.1, D)) (q := false) (d := 16) rfl hl (by decide) h1
  obtain ⟨e2, l2⟩ := sm_fe_ev (S := (C.2.2.1, D1)) (q := false) (d := 16) rfl l1 (by decide) h2
  have e3 := (sm_fe_ev (S := (C.2.2.1, D2)) (q := false) (d := 16) rfl l2 (by decide) (r153 hX)).1
  rw [show (C.2.2.1, D2).2.1 (X + 49) 0 = k from h3] at e3
  refine ⟨D2, .int k, .long v, sm_junk, h5, h6, ?_⟩
  refine Eq.trans (lx_p (pc' := 875) (lv' := [.ref b, .ref X, .ref (X + 49), .ref (X + 89), .int (ni I), w5, w6, w7]) (st' := [.int (ni I + ni 1), .ref b, .ref X]) lx_z11 0 5 rfl) ?_
  refine Eq.trans (lx_ar lx_z11 5 1 rfl hsh (by omega) hL (hl b hb)) ?_
  refine Eq.trans (lx_p (pc' := 877) (lv' := [.ref b, .ref X, .ref (X + 49), .ref (X + 89), .int (ni I), w5, w6, w7]) (st' := [.ref (X + 89), .int (lb_g C b I 1), .ref X]) lx_z11 6 1 rfl) ?_
  refine Eq.trans (lx_S lx_z11 7 rfl lxk_120 lxv_277 lxn_277 rfl rfl rfl rfl e1) ?_
  refine Eq.trans (lx_p (pc' := 888) (lv' := [.ref b, .ref X, .ref (X + 49), .ref (X + 89), .int (ni I), .int k, w6, w7]) (st' := [.int (ni I + ni 1), .ref b, .ref (X + 49)]) lx_z11 8 6 rfl) ?_
  refine Eq.trans (lx_ar lx_z11 14 1 rfl hsh (by omega) hL (l1 b hb)) ?_
  refine Eq.trans (lx_V lx_z11 15 rfl lxk_122 lxv_243 lxn_243 rfl rfl rfl rfl (hX.s 49 rfl) e2) ?_
  refine Eq.trans (lx_p (pc' := 895) (lv' := [.ref b, .ref X, .ref (X + 49), .ref (X + 89), .int (ni I), .int k, .long v, sm_junk]) (st' := [.ref (X + 49)]) lx_z11 16 2 rfl) ?_
  refine Eq.trans (lx_V lx_z11 18 rfl lxk_81 lxv_153 lxn_153 rfl rfl rfl rfl (hX.s 49 rfl) e3) ?_
  refine Eq.trans (lx_p (pc' := 900) (lv' := [.ref b, .ref X, .ref (X + 49), .ref (X + 89), .int (ni I), .int k, .long v, sm_junk]) (st' := [.int k, .int k]) lx_z11 19 1 rfl) ?_
  refine Eq.trans (lx_ic lx_z11 20 rfl (t := 905) (by decide)) ?_
  rw [lx_eq, if_pos rfl]
  refine Eq.trans (lx_p (pc' := 907) (lv' := [.ref b, .ref X, .ref (X + 49), .ref (X + 89), .int (ni I), .int k, .long v, sm_junk]) (st' := [.int k]) lx_z11 23 1 rfl) ?_
  refine Eq.trans (lx_if lx_z11 24 rfl (t := 921) (by decide)) ?_
  by_cases hk : k = ni 0
  · rw [if_neg (show ¬ sm_cmp .ne k 0 = true by rw [hk]; decide)]
    refine Eq.trans (lx_p (pc' := 912) (lv' := [.ref b, .ref X, .ref (X + 49), .ref (X + 89), .int (ni I), .int k, .long v, sm_junk]) (st' := [.int (ni 0), .ref (X + 89)]) lx_z11 25 2 rfl) ?_
    refine Eq.trans (lx_ll lx_z11 27 rfl (hX.s 89 rfl) (by decide)) ?_
    refine Eq.trans (lx_p (pc' := 916) (lv' := [.ref b, .ref X, .ref (X + 49), .ref (X + 89), .int (ni I), .int k, .long v, sm_junk]) (st' := [.int (lg_cmp (D2.2.1 (X + 89) (ni 0).toNatClampNeg) v)]) lx_z11 28 2 rfl) ?_
    have hz : lg_cmp (D2.2.1 (X + 89) (ni 0).toNatClampNeg) v = ni 0 := by rw [lg_0, show (ni 0).toNatClampNeg = 0 from by decide]; exact h4 hk
    rw [hz]
    refine Eq.trans (lx_if lx_z11 30 rfl (t := 921) (by decide)) ?_
    rw [if_pos (show sm_cmp .eq (ni 0) 0 = true by decide)]
    exact lx_p (pc' := 1216) (lv' := [.ref b, .ref X, .ref (X + 49), .ref (X + 89), .int (ni I), .int k, .long v, sm_junk]) (st' := []) lx_z11 33 1 rfl
  · rw [if_pos (show sm_cmp .ne k 0 = true from decide_eq_true hk)]
    exact lx_p (pc' := 1216) (lv' := [.ref b, .ref X, .ref (X + 49), .ref (X + 89), .int (ni I), .int k, .long v, sm_junk]) (st' := []) lx_z11 33 1 rfl
def lx_b12 : List (Nat × Instr × Nat) := [(924, .aload_n 1, 1), (925, .aload_n 0, 1), (926, .iload 4, 2), (928, .iconst 1, 1), (929, .iadd, 1), (930, .iaload, 1), (931, .aload_n 3, 1), (932, .invokestatic 123, 3), (935, .istore 5, 2), (937, .aload_n 2, 1), (938, .aload_n 0, 1), (939, .iload 4, 2), (941, .iconst 1, 1), (942, .iadd, 1), (943, .iaload, 1), (944, .invokevirtual 125, 3), (947, .istore 6, 2), (949, .aload_n 2, 1), (950, .invokevirtual 81, 3), (953, .iload 5, 2), (955, .if_icmp .eq 5, 3), (958, .iconst 0, 1), (959, .ireturn, 1), (960, .iload 5, 2), (962, .ifCond .ne 15, 3), (965, .aload_n 3, 1), (966, .iconst 0, 1), (967, .laload, 1), (968, .iload 6, 2), (970, .i2l, 1), (971, .lcmp, 1), (972, .ifCond .eq 5, 3), (975, .iconst 0, 1), (976, .ireturn, 1), (977, .goto 239, 3)]
theorem lx_z12 : lx_in lx_b12 := lx_in_of (by decide +kernel)
theorem lxk_123 : sm_lk 14 123 278 = true := by decide +kernel
theorem lxv_278 : (sm_m 278).2.1.2.2 = true := by decide +kernel
theorem lxn_278 : sm_na 278 = 3 := by decide +kernel
theorem lxk_125 : sm_lk 14 125 244 = true := by decide +kernel
theorem lxv_244 : ((sm_m 244).2.1.2.2 = false ∧ ¬ (sm_m 244).1.1.name = "<init>") ∧ (sm_m 244).2.1.1 < 14 := by decide +kernel
theorem lxn_244 : sm_na 244 = 1 := by decide +kernel
set_option maxRecDepth 8000 in
theorem lb_12 {C : sm_K} {X b L I t t' : Nat} {D : sm_D} (h : LB C X b L I D) (hs : ST C X t t' 278 244 [.int (lb_g C b I 1)] D) {w5 w6 w7 : Value} : ∃ D2 u5 u6 u7, JK C X t t' D2 ∧ gr D D2 ∧ lx_ex (sm_ev C.1 C.2.1 false 16) 924 [.ref b, .ref X, .ref (X + 49), .ref (X + 89), .int (ni I), w5, w6, w7] [] (C.2.2.1, D) = lx_ex (sm_ev C.1 C.2.1 false 16) 1216 [.ref b, .ref X, .ref (X + 49), .ref (X + 89), .int (ni I), u5, u6, u7] [] (C.2.2.1, D2) := by
  obtain ⟨hX, hl, hb, hsh, hI, hL⟩ := h
  obtain ⟨k, D1, v, D2, h1, h2, h3, h4, h5, h6⟩ := hs
  obtain ⟨e1, l1⟩ := sm_fe_ev (S := (C.2.2.1, D)) (q := false) (d := 16) rfl hl (by decide) h1
  obtain ⟨e2, l2⟩ := sm_fe_ev (S := (C.2.2.1, D1)) (q := false) (d := 16) rfl l1 (by decide) h2
  have e3 := (sm_fe_ev (S := (C.2.2.1, D2)) (q := false) (d := 16) rfl l2 (by decide) (r153 hX)).1
  rw [show (C.2.2.1, D2).2.1 (X + 49) 0 = k from h3] at e3
  refine ⟨D2, .int k, .int v, w7, h5, h6, ?_⟩
  refine Eq.trans (lx_p (pc' := 930) (lv' := [.ref b, .ref X, .ref (X + 49), .ref (X + 89), .int (ni I), w5, w6, w7]) (st' := [.int (ni I + ni 1), .ref b, .ref X]) lx_z12 0 5 rfl) ?_
  refine Eq.trans (lx_ar lx_z12 5 1 rfl hsh (by omega) hL (hl b hb)) ?_
  refine Eq.trans (lx_p (pc' := 932) (lv' := [.ref b, .ref X, .ref (X + 49), .ref (X + 89), .int (ni I), w5, w6, w7]) (st' := [.ref (X + 89), .int (lb_g C b I 1), .ref X]) lx_z12 6 1 rfl) ?_
  refine Eq.trans (lx_S lx_z12 7 rfl lxk_123 lxv_278 lxn_278 rfl rfl rfl rfl e1) ?_
  refine Eq.trans (lx_p (pc' := 943) (lv' := [.ref b, .ref X, .ref (X + 49), .ref (X + 89), .int (ni I), .int k, w6, w7]) (st' := [.int (ni I + ni 1), .ref b, .ref (X + 49)]) lx_z12 8 6 rfl) ?_
  refine Eq.trans (lx_ar lx_z12 14 1 rfl hsh (by omega) hL (l1 b hb)) ?_
  refine Eq.trans (lx_V lx_z12 15 rfl lxk_125 lxv_244 lxn_244 rfl rfl rfl rfl (hX.s 49 rfl) e2) ?_
  refine Eq.trans (lx_p (pc' := 950) (lv' := [.ref b, .ref X, .ref (X + 49), .ref (X + 89), .int (ni I), .int k, .int v, w7]) (st' := [.ref (X + 49)]) lx_z12 16 2 rfl) ?_
  refine Eq.trans (lx_V lx_z12 18 rfl lxk_81 lxv_153 lxn_153 rfl rfl rfl rfl (hX.s 49 rfl) e3) ?_
  refine Eq.trans (lx_p (pc' := 955) (lv' := [.ref b, .ref X, .ref (X + 49), .ref (X + 89), .int (ni I), .int k, .int v, w7]) (st' := [.int k, .int k]) lx_z12 19 1 rfl) ?_
  refine Eq.trans (lx_ic lx_z12 20 rfl (t := 960) (by decide)) ?_
  rw [lx_eq, if_pos rfl]
  refine Eq.trans (lx_p (pc' := 962) (lv' := [.ref b, .ref X, .ref (X + 49), .ref (X + 89), .int (ni I), .int k, .int v, w7]) (st' := [.int k]) lx_z12 23 1 rfl) ?_
  refine Eq.trans (lx_if lx_z12 24 rfl (t := 977) (by decide)) ?_
  by_cases hk : k = ni 0
  · rw [if_neg (show ¬ sm_cmp .ne k 0 = true by rw [hk]; decide)]
    refine Eq.trans (lx_p (pc' := 967) (lv' := [.ref b, .ref X, .ref (X + 49), .ref (X + 89), .int (ni I), .int k, .int v, w7]) (st' := [.int (ni 0), .ref (X + 89)]) lx_z12 25 2 rfl) ?_
    refine Eq.trans (lx_ll lx_z12 27 rfl (hX.s 89 rfl) (by decide)) ?_
    refine Eq.trans (lx_p (pc' := 972) (lv' := [.ref b, .ref X, .ref (X + 49), .ref (X + 89), .int (ni I), .int k, .int v, w7]) (st' := [.int (lg_cmp (D2.2.1 (X + 89) (ni 0).toNatClampNeg) v.toInt64)]) lx_z12 28 3 rfl) ?_
    have hz : lg_cmp (D2.2.1 (X + 89) (ni 0).toNatClampNeg) v.toInt64 = ni 0 := by rw [lg_0, show (ni 0).toNatClampNeg = 0 from by decide]; exact h4 hk
    rw [hz]
    refine Eq.trans (lx_if lx_z12 31 rfl (t := 977) (by decide)) ?_
    rw [if_pos (show sm_cmp .eq (ni 0) 0 = true by decide)]
    exact lx_p (pc' := 1216) (lv' := [.ref b, .ref X, .ref (X + 49), .ref (X + 89), .int (ni I), .int k, .int v, w7]) (st' := []) lx_z12 34 1 rfl
  · rw [if_pos (show sm_cmp .ne k 0 = true from decide_eq_true hk)]
    exact lx_p (pc' := 1216) (lv' := [.ref b, .ref X, .ref (X + 49), .ref (X + 89), .int (ni I), .int k, .int v, w7]) (st' := []) lx_z12 34 1 rfl
def lx_b13 : List (Nat × Instr × Nat) := [(980, .aload_n 1, 1), (981, .aload_n 0, 1), (982, .iload 4, 2), (984, .iconst 1, 1), (985, .iadd, 1), (986, .iaload, 1), (987, .aload_n 0, 1), (988, .iload 4, 2), (990, .iconst 2, 1), (991, .iadd, 1), (992, .iaload, 1), (993, .aload_n 0, 1), (994, .iload 4, 2), (996, .iconst 3, 1), (997, .iadd, 1), (998, .iaload, 1), (999, .aload_n 0, 1), (1000, .iload 4, 2), (1002, .iconst 4, 1), (1003, .iadd, 1), (1004, .iaload, 1), (1005, .aload_n 3, 1), (1006, .invokestatic 126, 3), (1009, .istore 5, 2), (1011, .aload_n 2, 1), (1012, .aload_n 0, 1), (1013, .iload 4, 2), (1015, .iconst 1, 1), (1016, .iadd, 1), (1017, .iaload, 1), (1018, .aload_n 0, 1), (1019, .iload 4, 2), (1021, .iconst 2, 1), (1022, .iadd, 1), (1023, .iaload, 1), (1024, .aload_n 0, 1), (1025, .iload 4, 2), (1027, .iconst 3, 1), (1028, .iadd, 1), (1029, .iaload, 1), (1030, .aload_n 0, 1), (1031, .iload 4, 2), (1033, .iconst 4, 1), (1034, .iadd, 1), (1035, .iaload, 1), (1036, .invokevirtual 128, 3), (1039, .istore 6, 2), (1041, .aload_n 2, 1), (1042, .invokevirtual 81, 3), (1045, .iload 5, 2), (1047, .if_icmp .eq 5, 3), (1050, .iconst 0, 1), (1051, .ireturn, 1), (1052, .iload 5, 2), (1054, .ifCond .ne 15, 3), (1057, .aload_n 3, 1), (1058, .iconst 0, 1), (1059, .laload, 1), (1060, .iload 6, 2), (1062, .i2l, 1), (1063, .lcmp, 1), (1064, .ifCond .eq 5, 3), (1067, .iconst 0, 1), (1068, .ireturn, 1), (1069, .goto 147, 3)]
theorem lx_z13 : lx_in lx_b13 := lx_in_of (by decide +kernel)
theorem lxk_126 : sm_lk 14 126 279 = true := by decide +kernel
theorem lxv_279 : (sm_m 279).2.1.2.2 = true := by decide +kernel
theorem lxn_279 : sm_na 279 = 6 := by decide +kernel
theorem lxk_128 : sm_lk 14 128 245 = true := by decide +kernel
theorem lxv_245 : ((sm_m 245).2.1.2.2 = false ∧ ¬ (sm_m 245).1.1.name = "<init>") ∧ (sm_m 245).2.1.1 < 14 := by decide +kernel
theorem lxn_245 : sm_na 245 = 4 := by decide +kernel
set_option maxRecDepth 8000 in
theorem lb_13 {C : sm_K} {X b L I t t' : Nat} {D : sm_D} (h : LB C X b L I D) (hs : ST C X t t' 279 245 [.int (lb_g C b I 1), .int (lb_g C b I 2), .int (lb_g C b I 3), .int (lb_g C b I 4)] D) {w5 w6 w7 : Value} : ∃ D2 u5 u6 u7, JK C X t t' D2 ∧ gr D D2 ∧ lx_ex (sm_ev C.1 C.2.1 false 16) 980 [.ref b, .ref X, .ref (X + 49), .ref (X + 89), .int (ni I), w5, w6, w7] [] (C.2.2.1, D) = lx_ex (sm_ev C.1 C.2.1 false 16) 1216 [.ref b, .ref X, .ref (X + 49), .ref (X + 89), .int (ni I), u5, u6, u7] [] (C.2.2.1, D2) := by
  obtain ⟨hX, hl, hb, hsh, hI, hL⟩ := h
  obtain ⟨k, D1, v, D2, h1, h2, h3, h4, h5, h6⟩ := hs
  obtain ⟨e1, l1⟩ := sm_fe_ev (S := (C.2.2.1, D)) (q := false) (d := 16) rfl hl (by decide) h1
  obtain ⟨e2, l2⟩ := sm_fe_ev (S := (C.2.2.1, D1)) (q := false) (d := 16) rfl l1 (by decide) h2
  have e3 := (sm_fe_ev (S := (C.2.2.1, D2)) (q := false) (d := 16) rfl l2 (by decide) (r153 hX)).1
  rw [show (C.2.2.1, D2).2.1 (X + 49) 0 = k from h3] at e3
  refine ⟨D2, .int k, .int v, w7, h5, h6, ?_⟩
  refine Eq.trans (lx_p (pc' := 986) (lv' := [.ref b, .ref X, .ref (X + 49), .ref (X + 89), .int (ni I), w5, w6, w7]) (st' := [.int (ni I + ni 1), .ref b, .ref X]) lx_z13 0 5 rfl) ?_
  refine Eq.trans (lx_ar lx_z13 5 1 rfl hsh (by omega) hL (hl b hb)) ?_
  refine Eq.trans (lx_p (pc' := 992) (lv' := [.ref b, .ref X, .ref (X + 49), .ref (X + 89), .int (ni I), w5, w6, w7]) (st' := [.int (ni I + ni 2), .ref b, .int (lb_g C b I 1), .ref X]) lx_z13 6 4 rfl) ?_
  refine Eq.trans (lx_ar lx_z13 10 2 rfl hsh (by omega) hL (hl b hb)) ?_
  refine Eq.trans (lx_p (pc' := 998) (lv' := [.ref b, .ref X, .ref (X + 49), .ref (X + 89), .int (ni I), w5, w6, w7]) (st' := [.int (ni I + ni 3), .ref b, .int (lb_g C b I 2), .int (lb_g C b I 1), .ref X]) lx_z13 11 4 rfl) ?_
  refine Eq.trans (lx_ar lx_z13 15 3 rfl hsh (by omega) hL (hl b hb)) ?_
  refine Eq.trans (lx_p (pc' := 1004) (lv' := [.ref b, .ref X, .ref (X + 49), .ref (X + 89), .int (ni I), w5, w6, w7]) (st' := [.int (ni I + ni 4), .ref b, .int (lb_g C b I 3), .int (lb_g C b I 2), .int (lb_g C b I 1), .ref X]) lx_z13 16 4 rfl) ?_
  refine Eq.trans (lx_ar lx_z13 20 4 rfl hsh (by omega) hL (hl b hb)) ?_
  refine Eq.trans (lx_p (pc' := 1006) (lv' := [.ref b, .ref X, .ref (X + 49), .ref (X + 89), .int (ni I), w5, w6, w7]) (st' := [.ref (X + 89), .int (lb_g C b I 4), .int (lb_g C b I 3), .int (lb_g C b I 2), .int (lb_g C b I 1), .ref X]) lx_z13 21 1 rfl) ?_
  refine Eq.trans (lx_S lx_z13 22 rfl lxk_126 lxv_279 lxn_279 rfl rfl rfl rfl e1) ?_
  refine Eq.trans (lx_p (pc' := 1017) (lv' := [.ref b, .ref X, .ref (X + 49), .ref (X + 89), .int (ni I), .int k, w6, w7]) (st' := [.int (ni I + ni 1), .ref b, .ref (X + 49)]) lx_z13 23 6 rfl) ?_
  refine Eq.trans (lx_ar lx_z13 29 1 rfl hsh (by omega) hL (l1 b hb)) ?_
  refine Eq.trans (lx_p (pc' := 1023) (lv' := [.ref b, .ref X, .ref (X + 49), .ref (X + 89), .int (ni I), .int k, w6, w7]) (st' := [.int (ni I + ni 2), .ref b, .int (lb_g C b I 1), .ref (X + 49)]) lx_z13 30 4 rfl) ?_
  refine Eq.trans (lx_ar lx_z13 34 2 rfl hsh (by omega) hL (l1 b hb)) ?_
  refine Eq.trans (lx_p (pc' := 1029) (lv' := [.ref b, .ref X, .ref (X + 49), .ref (X + 89), .int (ni I), .int k, w6, w7]) (st' := [.int (ni I + ni 3), .ref b, .int (lb_g C b I 2), .int (lb_g C b I 1), .ref (X + 49)]) lx_z13 35 4 rfl) ?_
  refine Eq.trans (lx_ar lx_z13 39 3 rfl hsh (by omega) hL (l1 b hb)) ?_
  refine Eq.trans (lx_p (pc' := 1035) (lv' := [.ref b, .ref X, .ref (X + 49), .ref (X + 89), .int (ni I), .int k, w6, w7]) (st' := [.int (ni I + ni 4), .ref b, .int (lb_g C b I 3), .int (lb_g C b I 2), .int (lb_g C b I 1), .ref (X + 49)]) lx_z13 40 4 rfl) ?_
  refine Eq.trans (lx_ar lx_z13 44 4 rfl hsh (by omega) hL (l1 b hb)) ?_
  refine Eq.trans (lx_V lx_z13 45 rfl lxk_128 lxv_245 lxn_245 rfl rfl rfl rfl (hX.s 49 rfl) e2) ?_
  refine Eq.trans (lx_p (pc' := 1042) (lv' := [.ref b, .ref X, .ref (X + 49), .ref (X + 89), .int (ni I), .int k, .int v, w7]) (st' := [.ref (X + 49)]) lx_z13 46 2 rfl) ?_
  refine Eq.trans (lx_V lx_z13 48 rfl lxk_81 lxv_153 lxn_153 rfl rfl rfl rfl (hX.s 49 rfl) e3) ?_
  refine Eq.trans (lx_p (pc' := 1047) (lv' := [.ref b, .ref X, .ref (X + 49), .ref (X + 89), .int (ni I), .int k, .int v, w7]) (st' := [.int k, .int k]) lx_z13 49 1 rfl) ?_
  refine Eq.trans (lx_ic lx_z13 50 rfl (t := 1052) (by decide)) ?_
  rw [lx_eq, if_pos rfl]
  refine Eq.trans (lx_p (pc' := 1054) (lv' := [.ref b, .ref X, .ref (X + 49), .ref (X + 89), .int (ni I), .int k, .int v, w7]) (st' := [.int k]) lx_z13 53 1 rfl) ?_
  refine Eq.trans (lx_if lx_z13 54 rfl (t := 1069) (by decide)) ?_
  by_cases hk : k = ni 0
  · rw [if_neg (show ¬ sm_cmp .ne k 0 = true by rw [hk]; decide)]
    refine Eq.trans (lx_p (pc' := 1059) (lv' := [.ref b, .ref X, .ref (X + 49), .ref (X + 89), .int (ni I), .int k, .int v, w7]) (st' := [.int (ni 0), .ref (X + 89)]) lx_z13 55 2 rfl) ?_
    refine Eq.trans (lx_ll lx_z13 57 rfl (hX.s 89 rfl) (by decide)) ?_
    refine Eq.trans (lx_p (pc' := 1064) (lv' := [.ref b, .ref X, .ref (X + 49), .ref (X + 89), .int (ni I), .int k, .int v, w7]) (st' := [.int (lg_cmp (D2.2.1 (X + 89) (ni 0).toNatClampNeg) v.toInt64)]) lx_z13 58 3 rfl) ?_
    have hz : lg_cmp (D2.2.1 (X + 89) (ni 0).toNatClampNeg) v.toInt64 = ni 0 := by rw [lg_0, show (ni 0).toNatClampNeg = 0 from by decide]; exact h4 hk
    rw [hz]
    refine Eq.trans (lx_if lx_z13 61 rfl (t := 1069) (by decide)) ?_
    rw [if_pos (show sm_cmp .eq (ni 0) 0 = true by decide)]
    exact lx_p (pc' := 1216) (lv' := [.ref b, .ref X, .ref (X + 49), .ref (X + 89), .int (ni I), .int k, .int v, w7]) (st' := []) lx_z13 64 1 rfl
  · rw [if_pos (show sm_cmp .ne k 0 = true from decide_eq_true hk)]
    exact lx_p (pc' := 1216) (lv' := [.ref b, .ref X, .ref (X + 49), .ref (X + 89), .int (ni I), .int k, .int v, w7]) (st' := []) lx_z13 64 1 rfl
def lx_b14 : List (Nat × Instr × Nat) := [(1072, .aload_n 1, 1), (1073, .aload_n 3, 1), (1074, .invokestatic 129, 3), (1077, .istore 5, 2), (1079, .aload_n 2, 1), (1080, .invokevirtual 132, 3), (1083, .istore 6, 2), (1085, .aload_n 2, 1), (1086, .invokevirtual 81, 3), (1089, .iload 5, 2), (1091, .if_icmp .eq 5, 3), (1094, .iconst 0, 1), (1095, .ireturn, 1), (1096, .iload 5, 2), (1098, .ifCond .ne 15, 3), (1101, .aload_n 3, 1), (1102, .iconst 0, 1), (1103, .laload, 1), (1104, .iload 6, 2), (1106, .i2l, 1), (1107, .lcmp, 1), (1108, .ifCond .eq 5, 3), (1111, .iconst 0, 1), (1112, .ireturn, 1), (1113, .goto 103, 3)]
theorem lx_z14 : lx_in lx_b14 := lx_in_of (by decide +kernel)
theorem lxk_129 : sm_lk 14 129 280 = true := by decide +kernel
theorem lxv_280 : (sm_m 280).2.1.2.2 = true := by decide +kernel
theorem lxn_280 : sm_na 280 = 2 := by decide +kernel
theorem lxk_132 : sm_lk 14 132 246 = true := by decide +kernel
theorem lxv_246 : ((sm_m 246).2.1.2.2 = false ∧ ¬ (sm_m 246).1.1.name = "<init>") ∧ (sm_m 246).2.1.1 < 14 := by decide +kernel
theorem lxn_246 : sm_na 246 = 0 := by decide +kernel
set_option maxRecDepth 8000 in
theorem lb_14 {C : sm_K} {X b L I t t' : Nat} {D : sm_D} (h : LB C X b L I D) (hs : ST C X t t' 280 246 [] D) {w5 w6 w7 : Value} : ∃ D2 u5 u6 u7, JK C X t t' D2 ∧ gr D D2 ∧ lx_ex (sm_ev C.1 C.2.1 false 16) 1072 [.ref b, .ref X, .ref (X + 49), .ref (X + 89), .int (ni I), w5, w6, w7] [] (C.2.2.1, D) = lx_ex (sm_ev C.1 C.2.1 false 16) 1216 [.ref b, .ref X, .ref (X + 49), .ref (X + 89), .int (ni I), u5, u6, u7] [] (C.2.2.1, D2) := by
  obtain ⟨hX, hl, hb, hsh, hI, hL⟩ := h
  obtain ⟨k, D1, v, D2, h1, h2, h3, h4, h5, h6⟩ := hs
  obtain ⟨e1, l1⟩ := sm_fe_ev (S := (C.2.2.1, D)) (q := false) (d := 16) rfl hl (by decide) h1
  obtain ⟨e2, l2⟩ := sm_fe_ev (S := (C.2.2.1, D1)) (q := false) (d := 16) rfl l1 (by decide) h2
  have e3 := (sm_fe_ev (S := (C.2.2.1, D2)) (q := false) (d := 16) rfl l2 (by decide) (r153 hX)).1
  rw [show (C.2.2.1, D2).2.1 (X + 49) 0 = k from h3] at e3
  refine ⟨D2, .int k, .int v, w7, h5, h6, ?_⟩
  refine Eq.trans (lx_p (pc' := 1074) (lv' := [.ref b, .ref X, .ref (X + 49), .ref (X + 89), .int (ni I), w5, w6, w7]) (st' := [.ref (X + 89), .ref X]) lx_z14 0 2 rfl) ?_
  refine Eq.trans (lx_S lx_z14 2 rfl lxk_129 lxv_280 lxn_280 rfl rfl rfl rfl e1) ?_
  refine Eq.trans (lx_p (pc' := 1080) (lv' := [.ref b, .ref X, .ref (X + 49), .ref (X + 89), .int (ni I), .int k, w6, w7]) (st' := [.ref (X + 49)]) lx_z14 3 2 rfl) ?_
  refine Eq.trans (lx_V lx_z14 5 rfl lxk_132 lxv_246 lxn_246 rfl rfl rfl rfl (hX.s 49 rfl) e2) ?_
  refine Eq.trans (lx_p (pc' := 1086) (lv' := [.ref b, .ref X, .ref (X + 49), .ref (X + 89), .int (ni I), .int k, .int v, w7]) (st' := [.ref (X + 49)]) lx_z14 6 2 rfl) ?_
  refine Eq.trans (lx_V lx_z14 8 rfl lxk_81 lxv_153 lxn_153 rfl rfl rfl rfl (hX.s 49 rfl) e3) ?_
  refine Eq.trans (lx_p (pc' := 1091) (lv' := [.ref b, .ref X, .ref (X + 49), .ref (X + 89), .int (ni I), .int k, .int v, w7]) (st' := [.int k, .int k]) lx_z14 9 1 rfl) ?_
  refine Eq.trans (lx_ic lx_z14 10 rfl (t := 1096) (by decide)) ?_
  rw [lx_eq, if_pos rfl]
  refine Eq.trans (lx_p (pc' := 1098) (lv' := [.ref b, .ref X, .ref (X + 49), .ref (X + 89), .int (ni I), .int k, .int v, w7]) (st' := [.int k]) lx_z14 13 1 rfl) ?_
  refine Eq.trans (lx_if lx_z14 14 rfl (t := 1113) (by decide)) ?_
  by_cases hk : k = ni 0
  · rw [if_neg (show ¬ sm_cmp .ne k 0 = true by rw [hk]; decide)]
    refine Eq.trans (lx_p (pc' := 1103) (lv' := [.ref b, .ref X, .ref (X + 49), .ref (X + 89), .int (ni I), .int k, .int v, w7]) (st' := [.int (ni 0), .ref (X + 89)]) lx_z14 15 2 rfl) ?_
    refine Eq.trans (lx_ll lx_z14 17 rfl (hX.s 89 rfl) (by decide)) ?_
    refine Eq.trans (lx_p (pc' := 1108) (lv' := [.ref b, .ref X, .ref (X + 49), .ref (X + 89), .int (ni I), .int k, .int v, w7]) (st' := [.int (lg_cmp (D2.2.1 (X + 89) (ni 0).toNatClampNeg) v.toInt64)]) lx_z14 18 3 rfl) ?_
    have hz : lg_cmp (D2.2.1 (X + 89) (ni 0).toNatClampNeg) v.toInt64 = ni 0 := by rw [lg_0, show (ni 0).toNatClampNeg = 0 from by decide]; exact h4 hk
    rw [hz]
    refine Eq.trans (lx_if lx_z14 21 rfl (t := 1113) (by decide)) ?_
    rw [if_pos (show sm_cmp .eq (ni 0) 0 = true by decide)]
    exact lx_p (pc' := 1216) (lv' := [.ref b, .ref X, .ref (X + 49), .ref (X + 89), .int (ni I), .int k, .int v, w7]) (st' := []) lx_z14 24 1 rfl
  · rw [if_pos (show sm_cmp .ne k 0 = true from decide_eq_true hk)]
    exact lx_p (pc' := 1216) (lv' := [.ref b, .ref X, .ref (X + 49), .ref (X + 89), .int (ni I), .int k, .int v, w7]) (st' := []) lx_z14 24 1 rfl
def lx_b15 : List (Nat × Instr × Nat) := [(1116, .aload_n 1, 1), (1117, .aload_n 0, 1), (1118, .iload 4, 2), (1120, .iconst 1, 1), (1121, .iadd, 1), (1122, .iaload, 1), (1123, .aload_n 3, 1), (1124, .invokestatic 133, 3), (1127, .istore 5, 2), (1129, .aload_n 2, 1), (1130, .aload_n 0, 1), (1131, .iload 4, 2), (1133, .iconst 1, 1), (1134, .iadd, 1), (1135, .iaload, 1), (1136, .invokevirtual 135, 3), (1139, .istore 6, 2), (1141, .aload_n 2, 1), (1142, .invokevirtual 81, 3), (1145, .iload 5, 2), (1147, .if_icmp .eq 5, 3), (1150, .iconst 0, 1), (1151, .ireturn, 1), (1152, .iload 5, 2), (1154, .ifCond .ne 15, 3), (1157, .aload_n 3, 1), (1158, .iconst 0, 1), (1159, .laload, 1), (1160, .iload 6, 2), (1162, .i2l, 1), (1163, .lcmp, 1), (1164, .ifCond .eq 5, 3), (1167, .iconst 0, 1), (1168, .ireturn, 1), (1169, .goto 47, 3)]
theorem lx_z15 : lx_in lx_b15 := lx_in_of (by decide +kernel)
theorem lxk_133 : sm_lk 14 133 281 = true := by decide +kernel
theorem lxv_281 : (sm_m 281).2.1.2.2 = true := by decide +kernel
theorem lxn_281 : sm_na 281 = 3 := by decide +kernel
theorem lxk_135 : sm_lk 14 135 258 = true := by decide +kernel
theorem lxv_258 : ((sm_m 258).2.1.2.2 = false ∧ ¬ (sm_m 258).1.1.name = "<init>") ∧ (sm_m 258).2.1.1 < 14 := by decide +kernel
theorem lxn_258 : sm_na 258 = 1 := by decide +kernel
set_option maxRecDepth 8000 in
theorem lb_15 {C : sm_K} {X b L I t t' : Nat} {D : sm_D} (h : LB C X b L I D) (hs : ST C X t t' 281 258 [.int (lb_g C b I 1)] D) {w5 w6 w7 : Value} : ∃ D2 u5 u6 u7, JK C X t t' D2 ∧ gr D D2 ∧ lx_ex (sm_ev C.1 C.2.1 false 16) 1116 [.ref b, .ref X, .ref (X + 49), .ref (X + 89), .int (ni I), w5, w6, w7] [] (C.2.2.1, D) = lx_ex (sm_ev C.1 C.2.1 false 16) 1216 [.ref b, .ref X, .ref (X + 49), .ref (X + 89), .int (ni I), u5, u6, u7] [] (C.2.2.1, D2) := by
  obtain ⟨hX, hl, hb, hsh, hI, hL⟩ := h
  obtain ⟨k, D1, v, D2, h1, h2, h3, h4, h5, h6⟩ := hs
  obtain ⟨e1, l1⟩ := sm_fe_ev (S := (C.2.2.1, D)) (q := false) (d := 16) rfl hl (by decide) h1
  obtain ⟨e2, l2⟩ := sm_fe_ev (S := (C.2.2.1, D1)) (q := false) (d := 16) rfl l1 (by decide) h2
  have e3 := (sm_fe_ev (S := (C.2.2.1, D2)) (q := false) (d := 16) rfl l2 (by decide) (r153 hX)).1
  rw [show (C.2.2.1, D2).2.1 (X + 49) 0 = k from h3] at e3
  refine ⟨D2, .int k, .int v, w7, h5, h6, ?_⟩
  refine Eq.trans (lx_p (pc' := 1122) (lv' := [.ref b, .ref X, .ref (X + 49), .ref (X + 89), .int (ni I), w5, w6, w7]) (st' := [.int (ni I + ni 1), .ref b, .ref X]) lx_z15 0 5 rfl) ?_
  refine Eq.trans (lx_ar lx_z15 5 1 rfl hsh (by omega) hL (hl b hb)) ?_
  refine Eq.trans (lx_p (pc' := 1124) (lv' := [.ref b, .ref X, .ref (X + 49), .ref (X + 89), .int (ni I), w5, w6, w7]) (st' := [.ref (X + 89), .int (lb_g C b I 1), .ref X]) lx_z15 6 1 rfl) ?_
  refine Eq.trans (lx_S lx_z15 7 rfl lxk_133 lxv_281 lxn_281 rfl rfl rfl rfl e1) ?_
  refine Eq.trans (lx_p (pc' := 1135) (lv' := [.ref b, .ref X, .ref (X + 49), .ref (X + 89), .int (ni I), .int k, w6, w7]) (st' := [.int (ni I + ni 1), .ref b, .ref (X + 49)]) lx_z15 8 6 rfl) ?_
  refine Eq.trans (lx_ar lx_z15 14 1 rfl hsh (by omega) hL (l1 b hb)) ?_
  refine Eq.trans (lx_V lx_z15 15 rfl lxk_135 lxv_258 lxn_258 rfl rfl rfl rfl (hX.s 49 rfl) e2) ?_
  refine Eq.trans (lx_p (pc' := 1142) (lv' := [.ref b, .ref X, .ref (X + 49), .ref (X + 89), .int (ni I), .int k, .int v, w7]) (st' := [.ref (X + 49)]) lx_z15 16 2 rfl) ?_
  refine Eq.trans (lx_V lx_z15 18 rfl lxk_81 lxv_153 lxn_153 rfl rfl rfl rfl (hX.s 49 rfl) e3) ?_
  refine Eq.trans (lx_p (pc' := 1147) (lv' := [.ref b, .ref X, .ref (X + 49), .ref (X + 89), .int (ni I), .int k, .int v, w7]) (st' := [.int k, .int k]) lx_z15 19 1 rfl) ?_
  refine Eq.trans (lx_ic lx_z15 20 rfl (t := 1152) (by decide)) ?_
  rw [lx_eq, if_pos rfl]
  refine Eq.trans (lx_p (pc' := 1154) (lv' := [.ref b, .ref X, .ref (X + 49), .ref (X + 89), .int (ni I), .int k, .int v, w7]) (st' := [.int k]) lx_z15 23 1 rfl) ?_
  refine Eq.trans (lx_if lx_z15 24 rfl (t := 1169) (by decide)) ?_
  by_cases hk : k = ni 0
  · rw [if_neg (show ¬ sm_cmp .ne k 0 = true by rw [hk]; decide)]
    refine Eq.trans (lx_p (pc' := 1159) (lv' := [.ref b, .ref X, .ref (X + 49), .ref (X + 89), .int (ni I), .int k, .int v, w7]) (st' := [.int (ni 0), .ref (X + 89)]) lx_z15 25 2 rfl) ?_
    refine Eq.trans (lx_ll lx_z15 27 rfl (hX.s 89 rfl) (by decide)) ?_
    refine Eq.trans (lx_p (pc' := 1164) (lv' := [.ref b, .ref X, .ref (X + 49), .ref (X + 89), .int (ni I), .int k, .int v, w7]) (st' := [.int (lg_cmp (D2.2.1 (X + 89) (ni 0).toNatClampNeg) v.toInt64)]) lx_z15 28 3 rfl) ?_
    have hz : lg_cmp (D2.2.1 (X + 89) (ni 0).toNatClampNeg) v.toInt64 = ni 0 := by rw [lg_0, show (ni 0).toNatClampNeg = 0 from by decide]; exact h4 hk
    rw [hz]
    refine Eq.trans (lx_if lx_z15 31 rfl (t := 1169) (by decide)) ?_
    rw [if_pos (show sm_cmp .eq (ni 0) 0 = true by decide)]
    exact lx_p (pc' := 1216) (lv' := [.ref b, .ref X, .ref (X + 49), .ref (X + 89), .int (ni I), .int k, .int v, w7]) (st' := []) lx_z15 34 1 rfl
  · rw [if_pos (show sm_cmp .ne k 0 = true from decide_eq_true hk)]
    exact lx_p (pc' := 1216) (lv' := [.ref b, .ref X, .ref (X + 49), .ref (X + 89), .int (ni I), .int k, .int v, w7]) (st' := []) lx_z15 34 1 rfl
def lx_b16 : List (Nat × Instr × Nat) := [(1172, .aload_n 1, 1), (1173, .aload_n 3, 1), (1174, .invokestatic 136, 3), (1177, .istore 5, 2), (1179, .aload_n 2, 1), (1180, .invokevirtual 138, 3), (1183, .istore 6, 2), (1185, .aload_n 2, 1), (1186, .invokevirtual 81, 3), (1189, .iload 5, 2), (1191, .if_icmp .eq 5, 3), (1194, .iconst 0, 1), (1195, .ireturn, 1), (1196, .iload 5, 2), (1198, .ifCond .ne 15, 3), (1201, .aload_n 3, 1), (1202, .iconst 0, 1), (1203, .laload, 1), (1204, .iload 6, 2), (1206, .i2l, 1), (1207, .lcmp, 1), (1208, .ifCond .eq 5, 3), (1211, .iconst 0, 1), (1212, .ireturn, 1), (1213, .goto 3, 3)]
theorem lx_z16 : lx_in lx_b16 := lx_in_of (by decide +kernel)
theorem lxk_136 : sm_lk 14 136 282 = true := by decide +kernel
theorem lxv_282 : (sm_m 282).2.1.2.2 = true := by decide +kernel
theorem lxn_282 : sm_na 282 = 2 := by decide +kernel
theorem lxk_138 : sm_lk 14 138 259 = true := by decide +kernel
theorem lxv_259 : ((sm_m 259).2.1.2.2 = false ∧ ¬ (sm_m 259).1.1.name = "<init>") ∧ (sm_m 259).2.1.1 < 14 := by decide +kernel
theorem lxn_259 : sm_na 259 = 0 := by decide +kernel
set_option maxRecDepth 8000 in
theorem lb_16 {C : sm_K} {X b L I t t' : Nat} {D : sm_D} (h : LB C X b L I D) (hs : ST C X t t' 282 259 [] D) {w5 w6 w7 : Value} : ∃ D2 u5 u6 u7, JK C X t t' D2 ∧ gr D D2 ∧ lx_ex (sm_ev C.1 C.2.1 false 16) 1172 [.ref b, .ref X, .ref (X + 49), .ref (X + 89), .int (ni I), w5, w6, w7] [] (C.2.2.1, D) = lx_ex (sm_ev C.1 C.2.1 false 16) 1216 [.ref b, .ref X, .ref (X + 49), .ref (X + 89), .int (ni I), u5, u6, u7] [] (C.2.2.1, D2) := by
  obtain ⟨hX, hl, hb, hsh, hI, hL⟩ := h
  obtain ⟨k, D1, v, D2, h1, h2, h3, h4, h5, h6⟩ := hs
  obtain ⟨e1, l1⟩ := sm_fe_ev (S := (C.2.2.1, D)) (q := false) (d := 16) rfl hl (by decide) h1
  obtain ⟨e2, l2⟩ := sm_fe_ev (S := (C.2.2.1, D1)) (q := false) (d := 16) rfl l1 (by decide) h2
  have e3 := (sm_fe_ev (S := (C.2.2.1, D2)) (q := false) (d := 16) rfl l2 (by decide) (r153 hX)).1
  rw [show (C.2.2.1, D2).2.1 (X + 49) 0 = k from h3] at e3
  refine ⟨D2, .int k, .int v, w7, h5, h6, ?_⟩
  refine Eq.trans (lx_p (pc' := 1174) (lv' := [.ref b, .ref X, .ref (X + 49), .ref (X + 89), .int (ni I), w5, w6, w7]) (st' := [.ref (X + 89), .ref X]) lx_z16 0 2 rfl) ?_
  refine Eq.trans (lx_S lx_z16 2 rfl lxk_136 lxv_282 lxn_282 rfl rfl rfl rfl e1) ?_
  refine Eq.trans (lx_p (pc' := 1180) (lv' := [.ref b, .ref X, .ref (X + 49), .ref (X + 89), .int (ni I), .int k, w6, w7]) (st' := [.ref (X + 49)]) lx_z16 3 2 rfl) ?_
  refine Eq.trans (lx_V lx_z16 5 rfl lxk_138 lxv_259 lxn_259 rfl rfl rfl rfl (hX.s 49 rfl) e2) ?_
  refine Eq.trans (lx_p (pc' := 1186) (lv' := [.ref b, .ref X, .ref (X + 49), .ref (X + 89), .int (ni I), .int k, .int v, w7]) (st' := [.ref (X + 49)]) lx_z16 6 2 rfl) ?_
  refine Eq.trans (lx_V lx_z16 8 rfl lxk_81 lxv_153 lxn_153 rfl rfl rfl rfl (hX.s 49 rfl) e3) ?_
  refine Eq.trans (lx_p (pc' := 1191) (lv' := [.ref b, .ref X, .ref (X + 49), .ref (X + 89), .int (ni I), .int k, .int v, w7]) (st' := [.int k, .int k]) lx_z16 9 1 rfl) ?_
  refine Eq.trans (lx_ic lx_z16 10 rfl (t := 1196) (by decide)) ?_
  rw [lx_eq, if_pos rfl]
  refine Eq.trans (lx_p (pc' := 1198) (lv' := [.ref b, .ref X, .ref (X + 49), .ref (X + 89), .int (ni I), .int k, .int v, w7]) (st' := [.int k]) lx_z16 13 1 rfl) ?_
  refine Eq.trans (lx_if lx_z16 14 rfl (t := 1213) (by decide)) ?_
  by_cases hk : k = ni 0
  · rw [if_neg (show ¬ sm_cmp .ne k 0 = true by rw [hk]; decide)]
    refine Eq.trans (lx_p (pc' := 1203) (lv' := [.ref b, .ref X, .ref (X + 49), .ref (X + 89), .int (ni I), .int k, .int v, w7]) (st' := [.int (ni 0), .ref (X + 89)]) lx_z16 15 2 rfl) ?_
    refine Eq.trans (lx_ll lx_z16 17 rfl (hX.s 89 rfl) (by decide)) ?_
    refine Eq.trans (lx_p (pc' := 1208) (lv' := [.ref b, .ref X, .ref (X + 49), .ref (X + 89), .int (ni I), .int k, .int v, w7]) (st' := [.int (lg_cmp (D2.2.1 (X + 89) (ni 0).toNatClampNeg) v.toInt64)]) lx_z16 18 3 rfl) ?_
    have hz : lg_cmp (D2.2.1 (X + 89) (ni 0).toNatClampNeg) v.toInt64 = ni 0 := by rw [lg_0, show (ni 0).toNatClampNeg = 0 from by decide]; exact h4 hk
    rw [hz]
    refine Eq.trans (lx_if lx_z16 21 rfl (t := 1213) (by decide)) ?_
    rw [if_pos (show sm_cmp .eq (ni 0) 0 = true by decide)]
    exact lx_p (pc' := 1216) (lv' := [.ref b, .ref X, .ref (X + 49), .ref (X + 89), .int (ni I), .int k, .int v, w7]) (st' := []) lx_z16 24 1 rfl
  · rw [if_pos (show sm_cmp .ne k 0 = true from decide_eq_true hk)]
    exact lx_p (pc' := 1216) (lv' := [.ref b, .ref X, .ref (X + 49), .ref (X + 89), .int (ni I), .int k, .int v, w7]) (st' := []) lx_z16 24 1 rfl
