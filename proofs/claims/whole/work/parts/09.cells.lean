/-! ===== soundness of the instructions that touch cells ===== -/
theorem sm_T1 (c : Nat) (hc : c < 14) : ∀ f, f < sm_nf c → (sm_T c f).1 = sm_cn c := by
  match c, hc with
  | 0, _ => decide +kernel
  | 1, _ => decide +kernel
  | 2, _ => decide +kernel
  | 3, _ => decide +kernel
  | 4, _ => decide +kernel
  | 5, _ => decide +kernel
  | 6, _ => decide +kernel
  | 7, _ => decide +kernel
  | 8, _ => decide +kernel
  | 9, _ => decide +kernel
  | 10, _ => decide +kernel
  | 11, _ => decide +kernel
  | 12, _ => decide +kernel
  | 13, _ => decide +kernel
def sm_GS_w (q : Nat × Nat) : Cond := if q.2 = 0 then .fieldLink (sm_own q.1) (q.1 % 65536) "java/lang/String" "COMPACT_STRINGS" "Z" else if q.2 = 1 then .fieldLink (sm_own q.1) (q.1 % 65536) "jdk/internal/util/Preconditions" "SIOOBE_FORMATTER" "Ljava/util/function/BiFunction;" else .fieldLinkNest (sm_own q.1) (q.1 % 65536) "MessageTree" "MONTH_DAYS" "[I" "MessageTree"
set_option maxRecDepth 100000 in
theorem sm_GS_c : sm_in (sm_GS.map sm_GS_w) := sm_in_ch [(3, 14), (3, 34), (4, 175)] rfl
theorem sm_GS_ok : ∀ q ∈ sm_GS, sm_GS_w q ∈ lw_tbl := fun q hq => sm_GS_c _ (List.mem_map.mpr ⟨q, hq, rfl⟩)
section SDC
variable {p : Program} {l : Launch} {e : Env} {R : Room} {s : State} {m : MethodId} {args : Array Value} {below : List Frame} {meth : Method} {c : Code} {H : Heap} {locs : List Loc} {cells slots : Nat} {Q : State → Prop} {cc : ByteArray}
variable {E : sm_E} {G : va_G} {B : Nat} {Hb : Heap} {S S' : sm_S} {k idx len pc pc' : Nat} {lv st lv' st' : List Value} {ls : Array Slot}
theorem sm_own_of (hi : idx < 65536) {α : Type} {l : List (Nat × α)} {v : α} (h : sm_look l (sm_key k idx) = some v) : ((sm_key k idx, v) ∈ l) ∧ sm_own (sm_key k idx) = sm_cn (sm_m k).2.1.1 ∧ sm_key k idx % 65536 = idx :=
  ⟨sm_look_mem h, sm_key_own k idx hi⟩
/-- the words of a class's own fields, at a state of the tables -/
theorem sm_uts (hF : sm_Fix E G B Hb s) {o : Nat} (ho : o < 13) : ∀ w ∈ u_ws (sm_cn o) (sm_T o) (sm_nf o), w.before args s = true := by
  intro w hw
  have h1 : sm_good w = true ∧ w.onTables = true := by
    obtain ⟨j, -, hj⟩ := List.mem_map.mp hw
    rw [← hj]
    unfold u_lay
    split
    · exact ⟨rfl, rfl⟩
    · exact ⟨rfl, rfl⟩
  exact sm_word hF (sm_uw o ho w hw) h1.1 h1.2
/-- a field: where it is found, its slot, that it is no static one -/
theorem sm_fd (hF : sm_Fix E G B Hb s) {o f : Nat} (ho : o < 14) (hf : f < sm_nf o) : ∃ cf kf fi fd, s.fieldFound? (sm_cn o) (sm_T o f).2.1 (sm_T o f).2.2.1 = some (cf, kf, fi, fd) ∧ fd.slot = G.2 o f ∧ fd.isStatic = false := by
  have hK := (hF.2.1.1 o _ (sm_vc_at ho)).1 f hf
  obtain ⟨cf, kf, fi, fd, h1, h2⟩ := hK
  have e := sm_T1 o ho f hf
  by_cases hs : o < 13
  · obtain ⟨hfc, kC, hkC, -⟩ := (hF.2.1.1 o _ (sm_vc_at ho)).2
    have h3 := (u_facts hfc hkC (u_lays (sm_uts (args := #[]) hF hs) (fun _ h => h) hf) h1).1
    rw [e] at h1
    exact ⟨cf, kf, fi, fd, h1, h2, h3⟩
  · have e13 : o = 13 := by omega
    subst e13
    obtain ⟨cf', kf', fi', fd', h3, h4⟩ := hF.2.2.2.2.2.2.1 f hf
    rw [h1] at h3
    cases h3
    rw [e] at h1
    exact ⟨cf, kf, fi, fd, h1, h2, h4⟩
theorem sd_getf (hx : p.tables.exec = Jvm.exec) (hb : c.code = cc) (hown : s.vm.findClass (sm_cn (sm_m k).2.1.1) = some m.cls) (hF : sm_Fix E G B Hb s) (hR : sm_Rep G B Hb s S H) (hi : idx < 65536) (hd : decode cc pc = .ok (.getfield idx, len))
    (h : sm_getf k idx len pc lv st S = some (.inl (pc', lv', st', S'))) (kk : lv' = lv → S' = S → W p l e R s m args below meth c H locs cells slots Q (F0 m pc' ls st')) : W p l e R s m args below meth c H locs cells slots Q (F0 m pc ls st) := by
  unfold sm_getf at h
  split at h
  · next a r o f hlk =>
    split at h
    · next hc =>
      obtain ⟨rfl, ho, hf, hsh⟩ := hc
      cases h
      obtain ⟨hm, e1, e2⟩ := sm_own_of hi hlk
      have hw := sm_word (args := args) hF (sm_F_ok _ hm) rfl rfl
      unfold sm_F_w at hw
      simp only [e1, e2] at hw
      obtain ⟨cf, kf, fi, fd, g1, g2, g3⟩ := sm_fd hF ho hf
      obtain ⟨-, cell, q1, q2, q3, q4, q5, q6⟩ := hR.2.2.2.2.1 a o hsh
      exact W.getf hx hb hown hw g1 g3 q1 q4 (by rw [g2]; exact q6 f hf) rfl rfl hd (kk rfl rfl)
    · cases h
  · cases h
/-- a static's value, as the heap now holds it -/
theorem sm_Zc {C n d : String} {v : Value} (hR : sm_Rep G B Hb s S H) (hZ : va_Z C n d v (fun a => B ≤ a) s Hb) : ∃ (cf : ClassId) (kf : Class) (fi : Nat) (f : Field) (a : Nat) (cell : Cell), s.fieldFound? C n d = some (cf, kf, fi, f) ∧ f.isStatic = true ∧ kf.init = .initialized ∧ kf.statics = some a ∧ H[a]? = some cell ∧ cell.vm ≠ .unknown ∧ cell.slots[f.slot]? = some v := by
  obtain ⟨cf, kf, fi, f, a, cell, h1, h2, h3, h4, h5, h6, h7, h8⟩ := hZ
  have h9 : ¬ B ≤ a := h8
  exact ⟨cf, kf, fi, f, a, cell, h1, h2, h3, h4, (by rw [hR.2.2.2.1 a (by omega)]; exact h5), (fun e => by rw [e] at h6; cases h6), h7⟩
theorem sd_gets (hx : p.tables.exec = Jvm.exec) (hb : c.code = cc) (hown : s.vm.findClass (sm_cn (sm_m k).2.1.1) = some m.cls) (hF : sm_Fix E G B Hb s) (hR : sm_Rep G B Hb s S H) (hi : idx < 65536) (hd : decode cc pc = .ok (.getstatic idx, len))
    (h : sm_gets E k idx len pc lv st S = some (.inl (pc', lv', st', S'))) (kk : lv' = lv → S' = S → W p l e R s m args below meth c H locs cells slots Q (F0 m pc' ls st')) : W p l e R s m args below meth c H locs cells slots Q (F0 m pc ls st) := by
  unfold sm_gets at h
  split at h
  · next hlk =>
    split at h
    · next hc =>
      subst hc
      cases h
      obtain ⟨hm, e1, e2⟩ := sm_own_of hi hlk
      have hw := sm_GS_ok _ hm
      unfold sm_GS_w at hw
      simp only [e1, e2] at hw
      rw [if_pos trivial] at hw
      obtain ⟨cf, kf, fi, f, a, cell, h1, h2, h3, h4, h5, h6, h7⟩ := sm_Zc hR hF.2.2.2.1
      exact W.gets hx hb hown (sm_word (args := args) hF hw rfl rfl) h1 h2 h3 h4 h5 h6 h7 rfl hd (kk rfl rfl)
    · cases h
  · next hlk =>
    split at h
    · next hc =>
      subst hc
      cases h
      obtain ⟨hm, e1, e2⟩ := sm_own_of hi hlk
      have hw := sm_GS_ok _ hm
      unfold sm_GS_w at hw
      simp only [e1, e2] at hw
      rw [if_neg (by decide), if_pos trivial] at hw
      obtain ⟨cf, kf, fi, f, a, cell, h1, h2, h3, h4, h5, h6, h7⟩ := sm_Zc hR hF.2.2.2.2.1
      exact W.gets hx hb hown (sm_word (args := args) hF hw rfl rfl) h1 h2 h3 h4 h5 h6 h7 rfl hd (kk rfl rfl)
    · cases h
  · next hlk =>
    split at h
    · next hc =>
      subst hc
      cases h
      obtain ⟨hm, e1, e2⟩ := sm_own_of hi hlk
      have hw := sm_GS_ok _ hm
      unfold sm_GS_w at hw
      simp only [e1, e2] at hw
      rw [if_neg (by decide), if_neg (by decide)] at hw
      obtain ⟨cf, kf, fi, f, a, cell, h1, h2, h3, h4, h5, h6, h7⟩ := sm_Zc hR hF.2.2.2.2.2.1
      exact va_WgetsN hx hb hown (sm_word (args := args) hF hw rfl rfl) h1 h2 h3 h4 h5 h6 h7 rfl hd (kk rfl rfl)
    · cases h
  · cases h
theorem sd_ald (hx : p.tables.exec = Jvm.exec) (hb : c.code = cc) (hR : sm_Rep G B Hb s S H) {tys : List FieldType} {i : Instr} (hi : (i = .iaload ∧ tys = [.int]) ∨ (i = .baload ∧ tys = [.byte, .boolean]) ∨ (i = .laload ∧ tys = [.long])) (hd : decode cc pc = .ok (i, len))
    (h : sm_ald tys len pc lv st S = some (.inl (pc', lv', st', S'))) (kk : lv' = lv → S' = S → W p l e R s m args below meth c H locs cells slots Q (F0 m pc' ls st')) : W p l e R s m args below meth c H locs cells slots Q (F0 m pc ls st) := by
  unfold sm_ald at h
  split at h
  · next j a r =>
    split at h
    · next ty n hsh =>
      split at h
      · next hc =>
        obtain ⟨rfl, hty, hin⟩ := hc
        cases h
        have hin := sm_in_b_of hin
        obtain ⟨cell, q1, q2, q3, q4, q5, q6, q7⟩ := hR.2.2.2.2.2.1 a ty n hsh
        have hin2 : ¬ (j < 0 ∨ cell.slots.size ≤ j.toNatClampNeg) := fun z => hin (z.imp id (fun w => Nat.le_trans q4 w))
        have hv := q7 j.toNatClampNeg (Nat.lt_of_not_le fun w => hin (Or.inr w))
        rcases hi with ⟨rfl, rfl⟩ | ⟨rfl, rfl⟩ | ⟨rfl, rfl⟩
        · obtain rfl := List.mem_singleton.mp hty
          exact W.iald hx hb q1 q2 q3 hin2 hv rfl rfl hd (kk rfl rfl)
        · rcases List.mem_cons.mp hty with rfl | hty
          · exact W.bald hx hb q1 q2 q3 hin2 hv rfl rfl hd (kk rfl rfl)
          · obtain rfl := List.mem_singleton.mp hty
            exact W.zald hx hb q1 q2 q3 hin2 hv rfl rfl hd (kk rfl rfl)
        · obtain rfl := List.mem_singleton.mp hty
          exact W.lald hx hb q1 q2 q3 hin2 hv rfl rfl hd (kk rfl rfl)
      · cases h
    · cases h
  · cases h
theorem sd_alen (hx : p.tables.exec = Jvm.exec) (hb : c.code = cc) (hR : sm_Rep G B Hb s S H) (hd : decode cc pc = .ok (.arraylength, len))
    (h : sm_alen len pc lv st S = some (.inl (pc', lv', st', S'))) (kk : lv' = lv → S' = S → W p l e R s m args below meth c H locs cells slots Q (F0 m pc' ls st')) : W p l e R s m args below meth c H locs cells slots Q (F0 m pc ls st) := by
  unfold sm_alen at h
  split at h
  · next a r =>
    split at h
    · next ty n hsh =>
      split at h
      · next hc =>
        subst hc
        cases h
        obtain ⟨cell, q1, q2, q3, q4, q5, q6, q7⟩ := hR.2.2.2.2.2.1 a ty n hsh
        exact W.alen hx hb q1 q2 q5 rfl rfl hd (kk rfl rfl)
      · cases h
    · cases h
  · cases h
theorem sd_ldc (hx : p.tables.exec = Jvm.exec) (hb : c.code = cc) (hown : s.vm.findClass (sm_cn (sm_m k).2.1.1) = some m.cls) (hF : sm_Fix E G B Hb s) (hi : idx < 65536) {n : Nat} {i : Instr} (hn : (i = .ldc idx ∧ n = 2) ∨ (i = .ldc_w idx ∧ n = 3)) (hd : decode cc pc = .ok (i, len))
    (h : sm_ldc E k idx n len pc lv st S = some (.inl (pc', lv', st', S'))) (kk : lv' = lv → S' = S → W p l e R s m args below meth c H locs cells slots Q (F0 m pc' ls st')) : W p l e R s m args below meth c H locs cells slots Q (F0 m pc ls st) := by
  unfold sm_ldc at h
  split at h
  · next v hlk =>
    split at h
    · next hc =>
      subst hc
      cases h
      obtain ⟨hm, e1, e2⟩ := sm_own_of hi hlk
      have hw := sm_word (args := args) hF (sm_CI_ok _ hm) rfl rfl
      unfold sm_CI_w at hw
      simp only [e1, e2] at hw
      rcases hn with ⟨rfl, rfl⟩ | ⟨rfl, rfl⟩
      · exact lv_ldc hx hb hown hw hd (kk rfl rfl)
      · exact lv_ldcw hx hb hown hw hd (kk rfl rfl)
    · cases h
  · split at h
    · next j hlk =>
      split at h
      · next hc =>
        subst hc
        cases h
        obtain ⟨hm, e1, e2⟩ := sm_own_of hi hlk
        have hz := hF.2.2.1 _ hm
        simp only [e1, e2] at hz
        rcases hn with ⟨rfl, rfl⟩ | ⟨rfl, rfl⟩
        · exact va_ldcS hx hb hown hz hd (kk rfl rfl)
        · intro T hT X
          obtain ⟨t, a1, b1⟩ := kk rfl rfl T hT X
          exact ⟨t, X.ldcStringW hx hown hz.1 hz.2 (g := F0 m pc ls st) rfl (by rw [hb]; exact hd) t a1, b1⟩
      · cases h
    · cases h
theorem sd_ldc2 (hx : p.tables.exec = Jvm.exec) (hb : c.code = cc) (hown : s.vm.findClass (sm_cn (sm_m k).2.1.1) = some m.cls) (hF : sm_Fix E G B Hb s) (hi : idx < 65536) (hd : decode cc pc = .ok (.ldc2_w idx, len))
    (h : sm_ldc2 k idx len pc lv st S = some (.inl (pc', lv', st', S'))) (kk : lv' = lv → S' = S → W p l e R s m args below meth c H locs cells slots Q (F0 m pc' ls st')) : W p l e R s m args below meth c H locs cells slots Q (F0 m pc ls st) := by
  unfold sm_ldc2 at h
  split at h
  · next v hlk =>
    split at h
    · next hc =>
      subst hc
      cases h
      obtain ⟨hm, e1, e2⟩ := sm_own_of hi hlk
      have hw := sm_word (args := args) hF (sm_CJ_ok _ hm) rfl rfl
      unfold sm_CJ_w at hw
      simp only [e1, e2] at hw
      exact lv_ldc2 hx hb hown hw hd (kk rfl rfl)
    · cases h
  · cases h
end SDC
