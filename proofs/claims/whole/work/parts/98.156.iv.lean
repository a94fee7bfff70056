/-! ===== the start: what the tables and the heap say, in the words of the small machine ===== -/
theorem i_tb {w : Cond} (i : Nat) (h : tables_1[i]? = some w) : w ∈ lw_tbl := List.mem_append_right _ (List.mem_of_getElem? h)
theorem i_N : ∀ c, c < 13 → sm_N.any (fun q => decide (q.2.1 = c)) = true := by decide +kernel
theorem i_cs : ∀ q ∈ sm_CS, q.2 < 71 ∧ i_tk q.2 = q.1 := by decide +kernel
section STV
variable {s : State} {G : va_G} {args : Array Value} {a b L : Nat} {xs : Nat → Int32}
theorem i_known {A : Nat → Prop} {w : Nat} (hts : ∀ w ∈ lw_tbl, w.before args s = true) (h13 : ∃ c k, s.vm.findClass "java/lang/String" = some c ∧ s.vm.classes[c]? = some k ∧ k.kind = .ordinary) (hv : va_OF "java/lang/String" "value" "[B" (.ref w) a A s s.heap) (hc : va_OF "java/lang/String" "coder" "B" (.int 0) a A s s.heap) : ∃ G : va_G, va_K G sm_vc [] s ∧ i_or s G := by
  have hk : ∀ c : Nat, ∃ p : ClassId × (Nat → Nat), c < 14 → u_Kn s (sm_cn c) (sm_T c) (sm_nf c) p.1 p.2 := by
    intro c
    by_cases h : c < 13
    · obtain ⟨q, hq, e⟩ := List.any_eq_true.mp (i_N c h)
      have e : q.2.1 = c := of_decide_eq_true e
      have hi : Cond.instantiable (sm_cn c) q.2.2 ∈ lw_tbl := by
        have g := sm_N_ok q hq (.instantiable (sm_cn q.2.1) q.2.2) (List.mem_cons_of_mem _ List.mem_cons_self)
        rw [e] at g
        exact g
      obtain ⟨cC, iS, hh⟩ := u_known hts (sm_uw c h) (hts _ hi)
      exact ⟨(cC, iS), fun _ => hh⟩
    · by_cases h2 : c = 13
      · subst h2
        obtain ⟨c, k, g1, g2, g3⟩ := h13
        obtain ⟨cf, k1, i1, f1, cell1, e1, -⟩ := hv
        obtain ⟨cf2, k2, i2, f2, cell2, d1, -⟩ := hc
        refine ⟨(c, fun k => if k = 0 then f1.slot else f2.slot), fun _ => ⟨fun k hk => ?_, ⟨g1, _, g2, g3⟩⟩⟩
        have hk2 : k < 2 := hk
        rcases (show k = 0 ∨ k = 1 by omega) with rfl | rfl
        · exact ⟨cf, k1, i1, f1, e1, rfl⟩
        · exact ⟨cf2, k2, i2, f2, d1, rfl⟩
      · exact ⟨(0, fun _ => 0), fun z => absurd z (by omega)⟩
  obtain ⟨f, hf⟩ := Classical.axiomOfChoice hk
  refine ⟨(fun c => (f c).1, fun c => (f c).2), ⟨fun c q hq => ?_, fun k q h => (nomatch h)⟩, ?_⟩
  · have hc : c < 14 := by
      have := (List.getElem?_eq_some_iff.mp hq).1
      exact this
    rw [sm_vc_at hc] at hq
    cases hq
    exact hf c hc
  · obtain ⟨-, -, kC, h1, h2⟩ := hf 13 (by omega)
    exact ⟨kC, h1, h2⟩
theorem i_txt {A : Nat → Prop} {w : Nat} (hK : va_K G sm_vc [] s) (hO : va_O "java/lang/String" a A s s.heap) (hc : va_OF "java/lang/String" "coder" "B" (.int 0) a A s s.heap) (hv : va_OF "java/lang/String" "value" "[B" (.ref w) a A s s.heap) : oS s G a ∧ i_rf s G a 0 = .ref w ∧ i_in s G a 1 = 0 ∧ a < s.heap.size := by
  obtain ⟨cell, h1, h2, h3, -⟩ := hO
  obtain ⟨cf, k1, i1, f1, cell1, g1, g2, g3, g4, g5, -⟩ := hc
  obtain ⟨cf2, k2, i2, f2, cell2, e1, e2, e3, e4, e5, -⟩ := hv
  rw [h1] at g3 e3
  cases g3
  cases e3
  have hk := hK.1 13 _ (sm_vc_at (by omega))
  have hcls : cell.cls = G.1 13 := by
    have := hk.2.1
    rw [show (sm_cn 13, sm_T 13, sm_nf 13).1 = "java/lang/String" from rfl, h3] at this
    exact Option.some.inj this
  obtain ⟨x1, x2, x3, x4, s1, s2⟩ := hk.1 0 (by decide)
  obtain ⟨y1, y2, y3, y4, t1, t2⟩ := hk.1 1 (by decide)
  have s1' : s.fieldFound? "java/lang/String" "value" "[B" = some (x1, x2, x3, x4) := s1
  have t1' : s.fieldFound? "java/lang/String" "coder" "B" = some (y1, y2, y3, y4) := t1
  rw [e1] at s1'
  rw [g1] at t1'
  cases s1'
  cases t1'
  rw [s2] at e5
  rw [t2] at g5
  refine ⟨⟨cell, h1, hcls, h2, g4, ⟨_, e5⟩, 0, g5⟩, ?_, ?_, (Array.getElem?_eq_some_iff.mp h1).1⟩
  · unfold i_rf
    rw [h1]
    dsimp only
    rw [e5]
    rfl
  · unfold i_in
    rw [h1]
    dsimp only
    rw [if_pos hcls, g5]
theorem i_ls {O f d : String} (h : (Cond.laysStatic O f d).before args s = true) : sm_LS O f d s.heap.size s s.heap := by
  obtain ⟨c, k, i, fd, a, cell, h1, h2, h3, h4, h5, h6, h7, h8, h9⟩ := Cond.laysStatic_spec h
  exact ⟨c, k, i, fd, a, cell, h1, h2, h3, h4, h5, h6, h7, h8, h9, (Array.getElem?_eq_some_iff.mp h5).1⟩
theorem i_zq {C n d : String} (hl : (Cond.laysStatic C n d).before args s = true) (hi : (Cond.initialized C).before args s = true) (h : (Cond.isRef (.static C n d)).before args s = true) : ∃ v, rn v ∧ va_Z C n d v (fun q => s.heap.size ≤ q) s s.heap := by
  rcases va_Zqof hl hi h (fun a ha => by omega : ∀ a : Nat, a < s.heap.size → ¬ s.heap.size ≤ a) with h | ⟨t, h⟩
  · exact ⟨.null, Or.inl rfl, h⟩
  · exact ⟨.ref t, Or.inr ⟨t, rfl⟩, h⟩
theorem rn_ref {v : Value} (h : rn v) : v.isRef = true := by
  rcases h with rfl | ⟨b, rfl⟩ <;> rfl
theorem i_nc (hs : ∀ c ∈ flatC narrow_1, c.before args s = true) : ∀ x y, x < 3 → y < 3 → x ≠ y → va_Nc (sm_xs.getD x "") (sm_xs.getD y "") s := by
  intro x y hx hy hne
  rcases (show x = 0 ∨ x = 1 ∨ x = 2 by omega) with rfl | rfl | rfl <;> rcases (show y = 0 ∨ y = 1 ∨ y = 2 by omega) with rfl | rfl | rfl
  · exact absurd rfl hne
  · exact va_Nc.of (hs _ (List.mem_of_getElem? (i := 52) (by decide +kernel)))
  · exact va_Nc.of (hs _ (List.mem_of_getElem? (i := 67) (by decide +kernel)))
  · exact va_Nc.of (hs _ (List.mem_of_getElem? (i := 37) (by decide +kernel)))
  · exact absurd rfl hne
  · exact va_Nc.of (hs _ (List.mem_of_getElem? (i := 68) (by decide +kernel)))
  · exact va_Nc.of (hs _ (List.mem_of_getElem? (i := 38) (by decide +kernel)))
  · exact va_Nc.of (hs _ (List.mem_of_getElem? (i := 53) (by decide +kernel)))
  · exact absurd rfl hne
theorem i_all (hts : ∀ w ∈ lw_tbl, w.before args s = true) (hs : ∀ c ∈ flatC narrow_1, c.before args s = true) (hf : heapFits s = true) (hX : va_X b L xs s s.heap) (hL : L ≤ 3072) : ∃ (E : sm_E) (G : va_G) (S0 : sm_S), sm_Fix E G s.heap.size s.heap s ∧ sm_Rep G s.heap.size s.heap s S0 s.heap ∧ S0.2.2.2.2.1 = s.heap.size ∧ S0.2.2.2.2.2 = 0 ∧ S0.1.1 b = some (.inr (.int, L)) ∧ tx (E, s.heap.size, S0.1, S0.2.1) ∧ sm_mv (E, s.heap.size, S0.1, S0.2.1) := by
  have hA : ∀ a : Nat, a < s.heap.size → ¬ s.heap.size ≤ a := fun a ha => by omega
  obtain ⟨ad, had⟩ := i_str hs
  obtain ⟨t, ht1, ht2⟩ := i_mds hs
  have w0 := had 0 (by omega)
  obtain ⟨G, hK, hor⟩ := i_known hts (i_ord hf w0.2.1 w0.2.2.1 w0.2.2.2.1) w0.2.2.2.1 w0.2.2.1
  obtain ⟨sh, hsh⟩ := Classical.axiomOfChoice (i_P_ex hor)
  obtain ⟨v5, hv5, z5⟩ := i_zq (C := "jdk/internal/util/Preconditions") (n := "SIOOBE_FORMATTER") (d := "Ljava/util/function/BiFunction;") (hts _ (i_tb 515 (by decide +kernel))) (hts _ (i_tb 23 (by decide +kernel))) (hs _ (List.mem_of_getElem? (i := 5) (by decide +kernel)))
  obtain ⟨v9, hv9, z9⟩ := i_zq (C := "java/lang/Throwable") (n := "UNASSIGNED_STACK") (d := "[Ljava/lang/StackTraceElement;") (hts _ (i_tb 406 (by decide +kernel))) (hts _ (i_tb 15 (by decide +kernel))) (hs _ (List.mem_of_getElem? (i := 2) (by decide +kernel)))
  obtain ⟨v10, hv10, z10⟩ := i_zq (C := "java/lang/Throwable") (n := "SUPPRESSED_SENTINEL") (d := "Ljava/util/List;") (hts _ (i_tb 408 (by decide +kernel))) (hts _ (i_tb 15 (by decide +kernel))) (hs _ (List.mem_of_getElem? (i := 3) (by decide +kernel)))
  have z6 : va_Z "MessageTree" "MONTH_DAYS" "[I" (.ref t) (fun q => s.heap.size ≤ q) s s.heap := va_Zof (hts _ (i_tb 896 (by decide +kernel))) (hts _ (i_tb 1 (by decide +kernel))) ht1 hA
  obtain ⟨m1, m2, m3⟩ := oB_T (by omega) ht2
  refine ⟨(fun j => if j = 71 then t else (ad j).1, v5), G, i_S s G sh, ⟨fun w hw hg => i_gd w hg (hts w hw), hK, fun q hq => ?_, va_Zof (hts _ (i_tb 495 (by decide +kernel))) (hts _ (i_tb 21 (by decide +kernel))) (va_eqt (hs _ (List.mem_of_getElem? (i := 4) (by decide +kernel)))) hA, z5, z6, fun k hk => ?_, i_nc hs, ⟨v9, rn_ref hv9, z9⟩, ⟨v10, rn_ref hv10, z10⟩, i_ls (hts _ (i_tb 406 (by decide +kernel))), i_ls (hts _ (i_tb 408 (by decide +kernel)))⟩, i_rep hor hsh, rfl, rfl, ?_, ⟨fun j hj => ?_, hv5⟩, ?_⟩
  · obtain ⟨h1, h2⟩ := i_cs q hq
    show vk_R (sm_own q.1) (q.1 % 65536) (sm_tx.getD q.2 "") (if q.2 = 71 then t else (ad q.2).1) s
    rw [if_neg (by omega)]
    have e := (had q.2 h1).1
    unfold i_tm at e
    rw [h2] at e
    exact vk_R.of (hts _ (sm_CS_ok q hq)) e
  · rcases (show k = 0 ∨ k = 1 by omega) with rfl | rfl
    · obtain ⟨cf, k1, i1, f1, cell1, e1, e2, -⟩ := w0.2.2.2.1
      exact ⟨cf, k1, i1, f1, e1, e2⟩
    · obtain ⟨cf, k1, i1, f1, cell1, e1, e2, -⟩ := w0.2.2.1
      exact ⟨cf, k1, i1, f1, e1, e2⟩
  · obtain ⟨scr, h1, h2, h3, h4, h5⟩ := hX
    refine (hsh b).1 .int L (Or.inr rfl) ⟨scr, h1, h2, h3, by omega, by rw [h4], by omega, fun j hj => ⟨_, h5 j hj⟩⟩
  · obtain ⟨-, g2, g3, g4, g5⟩ := had j hj
    obtain ⟨q1, q2, q3, q4⟩ := i_txt hK g2 g3 g4
    obtain ⟨p1, p2, p3⟩ := oB_T (by have := i_len j hj; omega) g5
    have ej : (if j = 71 then t else (ad j).1) = (ad j).1 := if_neg (by omega)
    have el : (i_b j).length = (sm_tx.getD j "").length := by
      unfold i_b
      rw [List.length_map]
      rfl
    refine ⟨(ad j).2, ⟨?_, ?_, ?_, ?_, p2, ?_⟩, fun i c hc => ?_⟩
    · show sh (if j = 71 then t else (ad j).1) = _
      rw [ej]
      exact (hsh _).2.1 q1
    · show i_rf s G (if j = 71 then t else (ad j).1) 0 = _
      rw [ej]
      exact q2
    · show sh (ad j).2 = _
      rw [← el]
      exact (hsh _).1 .byte _ (Or.inl rfl) p1
    · show (if j = 71 then t else (ad j).1) < _
      rw [ej]
      exact q4
    · show i_in s G (if j = 71 then t else (ad j).1) 1 = 0
      rw [ej]
      exact q3
    · show i_in s G (ad j).2 i = _
      have hi : i < (i_b j).length := by
        unfold i_b
        rw [List.length_map]
        exact (List.getElem?_eq_some_iff.mp hc).1
      rw [p3 i hi hor]
      unfold i_b
      rw [List.getD_eq_getElem?_getD, List.getElem?_map, hc]
      rfl
  · refine ⟨⟨?_, m2⟩, fun m hm => m3 m hm hor⟩
    exact (hsh t).1 .int 12 (Or.inr rfl) m1
end STV
/-- from the entry, for every script of at most 3072 ints, the law comes to its end with true -/
theorem whole_start2 {p : Program} {e : Env} {s : State} {m : MethodId} {below : List Frame} {meth : Method} {c : Code} (l : Launch) {b L : Nat} {xs : Nat → Int32} (htr : ∀ e, l.admits e → e.platform.stackTraces = false) (hf : heapFits s = true) (hL : L ≤ 3072) (C0 : lw_At p s m meth c b L xs) : W p l e room_1 s m #[Value.ref b] below meth c s.heap [] 0 0 (lw_Z below #[Value.ref b] s) (entryFrame m ([Value.ref b] : List Value).toArray 8) := by
  obtain ⟨hx, hb, hr, hml, hown, hts, hX, hbl, hlocks, hgv⟩ := C0
  have hnar : narrow_1.before #[.ref b] s = true := by
    rw [Cond.before_and, Bool.and_eq_true] at hgv
    exact hgv.2
  have hs := flat_of_before _ hnar
  obtain ⟨E, G, S0, hF, hR, hn, hu, hsb, htx, hmv⟩ := i_all hts hs hf hX hL
  obtain ⟨S', h1, h2, h3⟩ := lx_start (E := E) hn hbl hsb hL htx hmv
  obtain ⟨n, hrun⟩ := sm_lim_some h1
  have hC : sm_CallOk l E G s.heap.size s.heap 17 (sm_ev E s.heap.size false 16) := fun y as S o ho => ⟨16, Nat.le_refl _, sd_met htr 16 y as S o ho⟩
  have hctx : lx_Ctx E G s.heap.size s.heap p room_1 s m c 17 := ⟨hx, hb, hml, hown, hF, Nat.le_refl _, Nat.le_refl _⟩
  have hlv := sm_lv_entry [.ref b] (n := 8) (show 1 ≤ 8 by omega)
  rw [lg_entry_eq]
  have hn' : sm_n S0 = s.heap.size := hn
  have hu' : sm_u S0 = 0 := hu
  have hw := lx_run (b := b) (n0 := s.heap.size) (u0 := 0) (e := e) (below := below) hctx hr hlocks (Nat.le_refl _) hC (S' := S') (by omega) (by omega) n 0 _ [] S0 hrun s.heap [] _ hlv.1 (hlv.2.trans hml.symm) hR (fun x hx => nomatch hx) (by omega) (by omega)
  rw [hn', hu', Nat.sub_self, Nat.sub_self] at hw
  exact hw
