/-! ===== soundness of what makes cells ===== -/
set_option maxRecDepth 100000 in
theorem sm_arr_c : sm_in [.arrayClass .int, .arrayClass .boolean, .arrayClass .byte, .arrayClass .long] := sm_in_ch [(1, 70), (1, 214), (2, 206), (9, 70)] rfl
theorem sm_Rep.none_top {G : va_G} {B : Nat} {Hb : Heap} {U : State} {S : sm_S} {H : Heap} (hR : sm_Rep G B Hb U S H) : S.1.1 H.size = none := by
  cases h : S.1.1 H.size with
  | none => rfl
  | some sh =>
    exfalso
    cases sh with
    | inl o =>
      obtain ⟨-, cell, q1, -⟩ := hR.2.2.2.2.1 _ o h
      have := (Array.getElem?_eq_some_iff.mp q1).1
      omega
    | inr x =>
      obtain ⟨ty, n⟩ := x
      obtain ⟨cell, q1, -⟩ := hR.2.2.2.2.2.1 _ ty n h
      have := (Array.getElem?_eq_some_iff.mp q1).1
      omega
theorem sm_val_new {S : sm_S} {sh : sm_Sh} {u : Nat} (ty : FieldType) {b : Nat} (j : Nat) (hb : b ≠ S.2.2.2.2.1) : sm_val ty (sm_new S sh u) b j = sm_val ty S b j := by
  unfold sm_val sm_new
  cases ty <;> simp [hb]
theorem sm_Rep.newC {G : va_G} {B : Nat} {Hb : Heap} {U : State} {S : sm_S} {H H' : Heap} {sh : sm_Sh} {u : Nat} (hR : sm_Rep G B Hb U S H) (h1 : H'.size = H.size + 1) (h2 : ∀ q, q < H.size → H'[q]? = H[q]?)
    (hO : ∀ o, sh = .inl o → o < 14 ∧ sm_cO G B (sm_new S sh u) H.size o H') (hA : ∀ ty n, sh = .inr (ty, n) → sm_cA U B (sm_new S sh u) H.size ty n H') : sm_Rep G B Hb U (sm_new S sh u) H' := by
  have hN := hR.1
  obtain ⟨-, g2, g3, g4, g5, g6, g7⟩ := id hR
  refine ⟨by rw [h1, hN]; rfl, by omega, g3, fun q hq => by rw [h2 q (by omega)]; exact g4 q hq, fun b o hb => ?_, fun b ty n hb => ?_, fun b y hb => ?_⟩
  · by_cases e : b = H.size
    · subst e
      refine hO o ?_
      have e1 : (sm_new S sh u).1.1 H.size = some sh := by
        unfold sm_new
        simp [hN]
      exact Option.some.inj (e1.symm.trans hb)
    · have e0 : b ≠ S.2.2.2.2.1 := fun q => e (q.trans hN.symm)
      have e1 : (sm_new S sh u).1.1 b = S.1.1 b := by
        unfold sm_new
        simp [e0]
      rw [e1] at hb
      obtain ⟨q0, cell, q1, q2, q3, q4, q5, q6⟩ := g5 b o hb
      exact ⟨q0, cell, by rw [h2 b (Array.getElem?_eq_some_iff.mp q1).1]; exact q1, q2, q3, q4, q5, fun k hk => by rw [sm_val_new _ k e0]; exact q6 k hk⟩
  · by_cases e : b = H.size
    · subst e
      refine hA ty n ?_
      have e1 : (sm_new S sh u).1.1 H.size = some sh := by
        unfold sm_new
        simp [hN]
      exact Option.some.inj (e1.symm.trans hb)
    · have e0 : b ≠ S.2.2.2.2.1 := fun q => e (q.trans hN.symm)
      have e1 : (sm_new S sh u).1.1 b = S.1.1 b := by
        unfold sm_new
        simp [e0]
      rw [e1] at hb
      obtain ⟨cell, q1, q2, q3, q4, q5, q6, q7⟩ := g6 b ty n hb
      exact ⟨cell, by rw [h2 b (Array.getElem?_eq_some_iff.mp q1).1]; exact q1, q2, q3, q4, q5, q6, fun k hk => by rw [sm_val_new _ k e0]; exact q7 k hk⟩
  · obtain ⟨q0, q1, cell, kC, q2, q3⟩ := g7 b y hb
    have hlt : b < H.size := (Array.getElem?_eq_some_iff.mp q2).1
    have e0 : b ≠ S.2.2.2.2.1 := by omega
    have e1 : (sm_new S sh u).1.1 b = S.1.1 b := by
      unfold sm_new
      simp [e0]
    exact ⟨q0, by rw [e1]; exact q1, cell, kC, by rw [h2 b hlt]; exact q2, q3⟩
theorem sm_Rep.newX {G : va_G} {B : Nat} {Hb : Heap} {U : State} {S : sm_S} {H H' : Heap} {y u : Nat} (hR : sm_Rep G B Hb U S H) (h1 : H'.size = H.size + 1) (h2 : ∀ q, q < H.size → H'[q]? = H[q]?)
    (hX : sm_cX U y H.size H') : sm_Rep G B Hb U (sm_newX S y u) H' := by
  have hN := hR.1
  have ht := hR.none_top
  obtain ⟨-, g2, g3, g4, g5, g6, g7⟩ := id hR
  refine ⟨by rw [h1, hN]; rfl, by omega, g3, fun q hq => by rw [h2 q (by omega)]; exact g4 q hq, fun b o hb => ?_, fun b ty n hb => ?_, fun b y' hb => ?_⟩
  · obtain ⟨q0, cell, q1, q2⟩ := g5 b o hb
    exact ⟨q0, cell, by rw [h2 b (Array.getElem?_eq_some_iff.mp q1).1]; exact q1, q2⟩
  · obtain ⟨cell, q1, q2⟩ := g6 b ty n hb
    exact ⟨cell, by rw [h2 b (Array.getElem?_eq_some_iff.mp q1).1]; exact q1, q2⟩
  · by_cases e : b = H.size
    · subst e
      have e1 : (sm_newX S y u).2.2.2.1 H.size = some y := by
        unfold sm_newX
        simp [hN]
      cases e1.symm.trans hb
      exact ⟨g2, ht, hX⟩
    · have e0 : b ≠ S.2.2.2.2.1 := fun q => e (q.trans hN.symm)
      have e1 : (sm_newX S y u).2.2.2.1 b = S.2.2.2.1 b := by
        unfold sm_newX
        simp [e0]
      rw [e1] at hb
      obtain ⟨q0, q1, cell, kC, q2, q3⟩ := g7 b y' hb
      exact ⟨q0, q1, cell, kC, by rw [h2 b (Array.getElem?_eq_some_iff.mp q2).1]; exact q2, q3⟩
def sm_tg0 (ty : FieldType) : Bool := match ty with
  | .float => false
  | .double => false
  | _ => true
theorem sm_tyg (c : Nat) (hc : c < 13) : ∀ k, k < sm_nf c → sm_tg0 (sm_ty c k) = true := by
  match c, hc with
  | 0, _ => decide +kernel
  | 1, _ => decide +kernel
  | 2, _ => decide +kernel
  | 3, _ => decide +kernel
  | 4, _ => decide +kernel
  | 5, _ => decide +kernel
  | 6, _ => decide +kernel
  | 7, _ => decide +kernel
  | 8, _ => decide +kernel
  | 9, _ => decide +kernel
  | 10, _ => decide +kernel
  | 11, _ => decide +kernel
  | 12, _ => decide +kernel
theorem sm_val_born {S : sm_S} {sh : sm_Sh} {u : Nat} {ty : FieldType} (h : sm_tg0 ty = true) (j : Nat) : sm_val ty (sm_new S sh u) S.2.2.2.2.1 j = defaultValue ty := by
  unfold sm_val sm_new
  cases ty <;> first | (simp [defaultValue]; done) | cases h
section SDN
variable {p : Program} {l : Launch} {e : Env} {R : Room} {s : State} {m : MethodId} {args : Array Value} {below : List Frame} {meth : Method} {c : Code} {H : Heap} {locs : List Loc} {cells slots : Nat} {Q : State → Prop} {cc : ByteArray}
variable {E : sm_E} {G : va_G} {B : Nat} {Hb : Heap} {S S' : sm_S} {k idx len pc pc' : Nat} {lv st lv' st' : List Value} {ls : Array Slot} {q : Bool}
theorem sd_newa {ty : ArrayType} (hx : p.tables.exec = Jvm.exec) (hb : c.code = cc) (hF : sm_Fix E G B Hb s) (hR : sm_Rep G B Hb s S H) (hd : decode cc pc = .ok (.newarray ty, len))
    (h : sm_newa q ty len pc lv st S = some (.inl (pc', lv', st', S'))) (hcells : cells + (S'.2.2.2.2.1 - S.2.2.2.2.1) ≤ R.cells) (hslots : slots + (S'.2.2.2.2.2 - S.2.2.2.2.2) ≤ R.slots)
    (kk : ∀ (H' : Heap), lv' = lv → sm_Rep G B Hb s S' H' → W p l e R s m args below meth c H' locs (cells + (S'.2.2.2.2.1 - S.2.2.2.2.1)) (slots + (S'.2.2.2.2.2 - S.2.2.2.2.2)) Q (F0 m pc' ls st')) :
    W p l e R s m args below meth c H locs cells slots Q (F0 m pc ls st) := by
  unfold sm_newa at h
  split at h
  · next n r =>
    split at h
    · next hc =>
      obtain ⟨-, rfl, hty, hn, hsm⟩ := hc
      cases h
      have en : (sm_new S (.inr (newarray.typeOf ty, n.toNatClampNeg)) n.toNatClampNeg).2.2.2.2.1 - S.2.2.2.2.1 = 1 := by
        show S.2.2.2.2.1 + 1 - S.2.2.2.2.1 = 1
        omega
      have eu : (sm_new S (.inr (newarray.typeOf ty, n.toNatClampNeg)) n.toNatClampNeg).2.2.2.2.2 - S.2.2.2.2.2 = n.toNatClampNeg := by
        show S.2.2.2.2.2 + n.toNatClampNeg - S.2.2.2.2.2 = n.toNatClampNeg
        omega
      rw [en] at hcells kk
      rw [eu] at hslots kk
      have harr : (Cond.arrayClass (newarray.typeOf ty)).before args s = true := by
        have hm : (Cond.arrayClass (newarray.typeOf ty)) ∈ lw_tbl := sm_arr_c _ (by rcases hty with rfl | rfl | rfl | rfl <;> simp [newarray.typeOf])
        exact word_at (State.WarmedH.refl s) (Or.inr ⟨_, rfl⟩) (hF.1 _ hm rfl)
      have hby : n.toNatClampNeg * componentBytes (newarray.typeOf ty) ≤ 536870912 := by
        have h8 : componentBytes (newarray.typeOf ty) ≤ 8 := by rcases hty with rfl | rfl | rfl | rfl <;> decide
        exact Nat.le_trans (Nat.mul_le_mul hsm h8) (by decide)
      refine W.newaK hx hb harr rfl hd rfl hn rfl hby hcells hslots hR.1 (fun H' cA g1 g2 g3 g4 => kk H' rfl (hR.newC (by rw [g2, hR.1]) (fun z hz => g3 z (by rw [← hR.1]; exact hz)) (fun o ho => by cases ho) (fun t n' ht => ?_)))
      cases ht
      refine ⟨_, (by rw [hR.1]; exact g1), g4 _ _, (fun z => by cases z), (by rw [arrV_size]; exact Nat.le_refl _), (by rw [arrV_size]), (fun _ => arrV_size _ _ _), fun j hj => ?_⟩
      rw [arrV_read _ _ hj]
      rcases hty with rfl | rfl | rfl | rfl <;> simp [newarray.typeOf, defaultValue, sm_val, sm_new, hR.1]
    · cases h
  · cases h
theorem sd_newo (hx : p.tables.exec = Jvm.exec) (hb : c.code = cc) (hown : s.vm.findClass (sm_cn (sm_m k).2.1.1) = some m.cls) (hF : sm_Fix E G B Hb s) (hR : sm_Rep G B Hb s S H) (hi : idx < 65536) (hd : decode cc pc = .ok (.new idx, len))
    (h : sm_newo q k idx len pc lv st S = some (.inl (pc', lv', st', S'))) (hcells : cells + (S'.2.2.2.2.1 - S.2.2.2.2.1) ≤ R.cells) (hslots : slots + (S'.2.2.2.2.2 - S.2.2.2.2.2) ≤ R.slots)
    (kk : ∀ (H' : Heap), lv' = lv → sm_Rep G B Hb s S' H' → W p l e R s m args below meth c H' locs (cells + (S'.2.2.2.2.1 - S.2.2.2.2.1)) (slots + (S'.2.2.2.2.2 - S.2.2.2.2.2)) Q (F0 m pc' ls st')) :
    W p l e R s m args below meth c H locs cells slots Q (F0 m pc ls st) := by
  unfold sm_newo at h
  split at h
  · next o n hlk =>
    split at h
    · next hc =>
      obtain ⟨-, rfl, ho⟩ := hc
      cases h
      have en : (sm_new S (.inl o) n).2.2.2.2.1 - S.2.2.2.2.1 = 1 := by
        show S.2.2.2.2.1 + 1 - S.2.2.2.2.1 = 1
        omega
      have eu : (sm_new S (.inl o) n).2.2.2.2.2 - S.2.2.2.2.2 = n := by
        show S.2.2.2.2.2 + n - S.2.2.2.2.2 = n
        omega
      rw [en] at hcells kk
      rw [eu] at hslots kk
      obtain ⟨hm, e1, e2⟩ := sm_own_of hi hlk
      have hws := sm_N_ok _ hm
      unfold sm_N_w at hws
      simp only [e1, e2] at hws
      have w1 := sm_word (args := args) hF (hws _ List.mem_cons_self) rfl rfl
      have w2 := sm_word (args := args) hF (hws _ (List.mem_cons_of_mem _ List.mem_cons_self)) rfl rfl
      have w3 := sm_word (args := args) hF (hws _ (List.mem_cons_of_mem _ (List.mem_cons_of_mem _ List.mem_cons_self))) rfl rfl
      have hKn := hF.2.1.1 o _ (sm_vc_at (c := o) (by omega))
      refine W.newcK hx hb hown w1 w2 w3 rfl hd hcells hslots hKn.2.1 hR.1 (fun H' kC hkC g1 g2 g3 => kk H' rfl (hR.newC (by rw [g2, hR.1]) (fun z hz => g3 z (by rw [← hR.1]; exact hz)) (fun o' ho' => ?_) (fun t n' ht => by cases ht)))
      cases ho'
      have hob := u_born (sm_ty o) (sm_uts (args := #[]) hF ho) (fun _ h => h) hKn hkC g1 (sm_tyok o (by omega))
      obtain ⟨cell, q1, q2, q3, q4⟩ := hob
      refine ⟨by omega, cell, (by rw [hR.1]; exact q1), q2, (by rw [q3]; rfl), (by rw [q3]; exact (fun z => by cases z)), (fun _ => q3), fun j hj => ?_⟩
      rw [q4 j hj, hR.1, sm_val_born (sm_tyg o ho j hj) j]
    · cases h
  · split at h
    · next x n hlk =>
      split at h
      · next hc =>
        subst hc
        cases h
        have en : (sm_newX S (2 * x) n).2.2.2.2.1 - S.2.2.2.2.1 = 1 := by
          show S.2.2.2.2.1 + 1 - S.2.2.2.2.1 = 1
          omega
        have eu : (sm_newX S (2 * x) n).2.2.2.2.2 - S.2.2.2.2.2 = n := by
          show S.2.2.2.2.2 + n - S.2.2.2.2.2 = n
          omega
        rw [en] at hcells kk
        rw [eu] at hslots kk
        obtain ⟨hm, e1, e2⟩ := sm_own_of hi hlk
        have hws := sm_NX_ok _ hm
        unfold sm_NX_w at hws
        simp only [e1, e2] at hws
        have w1 := sm_word (args := args) hF (hws _ List.mem_cons_self) rfl rfl
        have w2 := sm_word (args := args) hF (hws _ (List.mem_cons_of_mem _ List.mem_cons_self)) rfl rfl
        have w3 := sm_word (args := args) hF (hws _ (List.mem_cons_of_mem _ (List.mem_cons_of_mem _ List.mem_cons_self))) rfl rfl
        obtain ⟨cC, hfc, -⟩ := classAt_of w2
        refine W.newcK hx hb hown w1 w2 w3 rfl hd hcells hslots hfc hR.1 (fun H' kC hkC g1 g2 g3 => kk H' rfl (hR.newX (by rw [g2, hR.1]) (fun z hz => g3 z (by rw [← hR.1]; exact hz)) ?_))
        refine ⟨_, kC, (by rw [hR.1]; exact g1), ?_, hkC, rfl, (fun _ => rfl)⟩
        have e3 : 2 * x / 2 = x := by omega
        rw [e3]
        exact hfc
      · cases h
    · cases h
end SDN
