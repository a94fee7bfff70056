section SDP
variable {p : Program} {l : Launch} {e : Env} {R : Room} {s : State} {m : MethodId} {args : Array Value} {below : List Frame} {meth : Method} {c : Code} {H : Heap} {locs : List Loc} {cells slots : Nat} {Q : State → Prop} {cc : ByteArray}
theorem sd_if (hx : p.tables.exec = Jvm.exec) (hb : c.code = cc) {cd : ClassFile.Cond} {off : Int} {pc t : Nat} {ls : Array Slot} {x : Int32} {r : List Value} (hd : decode cc pc = .ok (.ifCond cd off, 3)) (ht : (pc : Int) + off = (t : Int))
    (k : W p l e R s m args below meth c H locs cells slots Q (F0 m (if sm_cmp cd x 0 then t else pc + 3) ls r)) : W p l e R s m args below meth c H locs cells slots Q (F0 m pc ls (.int x :: r)) := by
  cases cd with
  | eq => exact lv_if_eq hx hb hd ht (fun h => by simpa [sm_cmp, h] using k) (fun h => by simpa [sm_cmp, h] using k)
  | ne => exact lv_if_ne hx hb hd ht (fun h => by simpa [sm_cmp, h] using k) (fun h => by simpa [sm_cmp, h] using k)
  | lt => exact lv_if_lt hx hb hd ht (fun h => by simpa [sm_cmp, h] using k) (fun h => by simpa [sm_cmp, h] using k)
  | ge => exact lv_if_ge hx hb hd ht (fun h => by simpa [sm_cmp, h] using k) (fun h => by simpa [sm_cmp, h] using k)
  | gt => exact lv_if_gt hx hb hd ht (fun h => by simpa [sm_cmp, h] using k) (fun h => by simpa [sm_cmp, h] using k)
  | le => exact lv_if_le hx hb hd ht (fun h => by simpa [sm_cmp, h] using k) (fun h => by simpa [sm_cmp, h] using k)
theorem sd_icmp (hx : p.tables.exec = Jvm.exec) (hb : c.code = cc) {cd : ClassFile.Cond} {off : Int} {pc t : Nat} {ls : Array Slot} {x y : Int32} {r : List Value} (hd : decode cc pc = .ok (.if_icmp cd off, 3)) (ht : (pc : Int) + off = (t : Int))
    (k : W p l e R s m args below meth c H locs cells slots Q (F0 m (if sm_cmp cd x y then t else pc + 3) ls r)) : W p l e R s m args below meth c H locs cells slots Q (F0 m pc ls (.int y :: .int x :: r)) := by
  cases cd with
  | eq => exact lv_icmp_eq hx hb hd ht (fun h => by simpa [sm_cmp, h] using k) (fun h => by simpa [sm_cmp, h] using k)
  | ne => exact lv_icmp_ne hx hb hd ht (fun h => by simpa [sm_cmp, h] using k) (fun h => by simpa [sm_cmp, h] using k)
  | lt => exact lv_icmp_lt hx hb hd ht (fun h => by simpa [sm_cmp, h] using k) (fun h => by simpa [sm_cmp, h] using k)
  | ge => exact lv_icmp_ge hx hb hd ht (fun h => by simpa [sm_cmp, h] using k) (fun h => by simpa [sm_cmp, h] using k)
  | gt => exact lv_icmp_gt hx hb hd ht (fun h => by simpa [sm_cmp, h] using k) (fun h => by simpa [sm_cmp, h] using k)
  | le => exact lv_icmp_le hx hb hd ht (fun h => by simpa [sm_cmp, h] using k) (fun h => by simpa [sm_cmp, h] using k)
set_option maxHeartbeats 4000000 in
theorem sd_pu (hx : p.tables.exec = Jvm.exec) (hb : c.code = cc) {i : Instr} {len pc pc' : Nat} {lv st lv' st' : List Value} {ls : Array Slot} (hd : decode cc pc = .ok (i, len)) (h : sm_pu i len pc lv st = some (pc', lv', st')) (hl : sm_lv ls lv)
    (k : ∀ ls' : Array Slot, sm_lv ls' lv' → W p l e R s m args below meth c H locs cells slots Q (F0 m pc' ls' st')) : W p l e R s m args below meth c H locs cells slots Q (F0 m pc ls st) := by
  cases i
  case iconst n => obtain ⟨rfl, rfl, rfl, rfl⟩ := sp_push_i h; exact lv_iconst hx hb hd rfl (k ls hl)
  case bipush n => obtain ⟨rfl, rfl, rfl, rfl⟩ := sp_push_i h; exact lv_bipush hx hb hd rfl (k ls hl)
  case sipush n => obtain ⟨rfl, rfl, rfl, rfl⟩ := sp_push_i h; exact lv_sipush hx hb hd rfl (k ls hl)
  case lconst n => obtain ⟨rfl, rfl, rfl, rfl⟩ := sp_push_i h; exact lv_lconst hx hb hd rfl (k ls hl)
  case iload_n q => obtain ⟨x, e1, rfl, rfl, rfl, rfl⟩ := sp_ldi_i h; exact lv_iload_n hx hb hd rfl (hl.2.2 _ _ e1 (fun z => by cases z)) (k ls hl)
  case iload q => obtain ⟨x, e1, rfl, rfl, rfl, rfl⟩ := sp_ldi_i h; exact lv_iload hx hb hd (hl.2.2 _ _ e1 (fun z => by cases z)) (k ls hl)
  case lload_n q => obtain ⟨x, e1, rfl, rfl, rfl, rfl⟩ := sp_ldl_i h; exact lv_lload_n hx hb hd rfl (hl.2.2 _ _ e1 (fun z => by cases z)) (k ls hl)
  case lload q => obtain ⟨x, e1, rfl, rfl, rfl, rfl⟩ := sp_ldl_i h; exact lv_lload hx hb hd (hl.2.2 _ _ e1 (fun z => by cases z)) (k ls hl)
  case aload_n q =>
    rcases sp_lda_i h with ⟨x, e1, rfl, rfl, rfl, rfl⟩ | ⟨e1, rfl, rfl, rfl, rfl⟩
    · exact lv_aload_n hx hb hd rfl (hl.2.2 _ _ e1 (fun z => by cases z)) (k ls hl)
    · exact lv_aload_nN hx hb hd rfl (hl.2.2 _ _ e1 (fun z => by cases z)) (k ls hl)
  case aload q =>
    rcases sp_lda_i h with ⟨x, e1, rfl, rfl, rfl, rfl⟩ | ⟨e1, rfl, rfl, rfl, rfl⟩
    · exact lv_aload hx hb hd (hl.2.2 _ _ e1 (fun z => by cases z)) (k ls hl)
    · exact lv_aloadN hx hb hd (hl.2.2 _ _ e1 (fun z => by cases z)) (k ls hl)
  case istore_n q => obtain ⟨x, rfl, rfl, hi, rfl, rfl⟩ := sp_sti_i h; exact lv_istore_n hx hb hd rfl (sm_lv_has hl) hi rfl (fun ls' h' => k ls' (sm_lv_st1 hi h'))
  case istore q => obtain ⟨x, rfl, rfl, hi, rfl, rfl⟩ := sp_sti_i h; exact lv_istore hx hb hd (sm_lv_has hl) hi rfl (fun ls' h' => k ls' (sm_lv_st1 hi h'))
  case lstore_n q => obtain ⟨x, rfl, rfl, hi, rfl, rfl⟩ := sp_stl_i h; exact lv_lstore_n hx hb hd rfl (sm_lv_has hl) hi rfl (fun ls' h' => k ls' (sm_lv_st2 hi h'))
  case lstore q => obtain ⟨x, rfl, rfl, hi, rfl, rfl⟩ := sp_stl_i h; exact lv_lstore hx hb hd (sm_lv_has hl) hi rfl (fun ls' h' => k ls' (sm_lv_st2 hi h'))
  case astore_n q => obtain ⟨x, rfl, rfl, hi, rfl, rfl⟩ := sp_sta_i h; exact lv_astore_n hx hb hd rfl (sm_lv_has hl) hi rfl (fun ls' h' => k ls' (sm_lv_st1 hi h'))
  case astore q => obtain ⟨x, rfl, rfl, hi, rfl, rfl⟩ := sp_sta_i h; exact lv_astore hx hb hd (sm_lv_has hl) hi rfl (fun ls' h' => k ls' (sm_lv_st1 hi h'))
  case iinc q n =>
    obtain ⟨x, e1, rfl, hi, rfl, rfl, rfl⟩ := sp_inc_i h
    obtain ⟨k9, hk9⟩ := List.getElem?_of_mem (sm_al_mem.mpr ⟨e1, fun z => by cases z⟩)
    exact lv_iinc hx hb hd (sm_lv_has hl) hk9 rfl hi rfl (fun ls' h' => k ls' (sm_lv_st1 hi h'))
  case iadd => obtain ⟨x, y, r, rfl, rfl, rfl, rfl, rfl⟩ := sp_ii_i h; exact lv_iadd hx hb hd (k ls hl)
  case isub => obtain ⟨x, y, r, rfl, rfl, rfl, rfl, rfl⟩ := sp_ii_i h; exact lv_isub hx hb hd (k ls hl)
  case imul => obtain ⟨x, y, r, rfl, rfl, rfl, rfl, rfl⟩ := sp_ii_i h; exact lv_imul hx hb hd (k ls hl)
  case iand => obtain ⟨x, y, r, rfl, rfl, rfl, rfl, rfl⟩ := sp_ii_i h; exact lv_iand hx hb hd (k ls hl)
  case ior => obtain ⟨x, y, r, rfl, rfl, rfl, rfl, rfl⟩ := sp_ii_i h; exact lv_ior hx hb hd (k ls hl)
  case ishl => obtain ⟨x, y, r, rfl, rfl, rfl, rfl, rfl⟩ := sp_ii_i h; exact lv_ishl hx hb hd (k ls hl)
  case ishr => obtain ⟨x, y, r, rfl, rfl, rfl, rfl, rfl⟩ := sp_ii_i h; exact lv_ishr hx hb hd (k ls hl)
  case iushr => obtain ⟨x, y, r, rfl, rfl, rfl, rfl, rfl⟩ := sp_ii_i h; exact lv_iushr hx hb hd rfl (k ls hl)
  case idiv => obtain ⟨x, y, r, rfl, rfl, hy, rfl, rfl, rfl⟩ := sp_dv_i h; exact lv_idiv hx hb hd hy (k ls hl)
  case irem => obtain ⟨x, y, r, rfl, rfl, hy, rfl, rfl, rfl⟩ := sp_dv_i h; exact lv_irem hx hb hd hy (k ls hl)
  case ineg => obtain ⟨x, r, rfl, rfl, rfl, rfl, rfl⟩ := sp_i1_i h; exact lv_ineg hx hb hd (k ls hl)
  case ladd => obtain ⟨x, y, r, rfl, rfl, rfl, rfl, rfl⟩ := sp_ll_i h; exact lv_ladd hx hb hd (k ls hl)
  case lsub => obtain ⟨x, y, r, rfl, rfl, rfl, rfl, rfl⟩ := sp_ll_i h; exact lv_lsub hx hb hd (k ls hl)
  case lmul => obtain ⟨x, y, r, rfl, rfl, rfl, rfl, rfl⟩ := sp_ll_i h; exact lv_lmul hx hb hd (k ls hl)
  case lxor => obtain ⟨x, y, r, rfl, rfl, rfl, rfl, rfl⟩ := sp_ll_i h; exact lv_lxor hx hb hd (k ls hl)
  case lrem => obtain ⟨x, y, r, rfl, rfl, hy, rfl, rfl, rfl⟩ := sp_dl_i h; exact lv_lrem hx hb hd hy (k ls hl)
  case lcmp => obtain ⟨x, y, r, rfl, rfl, rfl, rfl, rfl⟩ := sp_lcmp_i h; exact W.lcmp hx hb hd (k ls hl)
  case i2l => obtain ⟨x, r, rfl, rfl, rfl, rfl, rfl⟩ := sp_i1_i h; exact lv_i2l hx hb hd rfl (k ls hl)
  case l2i => obtain ⟨x, r, rfl, rfl, rfl, rfl, rfl⟩ := sp_l1_i h; exact lv_l2i hx hb hd rfl (k ls hl)
  case i2b => obtain ⟨x, r, rfl, rfl, rfl, rfl, rfl⟩ := sp_i1_i h; exact lv_i2b hx hb hd rfl (k ls hl)
  case i2c => obtain ⟨x, r, rfl, rfl, rfl, rfl, rfl⟩ := sp_i1_i h; exact lv_i2c hx hb hd rfl (k ls hl)
  case dup => obtain ⟨v, r, rfl, rfl, h1, rfl, rfl, rfl⟩ := sp_dup_i h; exact lv_dup hx hb hd h1 (k ls hl)
  case dup2 => obtain ⟨v, w, r, rfl, rfl, h1, h2, rfl, rfl, rfl⟩ := sp_dup2_i h; exact lv_dup2_11 hx hb hd h1 h2 (k ls hl)
  case pop => obtain ⟨v, rfl, rfl, h1, rfl, rfl⟩ := sp_pop_i h; exact lv_pop hx hb hd h1 (k ls hl)
  case ifCond cd off => obtain ⟨x, t, rfl, ht, rfl, rfl, rfl⟩ := sp_if_i h; exact sd_if hx hb hd ht (k ls hl)
  case if_icmp cd off => obtain ⟨x, y, t, rfl, ht, rfl, rfl, rfl⟩ := sp_icmp_i h; exact sd_icmp hx hb hd ht (k ls hl)
  case goto off => obtain ⟨ht, rfl, rfl, rfl⟩ := sp_goto_i h; exact lv_goto hx hb hd ht (k ls hl)
  case tableswitch d lo hi offs =>
    obtain ⟨x, rfl, rfl, h1 | ⟨h1, h2, off, h3, h4⟩⟩ := sp_tsw_i h
    · exact lv_tableOut hx hb hd h1.1 h1.2 (k ls hl)
    · exact lv_tableIn hx hb hd h1 h2 h3 h4 (k ls hl)
  all_goals (exact absurd h (by intro q; cases q))
end SDP
