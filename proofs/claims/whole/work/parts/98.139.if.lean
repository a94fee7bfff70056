section NXS
variable {E : sm_E} {B d e k cls nd pc x y n b : Nat} {l : List (Nat × Instr × Nat)} {lv st as rest : List Value} {S S' : sm_S}
/-- a call that comes back -/
theorem nx_V {w : Option Value} (q : sm_q k cls l nd) (j : Nat) (hr : l[j]? = some (pc, .invokevirtual x, 3)) (hl : sm_lk cls x y = true) (hs : ((sm_m y).2.1.2.2 = false ∧ ¬ (sm_m y).1.1.name = "<init>") ∧ (sm_m y).2.1.1 < 14) (hna : sm_na y = n) (h1 : (n.ble st.length) = true) (h2 : (st.take n).reverse = as) (h3 : st.drop n = .ref b :: rest) (h4 : ((sm_w rest).ble 8) = true) (hb : S.1.1 b = some (.inl (sm_m y).2.1.1)) (hd : d = e + 1) (hc : sm_ev E B false e y (.ref b :: as) S = some (.inl w, S')) : sm_ex E B false d k pc lv st S = sm_ex E B false d k (pc + 3) lv (w.toList ++ rest) S' := by
  obtain ⟨g1, nb, g2⟩ := sm_lk_i hl q.1
  subst hna h2 hd
  refine nx_go ?_
  rw [sf_op (q.at hr) rfl]
  show sm_gd x (sm_callv (sm_ev E B false e) k x 3 pc lv st S) = _
  unfold sm_gd sm_callv
  rw [if_pos g1, g2]
  dsimp only
  rw [h3]
  dsimp only
  rw [if_pos ⟨rfl, hs.1.1, hs.1.2, Nat.le_of_ble_eq_true h1, Nat.le_of_ble_eq_true h4, hs.2, hb⟩, hc]
  rfl
/-- a static call that comes back -/
theorem nx_S {w : Option Value} (q : sm_q k cls l nd) (j : Nat) (hr : l[j]? = some (pc, .invokestatic x, 3)) (hl : sm_lk cls x y = true) (hs : (sm_m y).2.1.2.2 = true) (hna : sm_na y = n) (h1 : (n.ble st.length) = true) (h2 : (st.take n).reverse = as) (h3 : st.drop n = rest) (h4 : ((sm_w rest).ble 8) = true) (hd : d = e + 1) (hc : sm_ev E B false e y as S = some (.inl w, S')) : sm_ex E B false d k pc lv st S = sm_ex E B false d k (pc + 3) lv (w.toList ++ rest) S' := by
  obtain ⟨g1, nb, g2⟩ := sm_lk_i hl q.1
  subst hna h2 h3 hd
  refine nx_go ?_
  rw [sf_op (q.at hr) rfl]
  show sm_gd x (sm_stat (sm_ev E B false e) B (e + 1) k x 3 pc lv st S) = _
  unfold sm_gd sm_stat sm_calls
  rw [if_pos g1, g2]
  dsimp only
  rw [if_pos ⟨rfl, hs, Nat.le_of_ble_eq_true h1, Nat.le_of_ble_eq_true h4⟩, hc]
  rfl
theorem nx_ri {v : Int32} {ty : FieldType} (q : sm_q k cls l nd) (j : Nat) (hr : l[j]? = some (pc, .ireturn, 1)) (ht : (sm_m k).1.2.2.2 = some ty) : sm_ex E B false d k pc lv [.int v] S = some (.inl (some (narrow ty (.int v))), S) := by
  unfold sm_ex
  refine sm_lim_end ?_
  rw [sf_op (q.at hr) rfl]
  show sm_reti k 1 [.int v] S = _
  unfold sm_reti
  rw [ht]
  rfl
theorem nx_fe {m : Nat} (hm : (sm_m k).1.2.2.1 = m) (h : ((sm_args as).length.ble m) = true) : sm_ev E B false d k as S = sm_ex E B false d k 0 (sm_entry m as) [] S := by
  subst hm
  rw [sm_ev_eq, if_pos (Nat.le_of_ble_eq_true h)]
  rfl
end NXS
