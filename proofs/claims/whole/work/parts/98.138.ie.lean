/-! ===== rules of runs that may change references ===== -/
section NXR
variable {E : sm_E} {B d k cls nd pc pc' x c f a : Nat} {l : List (Nat × Instr × Nat)} {lv lv' st st' : List Value} {S S' : sm_S}
theorem nx_go (hs : sm_step E B d false (sm_cl E B false d) k (pc, lv, st, S) = some (.inl (pc', lv', st', S'))) : sm_ex E B false d k pc lv st S = sm_ex E B false d k pc' lv' st' S' := by
  unfold sm_ex
  exact sm_lim_go hs
theorem nx_pl : ∀ (rs : List (Nat × Instr × Nat)) (pc : Nat) (lv st : List Value), (∀ r ∈ rs, r ∈ (sm_m k).2.2) → sm_pl rs (pc, lv, st) = some (pc', lv', st') → sm_ex E B false d k pc lv st S = sm_ex E B false d k pc' lv' st' S := by
  intro rs
  induction rs with
  | nil => intro pc lv st _ h; cases h; rfl
  | cons r rs ih =>
    intro pc lv st hm h
    unfold sm_pl at h
    split at h
    · next he =>
      split at h
      · next c' hc =>
        obtain ⟨pc1, lv1, st1⟩ := c'
        have hat := sm_at_mem (hm r List.mem_cons_self)
        rw [he] at hat
        rw [nx_go (sf_pu hat (sm_pv_pu hc))]
        exact ih pc1 lv1 st1 (fun s hs => hm s (List.mem_cons_of_mem _ hs)) h
      · cases h
    · cases h
theorem nx_p (q : sm_q k cls l nd) (j n : Nat) (h : sm_pl ((l.drop j).take n) (pc, lv, st) = some (pc', lv', st')) : sm_ex E B false d k pc lv st S = sm_ex E B false d k pc' lv' st' S :=
  nx_pl ((l.drop j).take n) pc lv st (fun r hr => by rw [q.2.1]; exact List.mem_of_mem_drop (List.mem_of_mem_take hr)) h
theorem nx_get (q : sm_q k cls l nd) (j : Nat) (hr : l[j]? = some (pc, .getfield x, 3)) (hf : sm_fk cls x c f = true) (hs : S.1.1 a = some (.inl c)) : sm_ex E B false d k pc lv (.ref a :: st) S = sm_ex E B false d k (pc + 3) lv (sm_val (sm_ty c f) S a f :: st) S := by
  obtain ⟨h1, h2, h3, h4⟩ := sm_fk_i hf q.1
  refine nx_go ?_
  rw [sf_op (q.at hr) rfl]
  show sm_gd x (sm_getf k x 3 pc lv (.ref a :: st) S) = _
  unfold sm_gd sm_getf
  rw [if_pos h1, h2]
  exact if_pos ⟨rfl, h3, h4, hs⟩
theorem nx_put {v : Value} (q : sm_q k cls l nd) (j : Nat) (hr : l[j]? = some (pc, .putfield x, 3)) (hf : sm_pk cls x c f = true) (hs : S.1.1 a = some (.inl c)) (hB : B ≤ a) (hv : sm_lay false (sm_ty c f) S a f v = some S') : sm_ex E B false d k pc lv (v :: .ref a :: st) S = sm_ex E B false d k (pc + 3) lv st S' := by
  obtain ⟨h1, h2, h3, h4, h5⟩ := sm_pk_i hf q.1
  refine nx_go ?_
  rw [sf_op (q.at hr) rfl]
  show sm_gd x (sm_putf B false k x 3 pc lv (v :: .ref a :: st) S) = _
  unfold sm_gd sm_putf
  rw [if_pos h1, h2]
  dsimp only
  rw [if_pos ⟨rfl, h3, h4, hB, hs, Or.inl h5⟩, hv]
end NXR
