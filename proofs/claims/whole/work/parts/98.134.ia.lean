/-! ===== rules of runs: a call that throws where a row of the table covers it ===== -/
section SHC
variable {C : sm_K} {k pc y : Nat} {lv st as rest : List Value} {D : sm_D}
/-- a call that comes back, handlers or none -/
theorem sx_hv (hc : sm_cb C k pc y lv st as rest) (hd : sm_nd y + 1 ≤ sm_nd k) {w : Option Value} {D1 : sm_D} (h : sm_fe C y as D = some (.inl w, D1)) : sm_fx C k pc lv st D = sm_fx C k (pc + 3) lv (w.toList ++ rest) D1 := by
  obtain ⟨e, he⟩ : ∃ e, sm_nd k = e + 1 := ⟨sm_nd k - 1, by omega⟩
  obtain ⟨h1, h2⟩ := sm_fe_some (d := e) (by omega) h
  have hs := hc D
  have hcl : sm_cl C.1 C.2.1 true (sm_nd k) y as (C.2.2.1, sm_mg C D) = some (.inl w, (C.2.2.1, sm_mg C D1)) := by
    rw [he]
    exact h1
  rw [hcl] at hs
  exact sf_step hs h2
/-- a call that throws and is caught -/
theorem sx_hc (hc : sm_cb C k pc y lv st as rest) (hd : sm_nd y + 1 ≤ sm_nd k) {a z hp : Nat} {D1 : sm_D} (h : sm_fe C y as D = some (.inr a, D1)) (hz : D1.2.2.1 a = some (2 * z + 1)) (hf : sm_find (sm_m k).2.1.2.1 pc z = some hp) : sm_fx C k pc lv st D = sm_fx C k hp lv [.ref a] D1 := by
  obtain ⟨e, he⟩ : ∃ e, sm_nd k = e + 1 := ⟨sm_nd k - 1, by omega⟩
  obtain ⟨h1, h2⟩ := sm_fe_some (d := e) (by omega) h
  have hs := hc D
  have hcl : sm_cl C.1 C.2.1 true (sm_nd k) y as (C.2.2.1, sm_mg C D) = some (.inr a, (C.2.2.1, sm_mg C D1)) := by
    rw [he]
    exact h1
  rw [hcl] at hs
  have ht : sm_throw k pc lv a (C.2.2.1, sm_mg C D1) = some (.inl (hp, lv, [.ref a], (C.2.2.1, sm_mg C D1))) := by
    unfold sm_throw
    show (match D1.2.2.1 a with | some y => _ | none => _) = _
    rw [hz]
    dsimp only
    rw [if_pos (by omega), show (2 * z + 1) / 2 = z from by omega, hf]
  exact sf_step (hs.trans ht) h2
theorem sm_thr_at (D : sm_D) (z : Nat) : (sm_thr D z).2.2.1 D.2.2.2.1 = some (2 * z + 1) := by
  unfold sm_thr
  dsimp only
  rw [if_pos rfl]
end SHC
