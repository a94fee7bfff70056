/-! ===== the reference: an entity ===== -/
section RHC
variable {T : Nat → Int32} {N : Nat}
theorem md_tx_7 (hL : LN T N) {b : Nat} (hb : b ≤ N) : ∀ (m q z : Nat), b - q ≤ m → md_tx T b q = .ok z → ∀ k, q ≤ k → k < z → ∃ n, n < 128 ∧ T k = ni n := by
  intro m
  induction m with
  | zero => intro q z hm h; rw [md_tx, if_neg (by omega)] at h; cases h
  | succ m ih =>
    intro q z hm h k hk hkz
    rw [md_tx] at h
    split at h
    · next hq =>
      split at h
      · next h13 =>
        split at h
        · next hc =>
          by_cases h1 : k = q
          · rw [h1, h13]; exact ⟨13, by omega, rfl⟩
          · by_cases h2 : k = q + 1
            · rw [h2, (hL q (by omega) h13).2]; exact ⟨10, by omega, rfl⟩
            · exact ih (q + 2) z (by omega) h k (by omega) hkz
        · cases h; omega
      · split at h
        · next hc =>
          by_cases h1 : k = q
          · rw [h1]
            rcases hc with hc | hc
            · obtain ⟨n, -, n2, n3⟩ := (md_in_iff (by omega) (by omega)).mp hc
              exact ⟨n, by omega, n3⟩
            · exact ⟨9, by omega, hc⟩
          · exact ih (q + 1) z (by omega) h k (by omega) hkz
        · cases h
    · cases h
theorem md_tx_pr (hL : LN T N) {b : Nat} (hb : b ≤ N) : ∀ (m q z : Nat), b - q ≤ m → md_tx T b q = .ok z → ∀ x ∈ md_chs T z (md_go T z q), md_in x 32 126 = true ∨ x = ni 9 := by
  intro m
  induction m with
  | zero => intro q z hm h; rw [md_tx, if_neg (by omega)] at h; cases h
  | succ m ih =>
    intro q z hm h x hx
    have hz := md_tx_ok hL hb h
    rw [md_tx] at h
    split at h
    · next hq =>
      split at h
      · next h13 =>
        split at h
        · next hc =>
          have hz2 := md_tx_ok hL hb h
          rw [md_chs_fold (by omega) h13 (md_bl_13 hc.2)] at hx
          exact ih (q + 2) z (by omega) h x hx
        · cases h
          have : md_chs T q (md_go T q q) = [] := by
            unfold md_go
            rw [if_neg (by omega), md_chs, dif_neg (by omega)]
          rw [this] at hx; cases hx
      · next h13 =>
        split at h
        · next hc =>
          have hz2 := md_tx_ok hL hb h
          rw [md_chs_char (by omega) h13] at hx
          rcases List.mem_cons.mp hx with rfl | hx
          · exact hc
          · exact ih (q + 1) z (by omega) h x hx
        · cases h
    · cases h
theorem md_fs_FZ (hL : LN T N) {i b tot : Nat} (hb : b ≤ N) : ∀ (m : Nat) (fs : List md_F) (p : Nat) {fs' : List md_F} {body : Nat}, 20 - fs.length ≤ m → md_fs T i b tot fs p = .ok (fs', body) → (∀ h ∈ fs, FZ T N h ∧ h.2.1 < h.2.2.1) → ∀ h ∈ fs', FZ T N h ∧ h.2.1 < h.2.2.1 := by
  intro m
  induction m with
  | zero =>
    intro fs p fs' body hm h hP
    by_cases hp : p < b
    · by_cases h13 : T p = ni 13
      · rw [md_fs, if_pos hp, if_pos h13] at h; cases h; exact hP
      · rw [md_fs_step hp h13] at h
        unfold md_f1 at h
        rw [if_pos (Or.inl (by omega))] at h
        cases h
    · rw [md_fs, if_neg hp] at h; cases h
  | succ m ih =>
    intro fs p fs' body hm h hP
    by_cases hp : p < b
    · by_cases h13 : T p = ni 13
      · rw [md_fs, if_pos hp, if_pos h13] at h; cases h; exact hP
      · rw [md_fs_step hp h13] at h
        cases h1 : md_f1 T i b tot fs p with
        | error f => rw [h1] at h; cases h
        | ok hd =>
          rw [h1] at h
          dsimp only at h
          refine ih (fs ++ [hd]) _ (by rw [List.length_append, List.length_singleton]; omega) h (fun g hg => ?_)
          rcases List.mem_append.mp hg with hg | hg
          · exact hP g hg
          · rw [List.mem_singleton.mp hg]
            unfold md_f1 at h1
            split at h1
            · cases h1
            · cases h2 : md_nm T b p p with
              | error f => rw [h2] at h1; cases h1
              | ok c =>
                rw [h2] at h1
                dsimp only at h1
                split at h1
                · cases h1
                · cases h3 : md_tx T b (c + 1) with
                  | error f => rw [h3] at h1; cases h1
                  | ok z =>
                    rw [h3] at h1
                    cases h1
                    have hn := md_nm_ok (Nat.le_refl p) h2
                    have hx := md_tx_ok hL hb h3
                    exact ⟨⟨by dsimp only; omega, by dsimp only; omega, hx.2.2.2, md_tx_7 hL hb b (c + 1) z (by omega) h3, md_tx_pr hL hb b (c + 1) z (by omega) h3⟩, by dsimp only; omega⟩
    · rw [md_fs, if_neg hp] at h; cases h
theorem md_txts_1 {dep : Nat} : ∀ (fs : List md_F) {x y : md_X}, md_txts T dep fs x = .ok y → ((∃ h ∈ fs, h.1 = 1) ∨ x.1 ≠ none) → y.1 ≠ none := by
  intro fs
  induction fs with
  | nil => intro x y h hx; cases h; exact hx.elim (fun ⟨_, g, _⟩ => by cases g) id
  | cons f fs ih =>
    intro x y h hx
    unfold md_txts at h
    cases h1 : md_txt1 T dep f x with
    | error e => rw [h1] at h; cases h
    | ok w =>
      simp only [h1, bind, Except.bind] at h
      refine ih h ?_
      by_cases hf : f.1 = 1
      · right
        unfold md_txt1 at h1
        rw [if_pos hf] at h1
        cases ht : md_type T f.2.2.2 dep (md_go T f.2.2.2 (f.2.2.1 + 1)) with
        | error e => rw [ht] at h1; cases h1
        | ok t => rw [ht] at h1; cases h1; exact fun g => nomatch g
      · rcases hx with ⟨g, hg, g1⟩ | hx
        · rcases List.mem_cons.mp hg with rfl | hg
          · exact absurd g1 hf
          · exact Or.inl ⟨g, hg, g1⟩
        · right; rw [md_txt1_ty h1 hf]; exact hx
end RHC
def REN (X : Nat) (T : Nat → Int32) (N : Nat) (D : sm_D) (l : List Int32) (j tot off : Nat) (u : md_E) : Prop :=
  D.1 (X + 53) j = u.1 ∧ (D.1 (X + 54) j = ni tot ∧ D.1 (X + 55) j = ni u.2.1.length ∧ u.2.1.length ≤ 20 ∧ ∀ k h, u.2.1[k]? = some h → RF1 X (tot + k) h D ∧ h.1 ≤ 6 ∧ FZ T N h ∧ h.2.1 < h.2.2.1) ∧
  (D.1 (X + 56) j = md_b u.2.2.2.2.1 ∧ D.1 (X + 57) j = ni u.2.2.2.1 ∧ u.2.2.2.1 ≤ 4) ∧ (D.1 (X + 59) j = ni off ∧ D.1 (X + 60) j = ni u.2.2.2.2.2.length) ∧
  SLT l (D.1 (X + 64) (2 * j)) (D.1 (X + 65) (2 * j)) u.2.2.1.1 ∧ SLT l (D.1 (X + 64) (2 * j + 1)) (D.1 (X + 65) (2 * j + 1)) u.2.2.1.2.1 ∧ RP X j u.2.2.1.2.2 l D
def md_oc (es : List md_E) : List Int32 := (es.map (fun u => u.2.2.2.2.2)).flatten
def md_of (es : List md_E) (j : Nat) : Nat := (md_oc (es.take j)).length
/-- the reference holds a message -/
def RM (X : Nat) (T : Nat → Int32) (N : Nat) (D : sm_D) (m : md_M) (l : List Int32) : Prop := D.1 (X + 49) 9 = ni m.1.length ∧ D.1 (X + 49) 28 = ni m.tot ∧ m.1.length ≤ 40 ∧ m.tot ≤ 200 ∧ RT X l D ∧ OCT X (md_oc m.1) D ∧ (∀ j u, m.1[j]? = some u → REN X T N D l j (md_tb m.1 j) (md_of m.1 j) u) ∧ SUB X m.2.1 D ∧ (D.2.1 (X + 49) 38 = Int64.ofInt m.2.2.1.1 ∧ D.1 (X + 49) 39 = Int32.ofInt m.2.2.1.2) ∧ RA X 0 (m.2.2.2 false) l D ∧ RA X 1 (m.2.2.2 true) l D
/-- cells of earlier entities -/
def oldc (X i tot c j : Nat) : Prop := (X + 53 ≤ c ∧ c ≤ X + 62 ∧ j < i) ∨ ((c = X + 64 ∨ c = X + 65) ∧ j < 2 * i) ∨ (X + 66 ≤ c ∧ c ≤ X + 69 ∧ j < 6 * i) ∨ (X + 70 ≤ c ∧ c ≤ X + 74 ∧ j < tot)
section RHD
variable {C : sm_K} {X N i tot : Nat} {T : Nat → Int32} {D E : sm_D} {l : List Int32}
theorem REN_old {n : List Int32} {j tb off : Nat} {u : md_E} (h : REN X T N D l j tb off u) (hj : j < i) (htb : tb + u.2.1.length ≤ tot) (ho : ∀ c j, oldc X i tot c j → E.1 c j = D.1 c j) : REN X T N E (l ++ n) j tb off u := by
  obtain ⟨a1, ⟨a2, a3, a4, a5⟩, ⟨a6, a7, a8⟩, ⟨a9, a10⟩, a11, a12, a13⟩ := h
  have r1 : ∀ c, X + 53 ≤ c → c ≤ X + 62 → E.1 c j = D.1 c j := fun c h1 h2 => ho c j (Or.inl ⟨h1, h2, hj⟩)
  refine ⟨by rw [r1 _ (by omega) (by omega)]; exact a1, ⟨by rw [r1 _ (by omega) (by omega)]; exact a2, by rw [r1 _ (by omega) (by omega)]; exact a3, a4, fun k h hk => ?_⟩, ⟨by rw [r1 _ (by omega) (by omega)]; exact a6, by rw [r1 _ (by omega) (by omega)]; exact a7, a8⟩, ⟨by rw [r1 _ (by omega) (by omega)]; exact a9, by rw [r1 _ (by omega) (by omega)]; exact a10⟩, ?_, ?_, ?_⟩
  · have hk2 : k < u.2.1.length := by
      rcases Nat.lt_or_ge k u.2.1.length with g | g
      · exact g
      · rw [List.getElem?_eq_none g] at hk; cases hk
    obtain ⟨⟨q1, q2, q3, q4, q5⟩, q6⟩ := a5 k h hk
    have r2 : ∀ c, X + 70 ≤ c → c ≤ X + 74 → E.1 c (tb + k) = D.1 c (tb + k) := fun c h1 h2 => ho c _ (Or.inr (Or.inr (Or.inr ⟨h1, h2, by omega⟩)))
    refine ⟨⟨?_, ?_, ?_, ?_, ?_⟩, q6⟩ <;> rw [r2 _ (by omega) (by omega)] <;> assumption
  · rw [ho _ _ (Or.inr (Or.inl ⟨by omega, by omega⟩)), ho _ _ (Or.inr (Or.inl ⟨by omega, by omega⟩))]; exact a11.mono
  · rw [ho _ _ (Or.inr (Or.inl ⟨by omega, by omega⟩)), ho _ _ (Or.inr (Or.inl ⟨by omega, by omega⟩))]; exact a12.mono
  · refine RP.mono ⟨by rw [r1 _ (by omega) (by omega)]; exact a13.1, a13.2.1, fun k w hw => ?_⟩
    have hk2 : k < u.2.2.1.2.2.length := by
      rcases Nat.lt_or_ge k u.2.2.1.2.2.length with g | g
      · exact g
      · rw [List.getElem?_eq_none g] at hw; cases hw
    have := a13.2.1
    have r3 : ∀ c, X + 66 ≤ c → c ≤ X + 69 → E.1 c (6 * j + k) = D.1 c (6 * j + k) := fun c h1 h2 => ho c _ (Or.inr (Or.inr (Or.inl ⟨h1, h2, by omega⟩)))
    rw [r3 _ (by omega) (by omega), r3 _ (by omega) (by omega), r3 _ (by omega) (by omega), r3 _ (by omega) (by omega)]
    exact a13.2.2 k w hw
end RHD
