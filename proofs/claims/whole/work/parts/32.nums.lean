/-! ===== numbers: places as Nat, letters as Int32 ===== -/
theorem ni_inj {a b : Nat} (ha : a < 2147483648) (hb : b < 2147483648) : (ni a = ni b) = (a = b) := by
  rw [← Int32.toInt_inj, ni_toInt ha, ni_toInt hb]
  exact propext ⟨fun h => by omega, fun h => by omega⟩
theorem ni_lt {a b : Nat} (ha : a < 2147483648) (hb : b < 2147483648) : (ni a < ni b) = (a < b) := by
  rw [Int32.lt_iff_toInt_lt, ni_toInt ha, ni_toInt hb]
  exact propext ⟨fun h => by omega, fun h => by omega⟩
theorem ni_le {a b : Nat} (ha : a < 2147483648) (hb : b < 2147483648) : (ni a ≤ ni b) = (a ≤ b) := by
  rw [Int32.le_iff_toInt_le, ni_toInt ha, ni_toInt hb]
  exact propext ⟨fun h => by omega, fun h => by omega⟩
theorem ni_add (a b : Nat) : ni a + ni b = ni (a + b) := (Int32.ofNat_add a b).symm
theorem ni_mul (a b : Nat) : ni a * ni b = ni (a * b) := (Int32.ofNat_mul a b).symm
theorem ni_sub {a b : Nat} (h : b ≤ a) : ni a - ni b = ni (a - b) := by
  have : a = (a - b) + b := by omega
  conv => lhs; rw [this]
  rw [← ni_add]
  exact Int32.add_sub_cancel _ _
theorem ni_nat {n : Nat} (h : n < 2147483648) : (ni n).toNatClampNeg = n := by
  unfold Int32.toNatClampNeg
  rw [ni_toInt h]; omega
theorem ni_zero_le {n : Nat} (h : n < 2147483648) : (ni n < ni 0) = False := by
  rw [ni_lt h (by omega)]; simp
theorem ni_add_k (a b : Nat) (h : b ≤ a) : ni a + sm_k (-(b : Int)) = ni (a - b) := by
  rw [sm_k_eq, ← ni_sub h, Int32.sub_eq_add_neg]
  congr 1
  unfold ni
  rw [Int32.ofInt_neg]
  congr 1
theorem k_m1 : sm_k (-1) = -1 := rfl
theorem k_m1_toInt : (sm_k (-1)).toInt = -1 := rfl
theorem k_ne_ni {n : Nat} (h : n < 2147483648) : (sm_k (-1) = ni n) = False := by
  rw [← Int32.toInt_inj, ni_toInt h, k_m1_toInt]; simp
theorem ni_ne_k {n : Nat} (h : n < 2147483648) : (ni n = sm_k (-1)) = False := by
  rw [← Int32.toInt_inj, ni_toInt h, k_m1_toInt]; simp
theorem ni_in {j n : Nat} (h : j < 2147483648) : sm_in_b (ni j) n = decide (j < n) := by
  unfold sm_in_b
  rw [ni_nat h]
  have : ¬ (ni j < 0) := by
    rw [show (0 : Int32) = ni 0 from rfl, ni_lt h (by omega)]; omega
  simp [this]
theorem ni_of {x : Int32} (h : ni 0 ≤ x) : ∃ n, n < 2147483648 ∧ x = ni n := by
  refine ⟨x.toInt.toNat, ?_, ?_⟩
  · have := Int32.toInt_lt x; omega
  · rw [Int32.le_iff_toInt_le, ni_toInt (by omega)] at h
    rw [← Int32.toInt_inj, ni_toInt]
    · omega
    · have := Int32.toInt_lt x; omega
theorem nar_b0 : sm_nar .boolean (ni 0) = ni 0 := rfl
theorem nar_b1 : sm_nar .boolean (ni 1) = ni 1 := rfl
theorem nar_y0 : sm_nar .byte (ni 0) = ni 0 := rfl
theorem nar_c' : ∀ n, n < 256 → sm_nar .char (ni n) = ni n := by decide +kernel
theorem nar_c {n : Nat} (h : n < 256) : sm_nar .char (ni n) = ni n := nar_c' n h
