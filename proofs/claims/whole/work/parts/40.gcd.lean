/-! COMMON DIVISORS -/
def fp : Nat → Nat × Nat
  | 0 => (0, 1)
  | n + 1 => ((fp n).2, (fp n).1 + (fp n).2)
theorem fp_s (n : Nat) : (fp (n + 1)).1 = (fp n).2 ∧ (fp (n + 1)).2 = (fp n).1 + (fp n).2 := ⟨rfl, rfl⟩
theorem fp_93 : 9223372036854775808 ≤ (fp 93).1 := by decide +kernel
theorem rmL_z {x y : Nat} (hx : x < 9223372036854775808) (hy : 0 < y) (hy2 : y < 9223372036854775808) : rmL (zL (x : Int)) (zL (y : Int)) = some (zL ((x % y : Nat) : Int)) := by
  have hne : ¬ zL (y : Int) = 0 := by rw [l0z, zL_eq (by omega) (by omega) (by omega) (by omega)]; omega
  unfold rmL
  rw [if_neg hne, zL_div (by omega) (by omega) (by omega) (by omega), zL_mul, zL_sub]
  have e1 : (x : Int).tdiv (y : Int) = ((x / y : Nat) : Int) := rfl
  have e2 := Nat.mod_add_div x y
  have e3 : (x : Int) - ((x / y : Nat) : Int) * (y : Int) = ((x % y : Nat) : Int) := by
    rw [Int.mul_comm, ← Int.natCast_mul]; omega
  rw [e1, e3]
theorem common_aux : ∀ (j x y F : Nat), j < F → y < x → (x < (fp (j + 2)).1 ∨ y < (fp (j + 1)).1) → x < 9223372036854775808 → iter (un2 fb_M_common_9) F (zL (x : Int), zL (y : Int)) = some (zL ((Nat.gcd x y : Nat) : Int)) := by
  intro j
  induction j with
  | zero =>
    intro x y F hF hxy h hx
    obtain ⟨F, rfl⟩ : ∃ k, F = k + 1 := ⟨F - 1, by omega⟩
    have e2 : (fp (0 + 2)).1 = 1 := rfl
    have e1 : (fp (0 + 1)).1 = 1 := rfl
    rw [e1, e2] at h
    have hy : y = 0 := by omega
    subst hy
    have e : un2 fb_M_common_9 (zL (x : Int), zL ((0 : Nat) : Int)) = some (.inr (zL (x : Int))) := by
      dsimp only [un2]; unfold fb_M_common_9; rw [if_pos (show zL ((0 : Nat) : Int) = 0 from rfl)]
    simp only [iter, e, Nat.gcd_zero_right]
  | succ j ih =>
    intro x y F hF hxy h hx
    obtain ⟨F, rfl⟩ : ∃ k, F = k + 1 := ⟨F - 1, by omega⟩
    by_cases hy : y = 0
    · subst hy
      have e : un2 fb_M_common_9 (zL (x : Int), zL ((0 : Nat) : Int)) = some (.inr (zL (x : Int))) := by
        dsimp only [un2]; unfold fb_M_common_9; rw [if_pos (show zL ((0 : Nat) : Int) = 0 from rfl)]
      simp only [iter, e, Nat.gcd_zero_right]
    · have e : un2 fb_M_common_9 (zL (x : Int), zL (y : Int)) = some (.inl (zL (y : Int), zL ((x % y : Nat) : Int))) := by
        dsimp only [un2]; unfold fb_M_common_9
        rw [if_neg (by rw [l0z, zL_eq (by omega) (by omega) (by omega) (by omega)]; omega), rmL_z hx (by omega) (by omega), Option.bind_some]
      have hr := Nat.mod_lt x (show 0 < y by omega)
      have hd := Nat.mod_add_div x y
      have h1 : 1 ≤ x / y := Nat.div_pos (by omega) (by omega)
      have h2 : y * 1 ≤ y * (x / y) := Nat.mul_le_mul_left y h1
      have f1 := (fp_s (j + 2))
      have f2 := (fp_s (j + 1))
      have n1 : (fp (j + 1 + 2)).1 = (fp (j + 2)).2 := f1.1
      have n2 : (fp (j + 1 + 1)).1 = (fp (j + 2)).1 := rfl
      have n3 : (fp (j + 2)).2 = (fp (j + 1)).1 + (fp (j + 2)).1 := by
        have a : (fp (j + 2)).2 = (fp (j + 1)).1 + (fp (j + 1)).2 := f2.2
        have b : (fp (j + 2)).1 = (fp (j + 1)).2 := f2.1
        omega
      have := ih y (x % y) F (by omega) hr (by omega) (by omega)
      simp only [iter, e]
      rw [this]
      congr 3
      rw [Nat.gcd_comm y, ← Nat.gcd_rec, Nat.gcd_comm]
theorem divisor_aux : ∀ (j x y F c : Nat), j < F → c + j < 100 → y < x → (x < (fp (j + 2)).1 ∨ y < (fp (j + 1)).1) → x < 9223372036854775808 → iter (un3 fb_X_divisor_31) F (zL (x : Int), zL (y : Int), zI (c : Int)) = some (zL ((Nat.gcd x y : Nat) : Int)) := by
  intro j
  induction j with
  | zero =>
    intro x y F c hF hc hxy h hx
    obtain ⟨F, rfl⟩ : ∃ k, F = k + 1 := ⟨F - 1, by omega⟩
    have e2 : (fp (0 + 2)).1 = 1 := rfl
    have e1 : (fp (0 + 1)).1 = 1 := rfl
    rw [e1, e2] at h
    have hy : y = 0 := by omega
    subst hy
    have e : un3 fb_X_divisor_31 (zL (x : Int), zL ((0 : Nat) : Int), zI (c : Int)) = some (.inr (zL (x : Int))) := by
      dsimp only [un3]; unfold fb_X_divisor_31; rw [if_neg (by rw [show (100 : Int32) = zI 100 from rfl, zI_le (by omega) (by omega) (by omega) (by omega)]; omega)]; rw [if_pos (show zL ((0 : Nat) : Int) = 0 from rfl)]
    simp only [iter, e, Nat.gcd_zero_right]
  | succ j ih =>
    intro x y F c hF hc hxy h hx
    obtain ⟨F, rfl⟩ : ∃ k, F = k + 1 := ⟨F - 1, by omega⟩
    by_cases hy : y = 0
    · subst hy
      have e : un3 fb_X_divisor_31 (zL (x : Int), zL ((0 : Nat) : Int), zI (c : Int)) = some (.inr (zL (x : Int))) := by
        dsimp only [un3]; unfold fb_X_divisor_31; rw [if_neg (by rw [show (100 : Int32) = zI 100 from rfl, zI_le (by omega) (by omega) (by omega) (by omega)]; omega)]; rw [if_pos (show zL ((0 : Nat) : Int) = 0 from rfl)]
      simp only [iter, e, Nat.gcd_zero_right]
    · have e : un3 fb_X_divisor_31 (zL (x : Int), zL (y : Int), zI (c : Int)) = some (.inl (zL (y : Int), zL ((x % y : Nat) : Int), zI ((c + 1 : Nat) : Int))) := by
        dsimp only [un3]; unfold fb_X_divisor_31; rw [if_neg (by rw [show (100 : Int32) = zI 100 from rfl, zI_le (by omega) (by omega) (by omega) (by omega)]; omega)]
        rw [if_neg (by rw [l0z, zL_eq (by omega) (by omega) (by omega) (by omega)]; omega), rmL_z hx (by omega) (by omega), Option.bind_some]; simp only [nm, zI_1]
      have hr := Nat.mod_lt x (show 0 < y by omega)
      have hd := Nat.mod_add_div x y
      have h1 : 1 ≤ x / y := Nat.div_pos (by omega) (by omega)
      have h2 : y * 1 ≤ y * (x / y) := Nat.mul_le_mul_left y h1
      have f1 := (fp_s (j + 2))
      have f2 := (fp_s (j + 1))
      have n1 : (fp (j + 1 + 2)).1 = (fp (j + 2)).2 := f1.1
      have n2 : (fp (j + 1 + 1)).1 = (fp (j + 2)).1 := rfl
      have n3 : (fp (j + 2)).2 = (fp (j + 1)).1 + (fp (j + 2)).1 := by
        have a : (fp (j + 2)).2 = (fp (j + 1)).1 + (fp (j + 1)).2 := f2.2
        have b : (fp (j + 2)).1 = (fp (j + 1)).2 := f2.1
        omega
      have := ih y (x % y) F (c + 1) (by omega) (by omega) hr (by omega) (by omega)
      simp only [iter, e]
      rw [this]
      congr 3
      rw [Nat.gcd_comm y, ← Nat.gcd_rec, Nat.gcd_comm]
theorem common_nat {x y F : Nat} (hF : 100 < F) (hx : x < 9223372036854775808) (hy : 0 < y) (hy2 : y < 9223372036854775808) : iter (un2 fb_M_common_9) F (zL (x : Int), zL (y : Int)) = some (zL ((Nat.gcd x y : Nat) : Int)) := by
  obtain ⟨F, rfl⟩ : ∃ k, F = k + 1 := ⟨F - 1, by omega⟩
  have e : un2 fb_M_common_9 (zL (x : Int), zL (y : Int)) = some (.inl (zL (y : Int), zL ((x % y : Nat) : Int))) := by
    dsimp only [un2]; unfold fb_M_common_9
    rw [if_neg (by rw [l0z, zL_eq (by omega) (by omega) (by omega) (by omega)]; omega), rmL_z hx (by omega) (by omega), Option.bind_some]
  have hr := Nat.mod_lt x hy
  have f := fp_93
  have := common_aux 92 y (x % y) F (by omega) hr (Or.inr (by show x % y < (fp 93).1; omega)) hy2
  simp only [iter, e]
  rw [this]
  congr 3
  rw [Nat.gcd_comm y, ← Nat.gcd_rec, Nat.gcd_comm]
theorem divisor_nat {x y F : Nat} (hF : 100 < F) (hx : x < 9223372036854775808) (hy2 : y < 9223372036854775808) : iter (un3 fb_X_divisor_31) F (zL (x : Int), zL (y : Int), (0 : Int32)) = some (zL ((Nat.gcd x y : Nat) : Int)) := by
  by_cases hy : y = 0
  · subst hy
    obtain ⟨F, rfl⟩ : ∃ k, F = k + 1 := ⟨F - 1, by omega⟩
    have e : un3 fb_X_divisor_31 (zL (x : Int), zL ((0 : Nat) : Int), (0 : Int32)) = some (.inr (zL (x : Int))) := by
      dsimp only [un3]; unfold fb_X_divisor_31; rw [if_neg (by decide), if_pos (show zL ((0 : Nat) : Int) = 0 from rfl)]
    simp only [iter, e, Nat.gcd_zero_right]
  obtain ⟨F, rfl⟩ : ∃ k, F = k + 1 := ⟨F - 1, by omega⟩
  have e : un3 fb_X_divisor_31 (zL (x : Int), zL (y : Int), (0 : Int32)) = some (.inl (zL (y : Int), zL ((x % y : Nat) : Int), zI ((1 : Nat) : Int))) := by
    dsimp only [un3]; unfold fb_X_divisor_31
    rw [if_neg (by decide), if_neg (by rw [l0z, zL_eq (by omega) (by omega) (by omega) (by omega)]; omega), rmL_z hx (by omega) (by omega), Option.bind_some]
    rfl
  have hr := Nat.mod_lt x (show 0 < y by omega)
  have f := fp_93
  have := divisor_aux 92 y (x % y) F 1 (by omega) (by omega) hr (Or.inr (by show x % y < (fp 93).1; omega)) hy2
  simp only [iter, e]
  rw [this]
  congr 3
  rw [Nat.gcd_comm y, ← Nat.gcd_rec, Nat.gcd_comm]
theorem common_z {a b : Int} {F : Nat} (hF : 100 < F) (h1 : -9223372036854775808 < a) (h2 : a < 9223372036854775808) (h3 : 0 < b) (h4 : b < 9223372036854775808) : f_M_common F (zL a) (zL b) = some (zL ((Int.gcd a b : Nat) : Int)) := by
  have eb : b = ((b.natAbs : Nat) : Int) := by omega
  have := common_nat (x := a.natAbs) (y := b.natAbs) hF (by omega) (by omega) (by omega)
  unfold f_M_common
  simp only [nm]
  rw [← eb] at this
  by_cases q : 0 < a
  · have ea : ((a.natAbs : Nat) : Int) = a := by omega
    rw [ea] at this
    rw [if_pos (by rw [l0z, zL_lt (by omega) (by omega) (by omega) (by omega)]; exact q), this]
    rfl
  · have ea : ((a.natAbs : Nat) : Int) = -a := by omega
    rw [ea] at this
    rw [if_neg (by rw [l0z, zL_lt (by omega) (by omega) (by omega) (by omega)]; exact q), zL_neg, this]
    rfl
theorem divisor_z {a b : Int} {F : Nat} (hF : 100 < F) (h1 : -9223372036854775808 < a) (h2 : a < 9223372036854775808) (h3 : -9223372036854775808 < b) (h4 : b < 9223372036854775808) : f_X_divisor F (zL a) (zL b) = some (zL ((Int.gcd a b : Nat) : Int)) := by
  have := divisor_nat (x := a.natAbs) (y := b.natAbs) hF (by omega) (by omega)
  have k : ∀ s0 : Int, s0 = ((a.natAbs : Nat) : Int) → fj_X_divisor_12 F (zL b) (zL s0) = some (zL ((Int.gcd a b : Nat) : Int)) := fun s0 hs => by
    unfold fj_X_divisor_12 fj_X_divisor_26
    rw [hs]
    by_cases q : 0 ≤ b
    · have eb : ((b.natAbs : Nat) : Int) = b := by omega
      rw [eb] at this
      rw [if_pos (by rw [l0z, zL_le (by omega) (by omega) (by omega) (by omega)]; exact q), this]; rfl
    · have eb : ((b.natAbs : Nat) : Int) = -b := by omega
      rw [eb] at this
      rw [if_neg (by rw [l0z, zL_le (by omega) (by omega) (by omega) (by omega)]; exact q), zL_neg, this]; rfl
  unfold f_X_divisor
  by_cases q : 0 ≤ a
  · rw [if_pos (by rw [l0z, zL_le (by omega) (by omega) (by omega) (by omega)]; exact q)]
    exact k a (by omega)
  · rw [if_neg (by rw [l0z, zL_le (by omega) (by omega) (by omega) (by omega)]; exact q), zL_neg]
    exact k (-a) (by omega)
