/-! TOOLS between machine numbers and whole numbers. -/
def zI (a : Int) : Int32 := Int32.ofInt a
def zL (a : Int) : Int64 := Int64.ofInt a
theorem zI_add (a b : Int) : zI a + zI b = zI (a + b) := (Int32.ofInt_add a b).symm
theorem zI_sub (a b : Int) : zI a - zI b = zI (a - b) := (Int32.ofInt_sub a b).symm
theorem zI_mul (a b : Int) : zI a * zI b = zI (a * b) := (Int32.ofInt_mul a b).symm
theorem zI_neg (a : Int) : - zI a = zI (-a) := (Int32.ofInt_neg a).symm
theorem zL_add (a b : Int) : zL a + zL b = zL (a + b) := (Int64.ofInt_add a b).symm
theorem zL_sub (a b : Int) : zL a - zL b = zL (a - b) := (Int64.ofInt_sub a b).symm
theorem zL_mul (a b : Int) : zL a * zL b = zL (a * b) := (Int64.ofInt_mul a b).symm
theorem zL_neg (a : Int) : - zL a = zL (-a) := (Int64.ofInt_neg a).symm
theorem min32 : Int32.minValue.toInt = -2147483648 := by decide
theorem max32 : Int32.maxValue.toInt = 2147483647 := by decide
theorem min64 : Int64.minValue.toInt = -9223372036854775808 := by decide
theorem max64 : Int64.maxValue.toInt = 9223372036854775807 := by decide
theorem zI_l {a : Int} (h1 : -2147483648 ≤ a) (h2 : a ≤ 2147483647) : (zI a).toInt64 = zL a := Int32.toInt64_ofInt (by rw [min32]; exact h1) (by rw [max32]; exact h2)
theorem zI_le {a b : Int} (h1 : -2147483648 ≤ a) (h2 : a ≤ 2147483647) (h3 : -2147483648 ≤ b) (h4 : b ≤ 2147483647) : zI a ≤ zI b ↔ a ≤ b := Int32.ofInt_le_iff_le (by rw [min32]; exact h1) (by rw [max32]; exact h2) (by rw [min32]; exact h3) (by rw [max32]; exact h4)
theorem zI_lt {a b : Int} (h1 : -2147483648 ≤ a) (h2 : a ≤ 2147483647) (h3 : -2147483648 ≤ b) (h4 : b ≤ 2147483647) : zI a < zI b ↔ a < b := Int32.ofInt_lt_iff_lt (by rw [min32]; exact h1) (by rw [max32]; exact h2) (by rw [min32]; exact h3) (by rw [max32]; exact h4)
theorem zL_le {a b : Int} (h1 : -9223372036854775808 ≤ a) (h2 : a ≤ 9223372036854775807) (h3 : -9223372036854775808 ≤ b) (h4 : b ≤ 9223372036854775807) : zL a ≤ zL b ↔ a ≤ b := Int64.ofInt_le_iff_le (by rw [min64]; exact h1) (by rw [max64]; exact h2) (by rw [min64]; exact h3) (by rw [max64]; exact h4)
theorem zL_lt {a b : Int} (h1 : -9223372036854775808 ≤ a) (h2 : a ≤ 9223372036854775807) (h3 : -9223372036854775808 ≤ b) (h4 : b ≤ 9223372036854775807) : zL a < zL b ↔ a < b := Int64.ofInt_lt_iff_lt (by rw [min64]; exact h1) (by rw [max64]; exact h2) (by rw [min64]; exact h3) (by rw [max64]; exact h4)
theorem zI_eq {a b : Int} (h1 : -2147483648 ≤ a) (h2 : a ≤ 2147483647) (h3 : -2147483648 ≤ b) (h4 : b ≤ 2147483647) : zI a = zI b ↔ a = b := by
  refine ⟨fun h => ?_, fun h => by rw [h]⟩
  have p := (zI_le h1 h2 h3 h4).mp (by rw [h]; exact Int32.le_refl _)
  have q := (zI_le h3 h4 h1 h2).mp (by rw [h]; exact Int32.le_refl _)
  omega
theorem zL_eq {a b : Int} (h1 : -9223372036854775808 ≤ a) (h2 : a ≤ 9223372036854775807) (h3 : -9223372036854775808 ≤ b) (h4 : b ≤ 9223372036854775807) : zL a = zL b ↔ a = b := by
  refine ⟨fun h => ?_, fun h => by rw [h]⟩
  have p := (zL_le h1 h2 h3 h4).mp (by rw [h]; exact Int64.le_refl _)
  have q := (zL_le h3 h4 h1 h2).mp (by rw [h]; exact Int64.le_refl _)
  omega
theorem zL_div {a b : Int} (h1 : -9223372036854775808 ≤ a) (h2 : a ≤ 9223372036854775807) (h3 : -9223372036854775808 ≤ b) (h4 : b ≤ 9223372036854775807) : zL a / zL b = zL (a.tdiv b) := (Int64.ofInt_tdiv (by rw [min64]; exact h1) (by rw [max64]; exact h2) (by rw [min64]; exact h3) (by rw [max64]; exact h4)).symm
theorem zI_div {a b : Int} (h1 : -2147483648 ≤ a) (h2 : a ≤ 2147483647) (h3 : -2147483648 ≤ b) (h4 : b ≤ 2147483647) : zI a / zI b = zI (a.tdiv b) := (Int32.ofInt_tdiv (by rw [min32]; exact h1) (by rw [max32]; exact h2) (by rw [min32]; exact h3) (by rw [max32]; exact h4)).symm
/-- a whole quotient -/
theorem dvL_ex {b q : Int} (hb : 0 < b) (hb2 : b ≤ 9223372036854775807) (h1 : -9223372036854775808 ≤ b * q) (h2 : b * q ≤ 9223372036854775807) : dvL (zL (b * q)) (zL b) = some (zL q) := by
  have hne : ¬ zL b = (0 : Int64) := by
    rw [show (0 : Int64) = zL 0 from rfl, zL_eq (by omega) hb2 (by omega) (by omega)]; omega
  unfold dvL
  rw [if_neg hne, zL_div h1 h2 (by omega) hb2, Int.mul_tdiv_cancel_left q (by omega)]
theorem nI_z (n : Nat) : nI n = zI (n : Int) := Int32.ofInt_eq_ofNat.symm
theorem zI_clamp {j : Nat} (h : j < 2147483648) : (zI (j : Int)).toNatClampNeg = j := by rw [← nI_z]; exact nI_clamp h
theorem zI_inB {j n : Nat} (h : j < n) (hn : n ≤ 100000) : inB (zI (j : Int)) n = true := by
  unfold inB
  have h1 : ¬ zI (j : Int) < 0 := by
    rw [show (0 : Int32) = zI 0 from rfl, zI_lt (by omega) (by omega) (by omega) (by omega)]; omega
  rw [zI_clamp (by omega)]
  simp [h, h1]
theorem ldA_z {α : Type} {f : Nat → α} {j n : Nat} (h : j < n) (hn : n ≤ 100000) : ldA f n (zI (j : Int)) = some (f j) := by
  unfold ldA
  rw [if_pos (zI_inB h hn), zI_clamp (by omega)]
theorem stI_z {f : Nat → Int32} {x : Int32} {j n : Nat} (h : j < n) (hn : n ≤ 100000) : stI f n (zI (j : Int)) x = some (upd f j x) := by
  unfold stI
  rw [if_pos (zI_inB h hn), zI_clamp (by omega)]
theorem stL_z {f : Nat → Int64} {x : Int64} {j n : Nat} (h : j < n) (hn : n ≤ 100000) : stL f n (zI (j : Int)) x = some (vp_updL f j x) := by
  unfold stL
  rw [if_pos (zI_inB h hn), zI_clamp (by omega)]
theorem stZ_z {f : Nat → Int32} {x : Int32} {j n : Nat} (h : j < n) (hn : n ≤ 100000) (hx : vp_nar .boolean x = x) : stZ f n (zI (j : Int)) x = some (upd f j x) := by
  unfold stZ
  rw [if_pos (zI_inB h hn), zI_clamp (by omega), hx]
theorem upd_at (f : Nat → Int32) (j i : Nat) (x : Int32) : upd f j x i = if i = j then x else f i := rfl
theorem updL_at (f : Nat → Int64) (j i : Nat) (x : Int64) : vp_updL f j x i = if i = j then x else f i := rfl
theorem zI_1 (j : Nat) : zI (j : Int) + 1 = zI ((j + 1 : Nat) : Int) := by
  rw [show (1 : Int32) = zI 1 from rfl, zI_add]; rfl
theorem i0 : (0 : Int32) = zI 0 := rfl
theorem i1 : (1 : Int32) = zI 1 := rfl
theorem i2 : (2 : Int32) = zI 2 := rfl
theorem i3 : (3 : Int32) = zI 3 := rfl
theorem i4 : (4 : Int32) = zI 4 := rfl
theorem i5 : (5 : Int32) = zI 5 := rfl
theorem i9 : (9 : Int32) = zI 9 := rfl
theorem i15 : (15 : Int32) = zI 15 := rfl
theorem im1 : (-1 : Int32) = zI (-1) := rfl
theorem im2 : (-2 : Int32) = zI (-2) := rfl
theorem l0z : (0 : Int64) = zL 0 := rfl
theorem l1z : (1 : Int64) = zL 1 := rfl
/-- a loop that counts from j0 up to n, with a way out at any step -/
theorem iter_up {σ ρ : Type} {body : σ → Option (σ ⊕ ρ)} (I : Nat → σ → Prop) (X : ρ → Prop) (n : Nat) (step : ∀ i s, i < n → I i s → (∃ s', body s = some (.inl s') ∧ I (i + 1) s') ∨ ∃ r, body s = some (.inr r) ∧ X r) (last : ∀ s, I n s → ∃ r, body s = some (.inr r) ∧ X r) :
    ∀ (j i F : Nat) (s : σ), i + j = n → j < F → I i s → ∃ r, iter body F s = some r ∧ X r := by
  intro j
  induction j with
  | zero =>
    intro i F s hi hF h
    obtain ⟨F, rfl⟩ : ∃ k, F = k + 1 := ⟨F - 1, by omega⟩
    have hin : i = n := by omega
    subst hin
    obtain ⟨r, e, hx⟩ := last s h
    exact ⟨r, by unfold iter; rw [e], hx⟩
  | succ j ih =>
    intro i F s hi hF h
    obtain ⟨F, rfl⟩ : ∃ k, F = k + 1 := ⟨F - 1, by omega⟩
    rcases step i s (by omega) h with ⟨s', e, h'⟩ | ⟨r, e, hx⟩
    · obtain ⟨r, e2, hx⟩ := ih (i + 1) F s' (by omega) (by omega) h'
      exact ⟨r, by unfold iter; rw [e]; exact e2, hx⟩
    · exact ⟨r, by unfold iter; rw [e], hx⟩
theorem iter_for {σ ρ : Type} {body : σ → Option (σ ⊕ ρ)} {F : Nat} {s : σ} (I : Nat → σ → Prop) (X : ρ → Prop) (n : Nat) (hF : n < F) (h0 : I 0 s) (step : ∀ i s, i < n → I i s → ∃ s', body s = some (.inl s') ∧ I (i + 1) s') (last : ∀ s, I n s → ∃ r, body s = some (.inr r) ∧ X r) : ∃ r, iter body F s = some r ∧ X r :=
  iter_up I X n (fun i s hi h => Or.inl (step i s hi h)) last n 0 F s (by omega) hF h0
