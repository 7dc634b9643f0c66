/-- Cramer's rows, spelled out -/
theorem cr_rows {b : Nat} (h1 : 1 ≤ b) (h5 : b ≤ 5) (T g v : Nat → Int) : (∀ r, r + 1 < b → T r * sm (dN b T g v) (r + 1) + g r * dN b T g v r - g (r + 1) * dN b T g v (r + 1) = v r * dD b T g) ∧ sm (dN b T g v) b = v (b - 1) * dD b T g := by
  have hb : b = 1 ∨ b = 2 ∨ b = 3 ∨ b = 4 ∨ b = 5 := by omega
  rcases hb with rfl | rfl | rfl | rfl | rfl
  · have := cr_1 T g v
    simp [cram, sm, Hm] at this
    refine ⟨fun r hr => absurd hr (by omega), ?_⟩
    simp [sm]
    exact this
  · obtain ⟨a0, a1⟩ := cr_2 T g v
    simp [cram, sm, Hm] at a0 a1
    refine ⟨fun r hr => ?_, ?_⟩
    · have : r = 0 := by omega
      subst this
      rw [← a0]; simp [sm]; grind
    · rw [← a1]; simp [sm]
  · obtain ⟨a0, a1, a2⟩ := cr_3 T g v
    simp [cram, sm, Hm] at a0 a1 a2
    refine ⟨fun r hr => ?_, ?_⟩
    · have : r = 0 ∨ r = 1 := by omega
      rcases this with rfl | rfl
      · rw [← a0]; simp [sm]; grind
      · rw [← a1]; simp [sm]; grind
    · rw [← a2]; simp [sm]
  · obtain ⟨a0, a1, a2, a3⟩ := cr_4 T g v
    simp [cram, sm, Hm] at a0 a1 a2 a3
    refine ⟨fun r hr => ?_, ?_⟩
    · have : r = 0 ∨ r = 1 ∨ r = 2 := by omega
      rcases this with rfl | rfl | rfl
      · rw [← a0]; simp [sm]; grind
      · rw [← a1]; simp [sm]; grind
      · rw [← a2]; simp [sm]; grind
    · rw [← a3]; simp [sm]
  · obtain ⟨a0, a1, a2, a3, a4⟩ := cr_5 T g v
    simp [cram, sm, Hm] at a0 a1 a2 a3 a4
    refine ⟨fun r hr => ?_, ?_⟩
    · have : r = 0 ∨ r = 1 ∨ r = 2 ∨ r = 3 := by omega
      rcases this with rfl | rfl | rfl | rfl
      · rw [← a0]; simp [sm]; grind
      · rw [← a1]; simp [sm]; grind
      · rw [← a2]; simp [sm]; grind
      · rw [← a3]; simp [sm]; grind
    · rw [← a4]; simp [sm]
theorem dD_eq {b : Nat} (h1 : 1 ≤ b) (h5 : b ≤ 5) (T g : Nat → Int) : dD b T g = (eB T g (b - 1)).2 := by
  have hb : b = 1 ∨ b = 2 ∨ b = 3 ∨ b = 4 ∨ b = 5 := by omega
  rcases hb with rfl | rfl | rfl | rfl | rfl
  · exact dD_1 T g
  · exact dD_2 T g
  · exact dD_3 T g
  · exact dD_4 T g
  · exact dD_5 T g
def ebX (t : Int) : Nat → Int × Int
  | 0 => (1, 1)
  | r + 1 => (9 * (ebX t r).1 + t * (ebX t r).2, 9 * (ebX t r).2 + (9 * (ebX t r).1 + t * (ebX t r).2))
theorem eB_bd {T g : Nat → Int} {t : Int} : ∀ r, (∀ j, j < r → 0 ≤ T j ∧ T j ≤ t) → (∀ j, j ≤ r → 1 ≤ g j ∧ g j ≤ 9) → 1 ≤ (eB T g r).1 ∧ (eB T g r).1 ≤ (ebX t r).1 ∧ 1 ≤ (eB T g r).2 ∧ (eB T g r).2 ≤ (ebX t r).2
  | 0, _, _ => by simp [eB, ebX]
  | r + 1, hT, hg => by
    obtain ⟨i1, i2, i3, i4⟩ := eB_bd r (fun j hj => hT j (by omega)) (fun j hj => hg j (by omega))
    have g1 := hg r (by omega)
    have g2 := hg (r + 1) (by omega)
    have t1 := hT r (by omega)
    have a1 := mul_bd (show 0 ≤ g r by omega) (show 0 ≤ (eB T g r).1 by omega) g1.2 i2
    have a2 := mul_bd t1.1 (show 0 ≤ (eB T g r).2 by omega) t1.2 i4
    have a3 := mul_bd (show 0 ≤ g (r + 1) by omega) (show 0 ≤ (eB T g r).2 by omega) g2.2 i4
    have b1 : 1 ≤ g r * (eB T g r).1 := Int.mul_pos (by omega) (by omega)
    have b3 : 1 ≤ g (r + 1) * (eB T g r).2 := Int.mul_pos (by omega) (by omega)
    simp only [eB, ebX]
    omega
theorem dD_bd {b : Nat} (h1 : 1 ≤ b) (h5 : b ≤ 5) {T g : Nat → Int} (hT : ∀ r, r + 1 < b → 0 ≤ T r ∧ T r ≤ 8 * (6 - (b : Int))) (hg : ∀ r, r < b → 1 ≤ g r ∧ g r ≤ 9) : 0 < dD b T g ∧ dD b T g ≤ 299269 := by
  rw [dD_eq h1 h5]
  have h := eB_bd (T := T) (g := g) (t := 8 * (6 - (b : Int))) (b - 1) (fun j hj => hT j (by omega)) (fun j hj => hg j (by omega))
  have hb : b = 1 ∨ b = 2 ∨ b = 3 ∨ b = 4 ∨ b = 5 := by omega
  have hX : (ebX (8 * (6 - (b : Int))) (b - 1)).2 ≤ 299269 := by
    rcases hb with rfl | rfl | rfl | rfl | rfl <;> decide
  omega
/-! places among those that bear -/
theorem bl_pre (k : Nat → Int) (x : Nat) : ∀ d, ∃ t, bl k (x + d) = bl k x ++ t ∧ ∀ y ∈ t, x ≤ y
  | 0 => ⟨[], by simp, by simp⟩
  | d + 1 => by
    obtain ⟨t, e, h⟩ := bl_pre k x d
    have e0 : bl k (x + (d + 1)) = if 0 < k (x + d) then bl k (x + d) ++ [x + d] else bl k (x + d) := rfl
    rw [e0]
    by_cases hp : 0 < k (x + d)
    · rw [if_pos hp]
      refine ⟨t ++ [x + d], by rw [e, List.append_assoc], fun y hy => ?_⟩
      rcases List.mem_append.mp hy with q | q
      · exact h y q
      · rw [List.mem_singleton] at q; omega
    · rw [if_neg hp]; exact ⟨t, e, h⟩
theorem bl_mono (k : Nat → Int) {x n : Nat} (h : x ≤ n) : (bl k x).length ≤ (bl k n).length := by
  obtain ⟨d, rfl⟩ : ∃ d, n = x + d := ⟨n - x, by omega⟩
  obtain ⟨t, e, -⟩ := bl_pre k x d
  rw [e, List.length_append]; omega
theorem be_below {k : Nat → Int} {x n j : Nat} (h : x ≤ n) (hj : j < (bl k n).length) : be k n j < x ↔ j < (bl k x).length := by
  obtain ⟨d, rfl⟩ : ∃ d, n = x + d := ⟨n - x, by omega⟩
  obtain ⟨t, e, ht⟩ := bl_pre k x d
  unfold be
  rw [getD_lt hj]
  constructor
  · intro q
    refine Nat.not_le.mp fun hle => ?_
    have h1 : (bl k (x + d))[j] = t[j - (bl k x).length]'(by rw [e, List.length_append] at hj; omega) := by
      simp only [e]
      rw [List.getElem_append_right hle]
    have := ht _ (List.getElem_mem (l := t) (n := j - (bl k x).length) (by rw [e, List.length_append] at hj; omega))
    omega
  · intro q
    have h1 : (bl k (x + d))[j] = (bl k x)[j] := by
      simp only [e]
      rw [List.getElem_append_left q]
    rw [h1]
    exact ((bl_mem k x _).mp (List.getElem_mem q)).1
theorem bl_at {k : Nat → Int} {n j : Nat} (hj : j < (bl k n).length) : (bl k (be k n j)).length = j := by
  have hm := be_mem hj
  have h1 : ¬ j < (bl k (be k n j)).length := fun q => by
    have := (be_below (k := k) (x := be k n j) (n := n) (j := j) (by omega) hj).mpr q
    omega
  have h2 := bl_mono k (x := be k n j) (n := n) (by omega)
  refine Nat.le_antisymm (by omega) (Nat.not_lt.mp fun q => ?_)
  have a := be_lt (k := k) (n := n) (i := (bl k (be k n j)).length) (j := j) hj q
  have b := (be_below (k := k) (x := be k n j) (n := n) (j := (bl k (be k n j)).length) (by omega) (by omega)).mp a
  omega
theorem bl_succ {k : Nat → Int} {i : Nat} : (bl k (i + 1)).length = (bl k i).length + (if 0 < k i then 1 else 0) := by
  show (if 0 < k i then bl k i ++ [i] else bl k i).length = _
  by_cases h : 0 < k i
  · rw [if_pos h, if_pos h, List.length_append]; rfl
  · rw [if_neg h, if_neg h]; rfl
/-- forces by bolts, out of forces by those that bear -/
def spr (k : Nat → Int) (N : Nat → Int) (i : Nat) : Int := if 0 < k i then N (bl k i).length else 0
theorem sm_spr (k N : Nat → Int) : ∀ i, sm (spr k N) i = sm N (bl k i).length
  | 0 => rfl
  | i + 1 => by
    rw [sm_s, sm_spr k N i, bl_succ]
    unfold spr
    by_cases h : 0 < k i
    · rw [if_pos h, if_pos h, sm_s]
    · rw [if_neg h, if_neg h, Int.add_zero]; rfl
theorem spr_at {k N : Nat → Int} {n j : Nat} (hj : j < (bl k n).length) : spr k N (be k n j) = N j := by
  unfold spr
  rw [if_pos (be_mem hj).2, bl_at hj]
/-- slips from bolt to bolt: what bears agrees with its force, given the rows of those that bear -/
theorem chain {n : Nat} {k w d N v : Nat → Int} {A B D rD : Int} {c : Nat → Int} (hb : 0 < (bl k n).length)
    (h0 : d (be k n 0) = k (be k n 0) * N 0 + c (be k n 0) * rD) (hd : ∀ i, i + 1 < n → d (i + 1) = d i + w i * ((A + B) * sm (spr k N) (i + 1) - A * D))
    (hr : ∀ r, r + 1 < (bl k n).length → (A + B) * (sm w (be k n (r + 1)) - sm w (be k n r)) * sm N (r + 1) + k (be k n r) * N r - k (be k n (r + 1)) * N (r + 1) = A * (sm w (be k n (r + 1)) - sm w (be k n r)) * D + (c (be k n (r + 1)) - c (be k n r)) * rD) :
    ∀ j, j < (bl k n).length → d (be k n j) = k (be k n j) * N j + c (be k n j) * rD := by
  intro j
  induction j with
  | zero => intro _; exact h0
  | succ r ih =>
    intro hj
    have ih := ih (by omega)
    have m2 := be_mem hj
    have hlt := be_lt (k := k) (n := n) (i := r) (j := r + 1) hj (by omega)
    have tel : ∀ x, be k n r + x ≤ be k n (r + 1) → d (be k n r + x) = d (be k n r) + (sm w (be k n r + x) - sm w (be k n r)) * ((A + B) * sm N (r + 1) - A * D) := by
      intro x
      induction x with
      | zero => intro _; simp
      | succ x ihx =>
        intro hx
        have e1 := ihx (by omega)
        have e2 := hd (be k n r + x) (by omega)
        have e3 : sm (spr k N) (be k n r + x + 1) = sm N (r + 1) := by
          rw [sm_spr]
          have a1 : r < (bl k (be k n r + x + 1)).length := (be_below (k := k) (n := n) (j := r) (by omega) (by omega)).mp (by omega)
          have a2 : ¬ r + 1 < (bl k (be k n r + x + 1)).length := fun q => by
            have := (be_below (k := k) (n := n) (x := be k n r + x + 1) (j := r + 1) (by omega) hj).mpr q
            omega
          rw [show (bl k (be k n r + x + 1)).length = r + 1 by omega]
        rw [e3] at e2
        have e4 : sm w (be k n r + (x + 1)) = sm w (be k n r + x) + w (be k n r + x) := rfl
        show d (be k n r + x + 1) = _
        rw [e2, e1, e4]
        grind
    obtain ⟨x, hx⟩ : ∃ x, be k n (r + 1) = be k n r + x := ⟨be k n (r + 1) - be k n r, by omega⟩
    have e5 := tel x (by omega)
    rw [← hx] at e5
    have e6 := hr r hj
    rw [e5, ih]
    grind
