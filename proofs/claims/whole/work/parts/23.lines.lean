/-! walk() and fill() of the class's Lines -/
def wz (n : Nat) (w : Nat → Int) (i : Nat) : Int := if i + 1 < n then w i else 0
theorem upL_of {f : Nat → Int64} {g : Nat → Int} {i : Nat} (h : ∀ j, j < i → f j = zL (g j)) : ∀ j, j < i + 1 → vp_updL f i (zL (g i)) j = zL (g j) := by
  intro j hj
  rw [updL_at]
  by_cases q : j = i
  · rw [if_pos q, q]
  · rw [if_neg q]; exact h j (by omega)
set_option maxHeartbeats 4000000 in
theorem walk_spec {n : Nat} (hn : n ≤ 5) {F : Nat} (hF : 10 < F) {k r w : Nat → Int} {A B : Int} (hA : 0 ≤ A ∧ A ≤ 2) (hB : 0 ≤ B ∧ B ≤ 2) (hk : ∀ i, i < n → 0 ≤ k i ∧ k i ≤ 9) (hw : ∀ i, i + 1 < n → 0 ≤ w i ∧ w i ≤ 2)
    {st pit : Nat → Int32} {re bf bl ba sc : Nat → Int64} {un fR fS : Int64} (hst : ∀ i, i < n → st i = zI (k i)) (hre : ∀ i, i < n → re i = zL (r i)) (hpi : ∀ i, i + 1 < n → pit i = zI (w i)) :
    ∃ bf' bl' ba' sc', f_L_walk F st re un bf bl ba sc fR fS pit (zI (n : Int)) (zI A) (zI B) = some (zL (if 0 < cD k r (wz n w) A B n then cD k r (wz n w) A B n else 1), bf', bl', ba', sc', zL ((fw k r (wz n w) A B n).1 - (fw k r (wz n w) A B n).2.2.2.2.2.1), zL (- (fw k r (wz n w) A B n).2.2.2.2.2.2.1)) ∧
      ∀ i, i < n → bf' i = zL (fw k r (wz n w) A B i).2.1 ∧ bl' i = zL (fw k r (wz n w) A B i).2.2.1 ∧ ba' i = zL (fw k r (wz n w) A B i).2.2.2.1 ∧ sc' i = zL (fw k r (wz n w) A B i).1 := by
  have hwz0 : ∀ j, j < n → 0 ≤ wz n w j ∧ wz n w j ≤ 2 := by
    intro j _
    unfold wz
    by_cases q : j + 1 < n
    · rw [if_pos q]; exact hw j q
    · rw [if_neg q]; omega
  have hbd := fw_bd (k := k) (r := r) (w := wz n w) hA hB n hk hwz0
  have hX5 : (xX n).2.2 ≤ 299269 := by
    have : n = 0 ∨ n = 1 ∨ n = 2 ∨ n = 3 ∨ n = 4 ∨ n = 5 := by omega
    rcases this with rfl | rfl | rfl | rfl | rfl | rfl <;> decide
  have loop := iter_for (body := un12 (fb_L_walk_39 (zI A + zI B) st re pit (zI (n : Int)) (zI A))) (F := F) (s := ((1 : Int64), (1 : Int64), (0 : Int64), (0 : Int64), (0 : Int64), (0 : Int64), (0 : Int64), (0 : Int32), bf, bl, ba, sc))
    (fun i s => ∃ bf bl ba sc, s = (zL (fw k r (wz n w) A B i).1, zL (fw k r (wz n w) A B i).2.1, zL (fw k r (wz n w) A B i).2.2.1, zL (fw k r (wz n w) A B i).2.2.2.1, zL (fw k r (wz n w) A B i).2.2.2.2.1, zL (fw k r (wz n w) A B i).2.2.2.2.2.1, zL (fw k r (wz n w) A B i).2.2.2.2.2.2.1, zI (i : Int), bf, bl, ba, sc) ∧
      (∀ j, j < i → bf j = zL (fw k r (wz n w) A B j).2.1) ∧ (∀ j, j < i → bl j = zL (fw k r (wz n w) A B j).2.2.1) ∧ (∀ j, j < i → ba j = zL (fw k r (wz n w) A B j).2.2.2.1) ∧ (∀ j, j < i → sc j = zL (fw k r (wz n w) A B j).1))
    (fun q => ∃ bf bl ba sc, q = (zL (fw k r (wz n w) A B n).1, zL (fw k r (wz n w) A B n).2.2.2.2.1, zL (fw k r (wz n w) A B n).2.2.2.2.2.1, zL (fw k r (wz n w) A B n).2.2.2.2.2.2.1, bf, bl, ba, sc) ∧
      (∀ j, j < n → bf j = zL (fw k r (wz n w) A B j).2.1) ∧ (∀ j, j < n → bl j = zL (fw k r (wz n w) A B j).2.2.1) ∧ (∀ j, j < n → ba j = zL (fw k r (wz n w) A B j).2.2.2.1) ∧ (∀ j, j < n → sc j = zL (fw k r (wz n w) A B j).1))
    n (by omega) ⟨bf, bl, ba, sc, rfl, fun j h => absurd h (by omega), fun j h => absurd h (by omega), fun j h => absurd h (by omega), fun j h => absurd h (by omega)⟩ ?_ ?_
  · obtain ⟨q, e, bf', bl', ba', sc', rfl, h1, h2, h3, h4⟩ := loop
    refine ⟨bf', bl', ba', sc', ?_, fun i hi => ⟨h1 i hi, h2 i hi, h3 i hi, h4 i hi⟩⟩
    unfold f_L_walk
    simp only [nm]
    rw [e]
    simp only [bd8, Option.bind_some]
    have hc : zL (fw k r (wz n w) A B n).2.2.2.2.1 ≤ (0 : Int64) ↔ (fw k r (wz n w) A B n).2.2.2.2.1 ≤ 0 := by
      rw [l0z, zL_le (by omega) (by omega) (by omega) (by omega)]
    by_cases hD : 0 < cD k r (wz n w) A B n
    · have hD' : ¬ (fw k r (wz n w) A B n).2.2.2.2.1 ≤ 0 := by unfold cD at hD; omega
      rw [if_neg (fun q => hD' (hc.mp q)), if_pos hD]
      simp only [fj_L_walk_273, nm, zL_sub, zL_neg]
      rfl
    · have hD' : (fw k r (wz n w) A B n).2.2.2.2.1 ≤ 0 := by unfold cD at hD; omega
      rw [if_pos (hc.mpr hD'), if_neg hD]
      simp only [fj_L_walk_273, nm, zL_sub, zL_neg]
      rfl
  · rintro i s hi ⟨bf, bl, ba, sc, rfl, h1, h2, h3, h4⟩
    have hin : ¬ zI (n : Int) ≤ zI (i : Int) := by rw [zI_le (by omega) (by omega) (by omega) (by omega)]; omega
    have hlast : zI (n : Int) ≤ zI ((i + 1 : Nat) : Int) ↔ ¬ i + 1 < n := by rw [zI_le (by omega) (by omega) (by omega) (by omega)]; omega
    have hki := hk i hi
    have hk0 : zI (k i) ≤ (0 : Int32) ↔ ¬ 0 < k i := by rw [i0, zI_le (by omega) (by omega) (by omega) (by omega)]; omega
    have hkl : (zI (k i)).toInt64 = zL (k i) := zI_l (by omega) (by omega)
    have hwz : 0 ≤ wz n w i ∧ wz n w i ≤ 2 := by
      unfold wz
      by_cases q : i + 1 < n
      · rw [if_pos q]; exact hw i q
      · rw [if_neg q]; omega
    have hW := mul_bd hwz.1 (show 0 ≤ A + B by omega) hwz.2 (show A + B ≤ 4 by omega)
    have hW2 := mul_bd hwz.1 hA.1 hwz.2 hA.2
    have hWl : (zI (wz n w i * (A + B))).toInt64 = zL (wz n w i * (A + B)) := zI_l (by omega) (by omega)
    have hWl2 : (zI (wz n w i * A)).toInt64 = zL (wz n w i * A) := zI_l (by omega) (by omega)
    have gap : ∀ (l1 l3 l5 l7 l9 l11 l13 : Int64) (bf bl ba sc : Nat → Int64), fj_L_walk_169 l1 l3 l5 l7 l9 l11 l13 (zI A + zI B) (zI (i : Int)) bf bl ba sc pit (zI (n : Int)) (zI A) =
        some (.inl (l1, l3 + zL (wz n w i * (A + B)) * l9, l5 + (zL (wz n w i * (A + B)) * l11 - zL (wz n w i * A) * l1), l7 + zL (wz n w i * (A + B)) * l13, l9, l11, l13, zI ((i + 1 : Nat) : Int), bf, bl, ba, sc)) := by
      intro l1 l3 l5 l7 l9 l11 l13 bf bl ba sc
      unfold fj_L_walk_169
      rw [zI_1]
      by_cases q : i + 1 < n
      · have ew : wz n w i = w i := if_pos q
        rw [if_neg (fun h => hlast.mp h q), ldA_z (by omega) (by omega), Option.bind_some, hpi i q]
        simp only [fj_L_walk_197, nm, zI_add, zI_mul, zI_1]
        rw [← ew, hWl, hWl2]
      · have ew : wz n w i = 0 := if_neg q
        rw [if_pos (hlast.mpr q)]
        simp only [fj_L_walk_197, nm, zI_add, zI_mul, zI_1, i0]
        rw [← ew, hWl, hWl2]
    simp only [un12, fb_L_walk_39]
    rw [if_neg hin]
    simp only [stL_z (show i < 5 by omega) (show 5 ≤ 100000 by omega), ldA_z (show i < 5 by omega) (show 5 ≤ 100000 by omega), Option.bind_some, hst i hi, hre i hi, nm, gap, hkl]
    by_cases hp : 0 < k i
    · rw [if_neg (fun q => hk0.mp q hp)]
      refine ⟨_, rfl, _, _, _, _, ?_, upL_of h1, upL_of h2, upL_of h3, upL_of h4⟩
      simp only [zL_mul, zL_add, zL_sub, fw, stp, if_pos hp]
    · rw [if_pos (hk0.mpr hp)]
      refine ⟨_, rfl, _, _, _, _, ?_, upL_of h1, upL_of h2, upL_of h3, upL_of h4⟩
      simp only [zL_mul, zL_add, zL_sub, fw, stp, if_neg hp]
  · rintro s ⟨bf, bl, ba, sc, rfl, h1, h2, h3, h4⟩
    refine ⟨_, ?_, bf, bl, ba, sc, rfl, h1, h2, h3, h4⟩
    simp only [un12, fb_L_walk_39]
    rw [if_pos (Int32.le_refl _)]
