/-! REDUCED LOADS -/
def red (o u : Int) : Int × Int := (o / (Int.gcd o u : Int), u / (Int.gcd o u : Int))
theorem red_ok {o u : Int} (hu : 0 < u) : ∃ t : Int, 0 < t ∧ t = (Int.gcd o u : Int) ∧ o = t * (red o u).1 ∧ u = t * (red o u).2 ∧ 0 < (red o u).2 ∧ (red o u).2 ≤ u ∧ Int.gcd (red o u).1 (red o u).2 = 1 ∧ (red o u).1 * u = o * (red o u).2 ∧ (0 ≤ o → 0 ≤ (red o u).1 ∧ (red o u).1 ≤ o) := by
  have hg : 0 < (Int.gcd o u : Int) := by
    have : 0 < Int.gcd o u := Nat.gcd_pos_of_pos_right _ (by omega)
    omega
  have e1 : o = (Int.gcd o u : Int) * (red o u).1 := (Int.mul_ediv_cancel' (Int.gcd_dvd_left ..)).symm
  have e2 : u = (Int.gcd o u : Int) * (red o u).2 := (Int.mul_ediv_cancel' (Int.gcd_dvd_right ..)).symm
  generalize hP : (red o u).1 = P at *
  generalize hQ : (red o u).2 = Q at *
  have hG : Int.gcd o u = Int.gcd o u * Int.gcd P Q := by
    have h := Int.gcd_mul_left (Int.gcd o u : Int) P Q
    rw [← e1, ← e2] at h
    exact h
  generalize ht : Int.gcd o u = t at *
  have hc : Int.gcd P Q = 1 := by
    have : t * Int.gcd P Q = t * 1 := by omega
    exact Nat.eq_of_mul_eq_mul_left (by omega) this
  have hQp : 0 < Q := by
    refine Int.not_le.mp fun h => ?_
    have := Int.mul_le_mul_of_nonneg_left h (show 0 ≤ (t : Int) by omega)
    omega
  refine ⟨t, hg, rfl, e1, e2, hQp, ?_, hc, ?_, fun ho => ?_⟩
  · have := Int.mul_le_mul_of_nonneg_right (show 1 ≤ (t : Int) by omega) (show 0 ≤ Q by omega)
    omega
  · have : P * ((t : Int) * Q) = (t : Int) * P * Q := by ac_rfl
    rw [← e1, ← e2] at this
    exact this
  · have hPn : 0 ≤ P := by
      refine Int.not_lt.mp fun h => ?_
      have := Int.mul_neg_of_pos_of_neg hg h
      omega
    have := Int.mul_le_mul_of_nonneg_right (show 1 ≤ (t : Int) by omega) hPn
    omega
theorem cop_eq {P Q P' Q' : Int} (hQ : 0 < Q) (hQ' : 0 < Q') (h : Int.gcd P Q = 1) (h' : Int.gcd P' Q' = 1) (e : P * Q' = P' * Q) : P = P' ∧ Q = Q' := by
  have e2 : P.natAbs * Q'.natAbs = P'.natAbs * Q.natAbs := by rw [← Int.natAbs_mul, ← Int.natAbs_mul, e]
  have c1 : Nat.Coprime Q.natAbs P.natAbs := by rw [Nat.coprime_comm]; exact h
  have c2 : Nat.Coprime Q'.natAbs P'.natAbs := by rw [Nat.coprime_comm]; exact h'
  have d1 : Q.natAbs ∣ Q'.natAbs := c1.dvd_of_dvd_mul_left ⟨P'.natAbs, by rw [e2, Nat.mul_comm]⟩
  have d2 : Q'.natAbs ∣ Q.natAbs := c2.dvd_of_dvd_mul_left ⟨P.natAbs, by rw [← e2, Nat.mul_comm]⟩
  have q := Nat.dvd_antisymm d1 d2
  have hq : Q = Q' := by omega
  subst hq
  exact ⟨Int.eq_of_mul_eq_mul_right (by omega) e, rfl⟩
theorem red_eq {o u o' u' : Int} (hu : 0 < u) (hu' : 0 < u') (h : o * u' = o' * u) : red o u = red o' u' := by
  obtain ⟨t, t1, -, t2, t3, t4, -, t5, -, -⟩ := red_ok (o := o) hu
  obtain ⟨s, s1, -, s2, s3, s4, -, s5, -, -⟩ := red_ok (o := o') hu'
  have := cop_eq t4 s4 t5 s5 (by
    generalize (red o u).1 = P at *
    generalize (red o u).2 = Q at *
    generalize (red o' u').1 = P' at *
    generalize (red o' u').2 = Q' at *
    have k : t * s * (P * Q') = t * s * (P' * Q) := by
      have a : t * s * (P * Q') = t * P * (s * Q') := by ac_rfl
      have b : t * s * (P' * Q) = s * P' * (t * Q) := by ac_rfl
      rw [a, b, ← t2, ← s3, ← s2, ← t3, h]
    exact Int.eq_of_mul_eq_mul_left (by have := Int.mul_pos t1 s1; omega) k)
  exact Prod.ext this.1 this.2
theorem red_one {o u : Int} (hu : 0 < u) (h : Int.gcd o u = 1) : red o u = (o, u) := by
  unfold red; rw [h]; simp
theorem setLoad_z {o u : Int} {F : Nat} (hF : 100 < F) (h1 : -9223372036854775808 < o) (h2 : o < 9223372036854775808) (hu : 0 < u) (hu2 : u < 9223372036854775808) (lo lu : Int64) : f_M_setLoad F (zL o) (zL u) lo lu = some (zL (red o u).1, zL (red o u).2) := by
  obtain ⟨t, t1, t0, t2, t3, t4, t5, -, -, -⟩ := red_ok (o := o) hu
  have ht : t ≤ u := by
    have := Int.mul_le_mul_of_nonneg_left (show 1 ≤ (red o u).2 by omega) (show 0 ≤ t by omega)
    omega
  have main : fj_M_setLoad_15 (zL o) (zL u) (zL t) = some (zL (red o u).1, zL (red o u).2) := by
    have d1 : dvL (zL o) (zL t) = some (zL (red o u).1) := by
      have := dvL_ex (b := t) (q := (red o u).1) t1 (by omega) (by omega) (by omega)
      rwa [← t2] at this
    have d2 : dvL (zL u) (zL t) = some (zL (red o u).2) := by
      have := dvL_ex (b := t) (q := (red o u).2) t1 (by omega) (by omega) (by omega)
      rwa [← t3] at this
    unfold fj_M_setLoad_15
    rw [d1, Option.bind_some, d2, Option.bind_some]
  unfold f_M_setLoad
  by_cases q : o = 0
  · rw [if_pos (by rw [q]; rfl)]
    have : t = u := by rw [t0, q, Int.gcd_zero_left]; omega
    rw [this] at main
    exact main
  · rw [if_neg (by rw [l0z, zL_eq (by omega) (by omega) (by omega) (by omega)]; exact q), common_z hF h1 h2 hu hu2, Option.bind_some, ← t0]
    exact main
theorem reach_z {o u : Int} {F : Nat} (hF : 100 < F) (h1 : -9223372036854775808 < o) (h2 : o < 9223372036854775808) (hu : 0 < u) (hu2 : u < 9223372036854775808) (lo lu : Int64) : f_G_reach F (zL o) (zL u) lo lu = some (zL (red o u).1, zL (red o u).2) := by
  obtain ⟨t, t1, t0, t2, t3, t4, t5, -, -, -⟩ := red_ok (o := o) hu
  have ht : t ≤ u := by
    have := Int.mul_le_mul_of_nonneg_left (show 1 ≤ (red o u).2 by omega) (show 0 ≤ t by omega)
    omega
  have d1 : dvL (zL o) (zL t) = some (zL (red o u).1) := by
    have := dvL_ex (b := t) (q := (red o u).1) t1 (by omega) (by omega) (by omega)
    rwa [← t2] at this
  have d2 : dvL (zL u) (zL t) = some (zL (red o u).2) := by
    have := dvL_ex (b := t) (q := (red o u).2) t1 (by omega) (by omega) (by omega)
    rwa [← t3] at this
  unfold f_G_reach
  rw [divisor_z hF h1 h2 (by omega) hu2, Option.bind_some, ← t0, if_neg (by rw [l0z, zL_le (by omega) (by omega) (by omega) (by omega)]; omega), d1, Option.bind_some, d2, Option.bind_some]
