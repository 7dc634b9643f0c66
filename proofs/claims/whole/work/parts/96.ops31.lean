/-! WHO SHEDS: what is told in the least common parts -/
section OPS31
variable {n : Nat} {nv : Nat → Nat → Int} {A B : Int} {F : Nat} {g c y s u pit o now : Nat → Int32} {m : Nat}
theorem lcm_step {U a c G mu : Nat} (hU : 0 < U) (h : U = a * c) (hm : U = Nat.gcd U G * mu) : a / Nat.gcd a mu * mu * Nat.gcd c G = U := by
  have hc : 0 < c := Nat.pos_of_ne_zero fun z => by rw [z, Nat.mul_zero] at h; omega
  have hcU : c ∣ U := ⟨a, by rw [h, Nat.mul_comm]⟩
  have hmu : 0 < mu := Nat.pos_of_ne_zero fun z => by rw [z, Nat.mul_zero] at hm; omega
  have e1 : Nat.gcd c (Nat.gcd U G) = Nat.gcd c G := by rw [← Nat.gcd_assoc, Nat.gcd_eq_left hcU]
  have hh : 0 < Nat.gcd c G := Nat.gcd_pos_of_pos_left _ hc
  obtain ⟨x, hx⟩ := Nat.gcd_dvd_left c G
  obtain ⟨y, hy⟩ : Nat.gcd c G ∣ Nat.gcd U G := by rw [← e1]; exact Nat.gcd_dvd_right _ _
  generalize Nat.gcd U G = gg at *
  have hcop : Nat.gcd x y = 1 := by
    have e2 : Nat.gcd c gg = Nat.gcd c G * Nat.gcd x y := by
      conv => lhs; rw [hx, hy]
      exact Nat.gcd_mul_left _ _ _
    rw [e1] at e2
    exact Nat.eq_of_mul_eq_mul_left hh (by rw [← e2, Nat.mul_one])
  generalize Nat.gcd c G = hg at *
  have hx0 : 0 < x := Nat.pos_of_ne_zero fun z => by rw [z, Nat.mul_zero] at hx; omega
  have e3 : a * x = mu * y := by
    refine Nat.eq_of_mul_eq_mul_left hh ?_
    have f1 : hg * (a * x) = U := by rw [h, hx]; ac_rfl
    have f2 : hg * (mu * y) = U := by rw [hm, hy]; ac_rfl
    rw [f1, f2]
  obtain ⟨t, ht⟩ : x ∣ mu := Nat.Coprime.dvd_of_dvd_mul_right hcop ⟨a, by rw [← e3, Nat.mul_comm]⟩
  have ha : a = t * y := by
    refine Nat.eq_of_mul_eq_mul_left hx0 ?_
    rw [Nat.mul_comm x a, e3, ht]; ac_rfl
  have ht0 : 0 < t := Nat.pos_of_ne_zero fun z => by rw [z, Nat.mul_zero] at ht; omega
  have hg2 : Nat.gcd a mu = t := by
    rw [ha, ht, Nat.mul_comm x t, Nat.gcd_mul_left, Nat.gcd_comm, hcop, Nat.mul_one]
  rw [hg2, ha, Nat.mul_div_cancel_left y ht0, h, ha, hx, ht]
  ac_rfl
/-- the common part of a unit and the first gains -/
def cg (U : Nat) (G : Nat → Int) : Nat → Nat
  | 0 => U
  | k + 1 => Int.gcd (cg U G k : Int) (G k)
def muN (U : Nat) (G : Nat → Int) (k : Nat) : Nat := (red (G k) (U : Int)).2.toNat
/-- the least unit of the first gains, one by one -/
def al (U : Nat) (G : Nat → Int) : Nat → Nat
  | 0 => 1
  | k + 1 => al U G k / Nat.gcd (al U G k) (muN U G k) * muN U G k
theorem muN_ok {U : Nat} (hU : 0 < U) (G : Nat → Int) (k : Nat) : (red (G k) (U : Int)).2 = (muN U G k : Int) ∧ 0 < muN U G k ∧ muN U G k ≤ U ∧ U = Nat.gcd U (G k).natAbs * muN U G k ∧ G k = (Nat.gcd U (G k).natAbs : Int) * (red (G k) (U : Int)).1 := by
  obtain ⟨t, t1, t0, t2, t3, t4, t5, -, -, -⟩ := red_ok (o := G k) (u := (U : Int)) (by omega)
  have e : (red (G k) (U : Int)).2 = (muN U G k : Int) := by unfold muN; omega
  have eg : t = ((Nat.gcd U (G k).natAbs : Nat) : Int) := by rw [t0, Nat.gcd_comm]; rfl
  rw [e] at t3 t4 t5
  rw [eg] at t2 t3
  refine ⟨e, by omega, by omega, ?_, t2⟩
  exact_mod_cast t3
theorem al_cg {U : Nat} (hU : 0 < U) (G : Nat → Int) : ∀ k, al U G k * cg U G k = U := by
  intro k
  induction k with
  | zero => show 1 * U = U; omega
  | succ k ih =>
    show al U G k / Nat.gcd (al U G k) (muN U G k) * muN U G k * Int.gcd (cg U G k : Int) (G k) = U
    exact lcm_step hU ih.symm (muN_ok hU G k).2.2.2.1
theorem al_ok {U : Nat} (hU : 0 < U) (G : Nat → Int) (k : Nat) : 0 < al U G k ∧ al U G k ≤ U ∧ 0 < cg U G k ∧ cg U G k ≤ U := by
  have h := al_cg hU G k
  have a0 : 0 < al U G k := Nat.pos_of_ne_zero fun z => by rw [z, Nat.zero_mul] at h; omega
  have c0 : 0 < cg U G k := Nat.pos_of_ne_zero fun z => by rw [z, Nat.mul_zero] at h; omega
  refine ⟨a0, ?_, c0, ?_⟩
  · have := Nat.mul_le_mul_left (al U G k) c0
    omega
  · have := Nat.mul_le_mul_right (cg U G k) a0
    omega
theorem cg_dvd (U : Nat) (G : Nat → Int) : ∀ j k, cg U G (k + j) ∣ cg U G k := by
  intro j
  induction j with
  | zero => intro k; exact Nat.dvd_refl _
  | succ j ih =>
    intro k
    refine Nat.dvd_trans ?_ (ih k)
    show Int.gcd (cg U G (k + j) : Int) (G (k + j)) ∣ cg U G (k + j)
    exact Nat.gcd_dvd_left _ _
/-- a gain in common parts -/
theorem cg_val {U : Nat} (hU : 0 < U) (G : Nat → Int) {k n : Nat} (hk : k < n) : ∃ w : Nat, 0 < w ∧ G k = (cg U G n : Int) * ((w : Int) * (red (G k) (U : Int)).1) ∧ al U G n = muN U G k * w := by
  obtain ⟨m1, m2, m3, m4, m5⟩ := muN_ok hU G k
  have h1 : cg U G n ∣ U := by have := cg_dvd U G n 0; rwa [Nat.zero_add] at this
  have h2 : cg U G n ∣ (G k).natAbs := by
    have a := cg_dvd U G (n - (k + 1)) (k + 1)
    rw [show k + 1 + (n - (k + 1)) = n by omega] at a
    exact Nat.dvd_trans a (Nat.gcd_dvd_right _ _)
  obtain ⟨w, hw⟩ := Nat.dvd_gcd h1 h2
  have h3 := al_cg hU G n
  have c0 := (al_ok hU G n).2.2.1
  generalize Nat.gcd U (G k).natAbs = t at *
  have w0 : 0 < w := Nat.pos_of_ne_zero fun z => by rw [z, Nat.mul_zero] at hw; rw [hw, Nat.zero_mul] at m4; omega
  refine ⟨w, w0, ?_, ?_⟩
  · conv => lhs; rw [m5, hw]
    rw [Int.natCast_mul, Int.mul_assoc]
  · refine Nat.eq_of_mul_eq_mul_left c0 ?_
    have e1 : cg U G n * al U G n = U := by rw [Nat.mul_comm]; exact h3
    rw [hw] at m4
    exact (e1.trans m4).trans (by ac_rfl)
/-- the first of the greatest gains among those that are left -/
def bst9 (m : Nat) (G : Nat → Int) : Nat → Int
  | 0 => -1
  | k + 1 => if m.testBit k = true then (if bst9 m G k = -1 then (k : Int) else if G (bst9 m G k).toNat < G k then (k : Int) else bst9 m G k) else bst9 m G k
def bpos (G : Nat → Int) : Nat → Int
  | 0 => -1
  | k + 1 => if 0 < G k then (if bpos G k = -1 then (k : Int) else if G (bpos G k).toNat < G k then (k : Int) else bpos G k) else bpos G k
theorem bst9_cs (m : Nat) (G : Nat → Int) : ∀ k, (bst9 m G k = -1 ∧ ∀ i, i < k → ¬ m.testBit i = true) ∨ ∃ j : Nat, j < k ∧ bst9 m G k = (j : Int) ∧ m.testBit j = true ∧ ∀ i, i < k → m.testBit i = true → G i ≤ G j := by
  intro k
  induction k with
  | zero => exact Or.inl ⟨rfl, fun i hi => absurd hi (Nat.not_lt_zero i)⟩
  | succ k ih =>
    simp only [bst9]
    by_cases q : m.testBit k = true
    · rw [if_pos q]
      right
      rcases ih with ⟨e, h⟩ | ⟨j, j1, j2, j3, j4⟩
      · rw [if_pos e]
        refine ⟨k, by omega, rfl, q, fun i hi w => ?_⟩
        by_cases x : i = k
        · rw [x]; exact Int.le_refl _
        · exact absurd w (h i (by omega))
      · have ne : ¬ (j : Int) = -1 := by omega
        rw [j2, if_neg ne, Int.toNat_natCast]
        by_cases w : G j < G k
        · rw [if_pos w]
          refine ⟨k, by omega, rfl, q, fun i hi v => ?_⟩
          by_cases x : i = k
          · rw [x]; exact Int.le_refl _
          · have := j4 i (by omega) v; omega
        · rw [if_neg w]
          refine ⟨j, by omega, rfl, j3, fun i hi v => ?_⟩
          by_cases x : i = k
          · rw [x]; omega
          · exact j4 i (by omega) v
    · rw [if_neg q]
      rcases ih with ⟨e, h⟩ | ⟨j, j1, j2, j3, j4⟩
      · refine Or.inl ⟨e, fun i hi w => ?_⟩
        by_cases x : i = k
        · rw [x] at w; exact q w
        · exact h i (by omega) w
      · refine Or.inr ⟨j, by omega, j2, j3, fun i hi w => ?_⟩
        by_cases x : i = k
        · rw [x] at w; exact absurd w q
        · exact j4 i (by omega) w
theorem bpos_eq {m : Nat} {G : Nat → Int} : ∀ k, (∀ i, i < k → ¬ m.testBit i = true → G i = 0) → (bst9 m G k = -1 ∧ bpos G k = -1) ∨ ∃ j : Nat, bst9 m G k = (j : Int) ∧ bpos G k = if 0 < G j then (j : Int) else -1 := by
  intro k
  induction k with
  | zero => intro _; exact Or.inl ⟨rfl, rfl⟩
  | succ k ih =>
    intro h
    simp only [bst9, bpos]
    by_cases q : m.testBit k = true
    · rw [if_pos q]
      right
      rcases ih (fun i hi => h i (by omega)) with ⟨e1, e2⟩ | ⟨j, e1, e2⟩
      · rw [if_pos e1, e2, if_pos rfl]
        exact ⟨k, rfl, rfl⟩
      · have ne : ¬ (j : Int) = -1 := by omega
        rw [e1, if_neg ne, Int.toNat_natCast, e2]
        by_cases p : 0 < G j
        · rw [if_pos p, if_neg ne, Int.toNat_natCast]
          by_cases w : G j < G k
          · rw [if_pos w, if_pos (show 0 < G k by omega)]
            exact ⟨k, rfl, by rw [if_pos (show 0 < G k by omega)]⟩
          · rw [if_neg w]
            refine ⟨j, rfl, ?_⟩
            rw [if_pos p]
            by_cases z : 0 < G k
            · rw [if_pos z]
            · rw [if_neg z]
        · rw [if_neg p, if_pos rfl]
          by_cases w : G j < G k
          · rw [if_pos w]
            exact ⟨k, rfl, rfl⟩
          · rw [if_neg w]
            refine ⟨j, rfl, ?_⟩
            rw [if_neg p, if_neg (show ¬ 0 < G k by omega)]
    · have h0 := h k (by omega) q
      rw [if_neg q, if_neg (show ¬ 0 < G k by omega)]
      exact ih (fun i hi => h i (by omega))
/-! the class tells gains -/
theorem tellGains_z (hn : n ≤ 5) (hF : 110 < F) (hm : m < 32) {U : Nat} (hU : 0 < U) (hU2 : U ≤ 27000000000000000) {G : Nat → Int} (hG : ∀ i, i < n → -8100000000000000000 ≤ G i ∧ G i ≤ 8100000000000000000) (h0 : ∀ i, i < n → ¬ m.testBit i = true → G i = 0) {ga : Nat → Int64} (hga : ∀ i, i < n → ga i = zL (G i)) (nu : Nat → Int64) (sz : Int32) :
    ∃ (nu1 : Nat → Int64) (sz1 : Int32), f_X_tellGains F (zI (m : Int)) ga (zL (U : Int)) (zI (n : Int)) nu sz = some (zI (bst9 m G n), nu1, sz1) ∧ RowC ((al U G n : Int) :: (List.range n).map (fun k => G k / (cg U G n : Int))) nu1 sz1 := by
  have hc := al_ok hU G n
  have loop := iter_for (body := un2 (fb_X_tellGains_11 F ga (zI (n : Int)))) (F := F) (s := (zL (U : Int), (0 : Int32))) (fun k z => z = (zL (cg U G k : Int), zI (k : Int))) (fun r => r = zL (cg U G n : Int)) n (by omega) rfl ?_ ?_
  · obtain ⟨r, e, rfl⟩ := loop
    have hne : ¬ zL (cg U G n : Int) = (0 : Int64) := fun z => absurd ((zL_eq (a := (cg U G n : Int)) (b := 0) (by omega) (by omega) (by omega) (by omega)).mp z) (by omega)
    unfold f_X_tellGains
    rw [e, Option.bind_some, if_neg hne]
    unfold fj_X_tellGains_52
    have eU : (U : Int) = (cg U G n : Int) * (al U G n : Int) := by
      have := al_cg hU G n
      rw [← Int.natCast_mul, Nat.mul_comm, this]
    have dU : dvL (zL (U : Int)) (zL (cg U G n : Int)) = some (zL (al U G n : Int)) := by
      rw [eU]; exact dvL_ex (by omega) (by omega) (by omega) (by omega)
    obtain ⟨nu0, sz0, w1, w2⟩ := whole_z (RowC.nil nu) (by show 0 < 8; omega) (al U G n : Int)
    rw [dU, Option.bind_some, w1]
    simp only [bd2, Option.bind_some]
    have hex : ∀ k, k < n → G k = (cg U G n : Int) * (G k / (cg U G n : Int)) := fun k hk => by
      obtain ⟨w, -, hw, -⟩ := cg_val hU G hk
      have : (cg U G n : Int) ∣ G k := ⟨_, hw⟩
      exact (Int.mul_ediv_cancel' this).symm
    generalize cg U G n = C at *
    have loop2 := iter_for (body := un4 (fb_X_tellGains_82 (zI (m : Int)) (zL (C : Int)) ga (zI (n : Int)))) (F := F) (s := ((-1 : Int32), (0 : Int32), nu0, sz0))
      (fun k z => ∃ (nu1 : Nat → Int64) (sz1 : Int32), z = (zI (bst9 m G k), zI (k : Int), nu1, sz1) ∧ RowC ((al U G n : Int) :: (List.range k).map (fun k => G k / (C : Int))) nu1 sz1)
      (fun z => ∃ (nu1 : Nat → Int64) (sz1 : Int32), z = (zI (bst9 m G n), nu1, sz1) ∧ RowC ((al U G n : Int) :: (List.range n).map (fun k => G k / (C : Int))) nu1 sz1) n (by omega) ⟨nu0, sz0, rfl, w2⟩ ?_ ?_
    · obtain ⟨z, e2, nu1, sz1, rfl, hR⟩ := loop2
      rw [e2]
      exact ⟨nu1, sz1, rfl, hR⟩
    · rintro k z hk ⟨nu1, sz1, rfl, hR⟩
      have gk := hG k hk
      have ek := hex k hk
      obtain ⟨nu2, sz2, w3, w4⟩ := whole_z hR (by simp; omega) (G k / (C : Int))
      have hl : ((al U G n : Int) :: (List.range (k + 1)).map (fun k => G k / (C : Int))) = ((al U G n : Int) :: (List.range k).map (fun k => G k / (C : Int))) ++ [G k / (C : Int)] := by
        rw [List.range_succ, List.map_append]; rfl
      have stay : bst9 m G (k + 1) = bst9 m G k → ∃ s', fj_X_tellGains_177 (zI (bst9 m G k)) (zI (k : Int)) nu2 sz2 = some (.inl s') ∧ ∃ (nu1 : Nat → Int64) (sz1 : Int32), s' = (zI (bst9 m G (k + 1)), zI ((k + 1 : Nat) : Int), nu1, sz1) ∧ RowC ((al U G n : Int) :: (List.range (k + 1)).map (fun k => G k / (C : Int))) nu1 sz1 := fun e => by
        simp only [fj_X_tellGains_177, nm, zI_1]
        exact ⟨_, rfl, nu2, sz2, by rw [e], by rw [hl]; exact w4⟩
      have take : bst9 m G (k + 1) = (k : Int) → ∃ s', fj_X_tellGains_173 (zI (k : Int)) nu2 sz2 = some (.inl s') ∧ ∃ (nu1 : Nat → Int64) (sz1 : Int32), s' = (zI (bst9 m G (k + 1)), zI ((k + 1 : Nat) : Int), nu1, sz1) ∧ RowC ((al U G n : Int) :: (List.range (k + 1)).map (fun k => G k / (C : Int))) nu1 sz1 := fun e => by
        simp only [fj_X_tellGains_173, fj_X_tellGains_177, nm, zI_1]
        exact ⟨_, rfl, nu2, sz2, by rw [e], by rw [hl]; exact w4⟩
      have hb := bit_one m hm k (by omega)
      dsimp only [un4]
      unfold fb_X_tellGains_82
      rw [if_neg (by rw [zI_le (by omega) (by omega) (by omega) (by omega)]; omega)]
      by_cases q : m.testBit k = true
      · have dG : dvL (zL (G k)) (zL (C : Int)) = some (zL (G k / (C : Int))) := by
          have := dvL_ex (b := (C : Int)) (q := G k / (C : Int)) (by omega) (by omega) (by omega) (by omega)
          rwa [← ek] at this
        rw [if_pos (hb.mpr q)]
        unfold fj_X_tellGains_109
        rw [if_neg (show ¬ (1 : Int32) = 0 by decide), ldA_z (f := ga) (j := k) (by omega) (by omega), Option.bind_some, hga k hk, dG, Option.bind_some]
        unfold fj_X_tellGains_136
        rw [w3]
        simp only [bd2, Option.bind_some]
        rw [if_neg (show ¬ (1 : Int32) = 0 by decide)]
        rcases bst9_cs m G k with ⟨e, -⟩ | ⟨j, j1, j2, j3, -⟩
        · rw [e, if_pos (show zI (-1) < (0 : Int32) by decide)]
          exact take (by simp only [bst9]; rw [if_pos q, if_pos e])
        · have ne : ¬ (j : Int) = -1 := by omega
          have gj := hG j (by omega)
          rw [j2, if_neg (show ¬ zI (j : Int) < (0 : Int32) from fun z => absurd ((zI_lt (a := (j : Int)) (b := 0) (by omega) (by omega) (by omega) (by omega)).mp z) (by omega)), ldA_z (f := ga) (j := k) (by omega) (by omega), Option.bind_some, ldA_z (f := ga) (j := j) (by omega) (by omega), Option.bind_some, hga k hk, hga j (by omega)]
          by_cases w : G j < G k
          · rw [if_neg (fun z => absurd ((zL_le (by omega) (by omega) (by omega) (by omega)).mp z) (by omega))]
            exact take (by simp only [bst9]; rw [if_pos q, j2, if_neg ne, Int.toNat_natCast, if_pos w])
          · rw [if_pos ((zL_le (by omega) (by omega) (by omega) (by omega)).mpr (by omega)), ← j2]
            exact stay (by simp only [bst9]; rw [if_pos q, j2, if_neg ne, Int.toNat_natCast, if_neg w])
      · have g0 : G k / (C : Int) = 0 := by rw [h0 k hk q]; exact Int.zero_ediv _
        rw [g0] at w3
        have w3 : f_R_whole (0 : Int64) nu1 sz1 = some (nu2, sz2) := w3
        rw [if_neg (fun z => q (hb.mp z))]
        unfold fj_X_tellGains_109
        rw [if_pos rfl]
        unfold fj_X_tellGains_136
        rw [w3]
        simp only [bd2, Option.bind_some]
        rw [if_pos trivial]
        exact stay (by simp only [bst9]; rw [if_neg q])
    · rintro z ⟨nu1, sz1, rfl, hR⟩
      dsimp only [un4]
      unfold fb_X_tellGains_82
      rw [if_pos (Int32.le_refl _)]
      exact ⟨_, rfl, nu1, sz1, rfl, hR⟩
  · rintro k z hk rfl
    have gk := hG k hk
    have ck := al_ok hU G k
    dsimp only [un2]
    unfold fb_X_tellGains_11
    rw [if_neg (by rw [zI_le (by omega) (by omega) (by omega) (by omega)]; omega), ldA_z (f := ga) (j := k) (by omega) (by omega), Option.bind_some, hga k hk, divisor_z (F := F) (by omega) (by omega) (by omega) (by omega) (by omega), Option.bind_some]
    simp only [nm, zI_1]
    exact ⟨_, rfl, rfl⟩
  · rintro z rfl
    dsimp only [un2]
    unfold fb_X_tellGains_11
    rw [if_pos (Int32.le_refl _)]
    exact ⟨_, rfl, rfl⟩
end OPS31
