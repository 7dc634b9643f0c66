theorem abs_mul_bd {a b x y : Int} (h1 : -x ≤ a) (h2 : a ≤ x) (h3 : -y ≤ b) (h4 : b ≤ y) : -(x * y) ≤ a * b ∧ a * b ≤ x * y := by
  rcases Int.le_total 0 a with ha | ha <;> rcases Int.le_total 0 b with hb | hb
  · have := mul_bd ha hb h2 h4; omega
  · have := mul_bd ha (show 0 ≤ -b by omega) h2 (show -b ≤ y by omega)
    rw [Int.mul_neg] at this; omega
  · have := mul_bd (show 0 ≤ -a by omega) hb (show -a ≤ x by omega) h4
    rw [Int.neg_mul] at this; omega
  · have := mul_bd (show 0 ≤ -a by omega) (show 0 ≤ -b by omega) (show -a ≤ x by omega) (show -b ≤ y by omega)
    rw [Int.neg_mul_neg] at this; omega
section SOL2
variable {n : Nat} {w : Nat → Int} {A B : Int} {k r : Nat → Int} {D : Int} {fr fs dr ds : Nat → Int}
theorem Sol.near (hG : Geo n w A B) (hk : ∀ i, i < n → 0 ≤ k i) (h : Sol n w A B k r D fr fs dr ds) : ∀ i, i + 1 < n → - (4 * D) ≤ dr (i + 1) - dr i ∧ dr (i + 1) - dr i ≤ 4 * D := by
  intro i hi
  have hs0 := sm_nonneg (f := fr) (k := i + 1) (fun j hj => h.fnn hG hk j (by omega))
  have hs1 : sm fr (i + 1) ≤ D := by
    rw [← h.2.2.2.1]
    exact sm_mono (by omega) (fun j _ hj => h.fnn hG hk j hj)
  obtain ⟨gA, gA2, gB, gB2, gw⟩ := hG
  have hD := h.1
  have e := h.2.2.2.2.2.1 i hi
  have e2 : (A + B) * sm fr (i + 1) - A * D = B * sm fr (i + 1) - A * (D - sm fr (i + 1)) := by grind
  have a1 := mul_bd gB hs0 gB2 hs1
  have a2 := mul_bd gA (show 0 ≤ D - sm fr (i + 1) by omega) gA2 (show D - sm fr (i + 1) ≤ D by omega)
  have a3 := abs_mul_bd (a := w i) (b := (A + B) * sm fr (i + 1) - A * D) (x := 2) (y := 2 * D) (by have := gw i hi; omega) (gw i hi).2 (by omega) (by omega)
  omega
theorem Sol.far (hG : Geo n w A B) (hk : ∀ i, i < n → 0 ≤ k i) (h : Sol n w A B k r D fr fs dr ds) : ∀ (j i : Nat), i + j < n → - (4 * D * (j : Int)) ≤ dr (i + j) - dr i ∧ dr (i + j) - dr i ≤ 4 * D * (j : Int)
  | 0, i, _ => by simp
  | j + 1, i, hi => by
    have h1 := Sol.far hG hk h j i (by omega)
    have h2 := h.near hG hk (i + j) (by omega)
    have e : 4 * D * ((j + 1 : Nat) : Int) = 4 * D * (j : Int) + 4 * D := by
      rw [Int.natCast_add, Int.mul_add]; simp
    show _ ≤ dr (i + j + 1) - dr i ∧ dr (i + j + 1) - dr i ≤ _
    omega
theorem Sol.dle (hn : n ≤ 5) (hG : Geo n w A B) (hk : ∀ i, i < n → 0 ≤ k i ∧ k i ≤ 9) (h : Sol n w A B k r D fr fs dr ds) : ∀ i, i < n → dr i ≤ 25 * D := by
  intro i hi
  have hk' : ∀ i, i < n → 0 ≤ k i := fun i hi => (hk i hi).1
  have hD := h.1
  obtain ⟨b, hb, hkb⟩ := h.some hk'
  have e := (h.2.2.1 b hb hkb).1
  have a := mul_bd (hk b hb).1 (h.fnn hG hk' b hb) (hk b hb).2 (h.fle hG hk' b hb)
  rcases Nat.le_total b i with q | q
  · obtain ⟨j, rfl⟩ : ∃ j, i = b + j := ⟨i - b, by omega⟩
    have f := (h.far hG hk' j b hi).2
    have : (4 * D) * (j : Int) ≤ (4 * D) * 4 := Int.mul_le_mul_of_nonneg_left (by omega) (by omega)
    omega
  · obtain ⟨j, rfl⟩ : ∃ j, b = i + j := ⟨b - i, by omega⟩
    have f := (h.far hG hk' j i hb).1
    have : (4 * D) * (j : Int) ≤ (4 * D) * 4 := Int.mul_le_mul_of_nonneg_left (by omega) (by omega)
    omega
end SOL2
theorem Sol.wcongr {n : Nat} {w w' : Nat → Int} {A B : Int} {k r : Nat → Int} {D : Int} {fr fs dr ds : Nat → Int} (e : ∀ i, i + 1 < n → w i = w' i) (h : Sol n w A B k r D fr fs dr ds) : Sol n w' A B k r D fr fs dr ds := by
  obtain ⟨h0, h1, h2, h3, h4, h5, h6⟩ := h
  exact ⟨h0, h1, h2, h3, h4, fun i hi => by rw [← e i hi]; exact h5 i hi, fun i hi => by rw [← e i hi]; exact h6 i hi⟩
set_option maxHeartbeats 4000000 in
theorem fill_spec {n : Nat} (hn : n ≤ 5) {F : Nat} (hF : 10 < F) {k r w : Nat → Int} {A B : Int} (hG : Geo n w A B) (hk : ∀ i, i < n → 0 ≤ k i ∧ k i ≤ 9) (hr : ∀ i, i < n → 0 < k i → -268435456 ≤ r i ∧ r i ≤ 268435456)
    {st : Nat → Int32} {re bf bl ba sc fr0 fs0 dr0 ds0 : Nat → Int64} (hst : ∀ i, i < n → st i = zI (k i)) (hre : ∀ i, i < n → re i = zL (r i)) (hD : 0 < cD k r (wz n w) A B n)
    (hbf : ∀ i, i < n → bf i = zL (fw k r (wz n w) A B i).2.1) (hbl : ∀ i, i < n → bl i = zL (fw k r (wz n w) A B i).2.2.1) (hba : ∀ i, i < n → ba i = zL (fw k r (wz n w) A B i).2.2.2.1) (hsc : ∀ i, i < n → sc i = zL (fw k r (wz n w) A B i).1) :
    cD k r (wz n w) A B n ≤ 299269 ∧
    ∃ fr' fs' dr' ds', f_L_fill F st re fr0 fs0 dr0 ds0 (zL (cD k r (wz n w) A B n)) bf bl ba sc (zL ((fw k r (wz n w) A B n).1 - (fw k r (wz n w) A B n).2.2.2.2.2.1)) (zL (- (fw k r (wz n w) A B n).2.2.2.2.2.2.1)) (zI (n : Int)) = some (fr', fs', dr', ds') ∧
      (∀ i, i < n → fr' i = zL (cfr k r (wz n w) A B n i)) ∧ (∀ i, i < n → fs' i = zL (cfs k r (wz n w) A B n i)) ∧ (∀ i, i < n → dr' i = zL (cdr k r (wz n w) A B n i)) ∧ (∀ i, i < n → ds' i = zL (cds k r (wz n w) A B n i)) := by
  have hwz0 : ∀ j, j < n → 0 ≤ wz n w j ∧ wz n w j ≤ 2 := by
    intro j _
    unfold wz
    by_cases q : j + 1 < n
    · rw [if_pos q]; exact hG.2.2.2.2 j q
    · rw [if_neg q]; omega
  have hA : 0 ≤ A ∧ A ≤ 2 := ⟨hG.1, hG.2.1⟩
  have hB : 0 ≤ B ∧ B ≤ 2 := ⟨hG.2.2.1, hG.2.2.2.1⟩
  have hk' : ∀ i, i < n → 0 ≤ k i := fun i hi => (hk i hi).1
  have hS0 := c_sol (w := wz n w) (r := r) (A := A) (B := B) hk' hD
  have hS : Sol n w A B k r _ _ _ _ _ := hS0.wcongr (fun i hi => if_pos hi)
  have hX5 : ∀ i, i ≤ 5 → (xX i).2.2 ≤ 299269 ∧ (xX i).1 ≤ 59049 := by
    intro i hi
    have : i = 0 ∨ i = 1 ∨ i = 2 ∨ i = 3 ∨ i = 4 ∨ i = 5 := by omega
    rcases this with rfl | rfl | rfl | rfl | rfl | rfl <;> decide
  have hDle : cD k r (wz n w) A B n ≤ 299269 := by
    have := (fw_bd (k := k) (r := r) (w := wz n w) hA hB n hk hwz0).2.2.2.2.2.1
    have := (hX5 n hn).1
    unfold cD
    omega
  refine ⟨hDle, ?_⟩
  have hdr := hS.dle hn hG hk
  have hdp := hS.pos hG hk'
  have hlow := hS.low hG hk' (-268435456) (fun i hi hp => (hr i hi hp).1)
  have hhigh := hS.high hG hk' 268435456 (fun i hi hp => (hr i hi hp).2)
  generalize hDe : cD k r (wz n w) A B n = D at *
  have loop := iter_for (body := un5 (fb_L_fill_2 st re (zL D) bf bl ba sc (zL ((fw k r (wz n w) A B n).1 - (fw k r (wz n w) A B n).2.2.2.2.2.1)) (zL (- (fw k r (wz n w) A B n).2.2.2.2.2.2.1)) (zI (n : Int)))) (F := F) (s := ((0 : Int32), fr0, fs0, dr0, ds0))
    (fun i s => ∃ f1 f2 f3 f4, s = (zI (i : Int), f1, f2, f3, f4) ∧ (∀ j, j < i → f1 j = zL (cfr k r (wz n w) A B n j)) ∧ (∀ j, j < i → f2 j = zL (cfs k r (wz n w) A B n j)) ∧ (∀ j, j < i → f3 j = zL (cdr k r (wz n w) A B n j)) ∧ (∀ j, j < i → f4 j = zL (cds k r (wz n w) A B n j)))
    (fun q => ∃ f1 f2 f3 f4, q = (f1, f2, f3, f4) ∧ (∀ j, j < n → f1 j = zL (cfr k r (wz n w) A B n j)) ∧ (∀ j, j < n → f2 j = zL (cfs k r (wz n w) A B n j)) ∧ (∀ j, j < n → f3 j = zL (cdr k r (wz n w) A B n j)) ∧ (∀ j, j < n → f4 j = zL (cds k r (wz n w) A B n j)))
    n (by omega) ⟨fr0, fs0, dr0, ds0, rfl, fun j h => absurd h (by omega), fun j h => absurd h (by omega), fun j h => absurd h (by omega), fun j h => absurd h (by omega)⟩ ?_ ?_
  · obtain ⟨q, e, f1, f2, f3, f4, rfl, h1, h2, h3, h4⟩ := loop
    refine ⟨f1, f2, f3, f4, ?_, h1, h2, h3, h4⟩
    unfold f_L_fill
    rw [e]
    rfl
  · rintro i s hi ⟨f1, f2, f3, f4, rfl, h1, h2, h3, h4⟩
    have hin : ¬ zI (n : Int) ≤ zI (i : Int) := by rw [zI_le (by omega) (by omega) (by omega) (by omega)]; omega
    have hki := hk i hi
    have hk0 : zI (k i) ≤ (0 : Int32) ↔ ¬ 0 < k i := by rw [i0, zI_le (by omega) (by omega) (by omega) (by omega)]; omega
    have hkl : (zI (k i)).toInt64 = zL (k i) := zI_l (by omega) (by omega)
    have hm := fw_bd (k := k) (r := r) (w := wz n w) hA hB i (fun j hj => hk j (by omega)) (fun j hj => hwz0 j (by omega))
    have hm2 := (hX5 i (by omega)).2
    have hmd := c_div (n := n) (k := k) (r := r) (w := wz n w) (A := A) (B := B) (i := i) (by omega)
    rw [hDe] at hmd
    have hsc0 : ¬ zL (fw k r (wz n w) A B i).1 ≤ (0 : Int64) := by rw [l0z, zL_le (by omega) (by omega) (by omega) (by omega)]; omega
    have b1 := abs_mul_bd (a := (fw k r (wz n w) A B i).1) (b := cdr k r (wz n w) A B n i) (x := 59049) (y := 25 * 299269) (by omega) (by omega) (by have := hdp i hi; omega) (by have := hdr i hi; omega)
    have c1 := hlow i hi
    have c2 := hhigh i hi
    have b2 := abs_mul_bd (a := (fw k r (wz n w) A B i).1) (b := cds k r (wz n w) A B n i) (x := 59049) (y := 268435456 * 299269) (by omega) (by omega) (by omega) (by omega)
    have d1 : dvL (zL (fw k r (wz n w) A B i).2.1 * zL ((fw k r (wz n w) A B n).1 - (fw k r (wz n w) A B n).2.2.2.2.2.1) + zL (fw k r (wz n w) A B i).2.2.1 * zL D) (zL (fw k r (wz n w) A B i).1) = some (zL (cdr k r (wz n w) A B n i)) := by
      rw [zL_mul, zL_mul, zL_add, ← hmd.1]
      exact dvL_ex (by omega) (by omega) (by omega) (by omega)
    have d2 : dvL (zL (fw k r (wz n w) A B i).2.1 * zL (- (fw k r (wz n w) A B n).2.2.2.2.2.2.1) + zL (fw k r (wz n w) A B i).2.2.2.1 * zL D) (zL (fw k r (wz n w) A B i).1) = some (zL (cds k r (wz n w) A B n i)) := by
      rw [zL_mul, zL_mul, zL_add, ← hmd.2]
      exact dvL_ex (by omega) (by omega) (by omega) (by omega)
    simp only [un5, fb_L_fill_2]
    rw [if_neg hin]
    simp only [ldA_z (show i < 5 by omega) (show 5 ≤ 100000 by omega), Option.bind_some, hsc i hi]
    rw [if_neg hsc0]
    simp only [fj_L_fill_34, ldA_z (show i < 5 by omega) (show 5 ≤ 100000 by omega), stL_z (show i < 5 by omega) (show 5 ≤ 100000 by omega), Option.bind_some, hbf i hi, hbl i hi, hba i hi, hst i hi, d1, d2]
    have s3 := upL_of h3
    have s4 := upL_of h4
    by_cases hp : 0 < k i
    · rw [if_neg (fun q => hk0.mp q hp)]
      have e1 := (hS.2.2.1 i hi hp).1
      have e2 := (hS.2.2.1 i hi hp).2
      have hri := hr i hi hp
      have g1 : dvL (zL (cdr k r (wz n w) A B n i)) (zL (k i)) = some (zL (cfr k r (wz n w) A B n i)) := by
        rw [e1]
        exact dvL_ex hp (by omega) (by rw [← e1]; have := hdp i hi; omega) (by rw [← e1]; have := hdr i hi; omega)
      have b3 := abs_mul_bd (a := r i) (b := D) (x := 268435456) (y := 299269) (by omega) (by omega) (by omega) (by omega)
      have g2 : dvL (zL (cds k r (wz n w) A B n i) - zL (r i) * zL D) (zL (k i)) = some (zL (cfs k r (wz n w) A B n i)) := by
        have e3 : cds k r (wz n w) A B n i - r i * D = k i * cfs k r (wz n w) A B n i := by omega
        rw [zL_mul, zL_sub, e3]
        exact dvL_ex hp (by omega) (by rw [← e3]; omega) (by rw [← e3]; omega)
      simp only [s3 i (by omega), hkl, g1, Option.bind_some, fj_L_fill_129, fj_L_fill_166, stL_z (show i < 5 by omega) (show 5 ≤ 100000 by omega)]
      rw [if_neg (fun q => hk0.mp q hp)]
      simp only [ldA_z (show i < 5 by omega) (show 5 ≤ 100000 by omega), s4 i (by omega), hre i hi, g2, Option.bind_some, nm, zI_1]
      exact ⟨_, rfl, _, _, _, _, rfl, upL_of h1, upL_of h2, s3, s4⟩
    · rw [if_pos (hk0.mpr hp)]
      have e0 := hS.2.1 i hi (by omega)
      simp only [Option.bind_some, fj_L_fill_129, fj_L_fill_166, stL_z (show i < 5 by omega) (show 5 ≤ 100000 by omega)]
      rw [if_pos (hk0.mpr hp)]
      simp only [Option.bind_some, nm, zI_1]
      refine ⟨_, rfl, _, _, _, _, rfl, ?_, ?_, s3, s4⟩
      · have := upL_of h1
        rw [e0.1] at this
        exact this
      · have := upL_of h2
        rw [e0.2] at this
        exact this
  · rintro s ⟨f1, f2, f3, f4, rfl, h1, h2, h3, h4⟩
    refine ⟨_, ?_, f1, f2, f3, f4, rfl, h1, h2, h3, h4⟩
    simp only [un5, fb_L_fill_2]
    rw [if_pos (Int32.le_refl _)]
theorem cD_pos {n : Nat} {k r w : Nat → Int} {A B : Int} (hG : Geo n w A B) (hk : ∀ i, i < n → 0 ≤ k i ∧ k i ≤ 9) (hs : ∃ i, i < n ∧ 0 < k i) : 0 < cD k r (wz n w) A B n := by
  have hwz0 : ∀ j, j < n → 0 ≤ wz n w j ∧ wz n w j ≤ 2 := by
    intro j _
    unfold wz
    by_cases q : j + 1 < n
    · rw [if_pos q]; exact hG.2.2.2.2 j q
    · rw [if_neg q]; omega
  have := (fw_bd (k := k) (r := r) (w := wz n w) ⟨hG.1, hG.2.1⟩ ⟨hG.2.2.1, hG.2.2.2.1⟩ n hk hwz0).2.2.2.2.2.2 hs
  unfold cD
  omega
/-- walk() and fill() find the lines -/
theorem lines_spec {n : Nat} (hn : n ≤ 5) {F : Nat} (hF : 10 < F) {k r w : Nat → Int} {A B : Int} (hG : Geo n w A B) (hk : ∀ i, i < n → 0 ≤ k i ∧ k i ≤ 9) (hr : ∀ i, i < n → 0 < k i → -268435456 ≤ r i ∧ r i ≤ 268435456) (hs : ∃ i, i < n ∧ 0 < k i)
    {st pit : Nat → Int32} {re bf bl ba sc fr0 fs0 dr0 ds0 : Nat → Int64} {un fR fS : Int64} (hst : ∀ i, i < n → st i = zI (k i)) (hre : ∀ i, i < n → re i = zL (r i)) (hpi : ∀ i, i + 1 < n → pit i = zI (w i)) :
    ∃ D fr fs dr ds bf' bl' ba' sc' fR' fS' fr' fs' dr' ds', Sol n w A B k r D fr fs dr ds ∧ D ≤ 299269 ∧
      f_L_walk F st re un bf bl ba sc fR fS pit (zI (n : Int)) (zI A) (zI B) = some (zL D, bf', bl', ba', sc', fR', fS') ∧
      f_L_fill F st re fr0 fs0 dr0 ds0 (zL D) bf' bl' ba' sc' fR' fS' (zI (n : Int)) = some (fr', fs', dr', ds') ∧
      (∀ i, i < n → fr' i = zL (fr i)) ∧ (∀ i, i < n → fs' i = zL (fs i)) ∧ (∀ i, i < n → dr' i = zL (dr i)) ∧ (∀ i, i < n → ds' i = zL (ds i)) := by
  have hD := cD_pos (r := r) hG hk hs
  obtain ⟨bf', bl', ba', sc', e1, h1⟩ := walk_spec (r := r) hn hF ⟨hG.1, hG.2.1⟩ ⟨hG.2.2.1, hG.2.2.2.1⟩ hk hG.2.2.2.2 hst hre hpi (bf := bf) (bl := bl) (ba := ba) (sc := sc) (un := un) (fR := fR) (fS := fS)
  rw [if_pos hD] at e1
  obtain ⟨hDle, fr', fs', dr', ds', e2, g1, g2, g3, g4⟩ := fill_spec hn hF hG hk hr hst hre hD (fun i hi => (h1 i hi).1) (fun i hi => (h1 i hi).2.1) (fun i hi => (h1 i hi).2.2.1) (fun i hi => (h1 i hi).2.2.2) (fr0 := fr0) (fs0 := fs0) (dr0 := dr0) (ds0 := ds0)
  exact ⟨_, _, _, _, _, bf', bl', ba', sc', _, _, fr', fs', dr', ds', (c_sol (w := wz n w) (r := r) (A := A) (B := B) (fun i hi => (hk i hi).1) hD).wcongr (fun i hi => if_pos hi), hDle, e1, e2, g1, g2, g3, g4⟩
