/-! AS LOAD FALLS: who opens first -/
section OPS28
variable {n : Nat} {nv : Nat → Nat → Int} {A B : Int} {F : Nat} {g c y s u pit o now : Nat → Int32} {m : Nat} {σ σ' : Nat → Int}
theorem tr_facts (a : Int) {b : Int} (hb : 0 < b) : a = b * a.tdiv b + (a - a.tdiv b * b) ∧ -b < a - a.tdiv b * b ∧ a - a.tdiv b * b < b ∧ (0 ≤ a → 0 ≤ a - a.tdiv b * b ∧ 0 ≤ a.tdiv b) ∧ (a ≤ 0 → a - a.tdiv b * b ≤ 0 ∧ a.tdiv b ≤ 0) := by
  have e := Int.mul_tdiv_add_tmod a b
  have e2 : a - a.tdiv b * b = a.tmod b := by rw [Int.mul_comm]; omega
  have h1 := Int.tmod_lt_of_pos a hb
  have h2 := Int.lt_tmod_of_pos a hb
  rw [e2]
  refine ⟨by omega, h2, h1, fun h => ?_, fun h => ?_⟩
  · have h3 := Int.tmod_nonneg b h
    refine ⟨h3, Int.not_lt.mp fun w => ?_⟩
    have := Int.mul_le_mul_of_nonneg_left (show a.tdiv b ≤ -1 by omega) (show 0 ≤ b by omega)
    omega
  · have h3 := Int.tmod_nonneg b (show 0 ≤ -a by omega)
    rw [Int.neg_tmod] at h3
    refine ⟨by omega, Int.not_lt.mp fun w => ?_⟩
    have := Int.mul_le_mul_of_nonneg_left (show 1 ≤ a.tdiv b by omega) (show 0 ≤ b by omega)
    omega
theorem rmLt_z {a b : Int} (h1 : -9223372036854775808 ≤ a ∧ a ≤ 9223372036854775807) (h3 : 0 < b) (h4 : b ≤ 9223372036854775807) : rmL (zL a) (zL b) = some (zL (a - a.tdiv b * b)) := by
  unfold rmL
  rw [if_neg (by rw [l0z, zL_eq (by omega) (by omega) (by omega) (by omega)]; omega), zL_div (by omega) (by omega) (by omega) (by omega), zL_mul, zL_sub]
/-- comparing whole parts, then what is left, compares the fractions -/
theorem gt_parts {a b c d : Int} (hb : 0 < b) (hd : 0 < d) : (a.tdiv b = c.tdiv d → (c * b < a * d ↔ (c - c.tdiv d * d) * b < (a - a.tdiv b * b) * d)) ∧ (¬ a.tdiv b = c.tdiv d → (c * b < a * d ↔ c.tdiv d < a.tdiv b)) := by
  obtain ⟨e1, l1, u1, p1, n1⟩ := tr_facts a hb
  obtain ⟨e2, l2, u2, p2, n2⟩ := tr_facts c hd
  generalize a.tdiv b = q1 at *
  generalize c.tdiv d = q2 at *
  generalize hr1 : a - q1 * b = r1 at *
  generalize hr2 : c - q2 * d = r2 at *
  have f1 : a * d = b * d * q1 + r1 * d := by rw [e1]; grind
  have f2 : c * b = b * d * q2 + r2 * b := by rw [e2]; grind
  have hbd : 0 < b * d := Int.mul_pos hb hd
  have x1 := Int.mul_lt_mul_of_pos_right u1 hd
  have x2 := Int.mul_lt_mul_of_pos_right l1 hd
  have y1 := Int.mul_lt_mul_of_pos_right u2 hb
  have y2 := Int.mul_lt_mul_of_pos_right l2 hb
  rw [Int.neg_mul] at x2 y2
  rw [Int.mul_comm d b] at y1 y2
  have big : ∀ (t t' s s' : Int), t' + 1 ≤ t → ((0 ≤ s ∧ 0 ≤ s' ∧ s' < b * d) ∨ (s ≤ 0 ∧ -(b * d) < s ∧ s' ≤ 0) ∨ (0 ≤ s ∧ s' ≤ 0)) → b * d * t' + s' < b * d * t + s := by
    intro t t' s s' ht hs
    have := Int.mul_le_mul_of_nonneg_left ht (show 0 ≤ b * d by omega)
    rw [Int.mul_add, Int.mul_one] at this
    omega
  refine ⟨fun h => ?_, fun h => ?_⟩
  · rw [f1, f2, h]; omega
  · rw [f1, f2]
    constructor
    · intro w
      refine Int.not_le.mp fun z => ?_
      have hz : q1 + 1 ≤ q2 := by omega
      refine Int.lt_irrefl (b * d * q1 + r1 * d) (Int.lt_trans (big q2 q1 (r2 * b) (r1 * d) hz ?_) w)
      rcases Int.le_total 0 c with hc | hc
      · have r2n := Int.mul_nonneg (p2 hc).1 (show 0 ≤ b by omega)
        rcases Int.le_total 0 a with ha | ha
        · exact Or.inl ⟨r2n, Int.mul_nonneg (p1 ha).1 (by omega), by omega⟩
        · have := Int.mul_nonneg (show 0 ≤ -r1 by have := (n1 ha).1; omega) (show 0 ≤ d by omega)
          rw [Int.neg_mul] at this
          exact Or.inr (Or.inr ⟨r2n, by omega⟩)
      · have r2n := Int.mul_nonneg (show 0 ≤ -r2 by have := (n2 hc).1; omega) (show 0 ≤ b by omega)
        rw [Int.neg_mul] at r2n
        rcases Int.le_total 0 a with ha | ha
        · have := (p1 ha).2
          have := (n2 hc).2
          omega
        · have := Int.mul_nonneg (show 0 ≤ -r1 by have := (n1 ha).1; omega) (show 0 ≤ d by omega)
          rw [Int.neg_mul] at this
          exact Or.inr (Or.inl ⟨by omega, by omega, by omega⟩)
    · intro w
      refine big q1 q2 (r1 * d) (r2 * b) (by omega) ?_
      rcases Int.le_total 0 a with ha | ha
      · have r1n := Int.mul_nonneg (p1 ha).1 (show 0 ≤ d by omega)
        rcases Int.le_total 0 c with hc | hc
        · exact Or.inl ⟨r1n, Int.mul_nonneg (p2 hc).1 (by omega), by omega⟩
        · have := Int.mul_nonneg (show 0 ≤ -r2 by have := (n2 hc).1; omega) (show 0 ≤ b by omega)
          rw [Int.neg_mul] at this
          exact Or.inr (Or.inr ⟨r1n, by omega⟩)
      · have r1n := Int.mul_nonneg (show 0 ≤ -r1 by have := (n1 ha).1; omega) (show 0 ≤ d by omega)
        rw [Int.neg_mul] at r1n
        rcases Int.le_total 0 c with hc | hc
        · have := (p2 hc).2
          have := (n1 ha).2
          omega
        · have := Int.mul_nonneg (show 0 ≤ -r2 by have := (n2 hc).1; omega) (show 0 ≤ b by omega)
          rw [Int.neg_mul] at this
          exact Or.inr (Or.inl ⟨by omega, by omega, by omega⟩)
theorem isGreater_z {a b c d : Int} (ha : -50000000000000 ≤ a ∧ a ≤ 50000000000000) (hc : -50000000000000 ≤ c ∧ c ≤ 50000000000000) (hb : 0 < b ∧ b ≤ 299269) (hd : 0 < d ∧ d ≤ 299269) : f_M_isGreater (zL a) (zL b) (zL c) (zL d) = some (if c * b < a * d then 1 else 0) := by
  obtain ⟨e1, l1, u1, p1, n1⟩ := tr_facts a hb.1
  obtain ⟨e2, l2, u2, p2, n2⟩ := tr_facts c hd.1
  obtain ⟨g1, g2⟩ := gt_parts (a := a) (c := c) hb.1 hd.1
  have bq : ∀ (x z q r : Int), 0 < z → x = z * q + r → -z < r → r < z → -50000000000000 ≤ x ∧ x ≤ 50000000000000 → -60000000000000 ≤ q ∧ q ≤ 60000000000000 := by
    intro x z q r hz e l u hx
    constructor
    · refine Int.not_lt.mp fun w => ?_
      have := Int.mul_le_mul_of_nonneg_right (show 1 ≤ z by omega) (show 0 ≤ -(q + 1) by omega)
      rw [Int.mul_neg, Int.mul_neg, Int.mul_add z] at this
      omega
    · refine Int.not_lt.mp fun w => ?_
      have := Int.mul_le_mul_of_nonneg_right (show 1 ≤ z by omega) (show 0 ≤ q - 1 by omega)
      rw [Int.mul_sub z] at this
      omega
  have q1 := bq a b _ _ hb.1 e1 l1 u1 ha
  have q2 := bq c d _ _ hd.1 e2 l2 u2 hc
  have r1 := abs_mul_bd (a := a - a.tdiv b * b) (b := d) (x := 299269) (y := 299269) (by omega) (by omega) (by omega) (by omega)
  have r2 := abs_mul_bd (a := c - c.tdiv d * d) (b := b) (x := 299269) (y := 299269) (by omega) (by omega) (by omega) (by omega)
  unfold f_M_isGreater
  rw [dvL_z (a := a) (b := b) (by omega) (by omega) (by omega) (by omega), Option.bind_some, dvL_z (a := c) (b := d) (by omega) (by omega) (by omega) (by omega), Option.bind_some]
  by_cases q : a.tdiv b = c.tdiv d
  · rw [if_pos (show zL (a.tdiv b) = zL (c.tdiv d) by rw [q]), rmLt_z (a := a) (b := b) (by omega) (by omega) (by omega), Option.bind_some, rmLt_z (a := c) (b := d) (by omega) (by omega) (by omega), Option.bind_some, zL_mul, zL_mul]
    by_cases w : c * b < a * d
    · have := (g1 q).mp w
      rw [if_neg (fun z => absurd ((zL_le (by omega) (by omega) (by omega) (by omega)).mp z) (by omega)), if_pos w]
    · rw [if_pos ((zL_le (by omega) (by omega) (by omega) (by omega)).mpr (Int.not_lt.mp fun z => w ((g1 q).mpr z))), if_neg w]
  · rw [if_neg (fun z => q ((zL_eq (by omega) (by omega) (by omega) (by omega)).mp z))]
    simp only [Option.bind_some]
    by_cases w : c * b < a * d
    · have := (g2 q).mp w
      rw [if_neg (fun z => absurd ((zL_le (by omega) (by omega) (by omega) (by omega)).mp z) (by omega)), if_pos w]
    · rw [if_pos ((zL_le (by omega) (by omega) (by omega) (by omega)).mpr (Int.not_lt.mp fun z => w ((g2 q).mpr z))), if_neg w]
/-- the one whose force is first 0 -/
def opn (H : Nat) (fr fs : Nat → Int) : Nat → Int
  | 0 => -1
  | k + 1 => if H.testBit k = true then (if opn H fr fs k = -1 then (k : Int) else if fs k * fr (opn H fr fs k).toNat < fs (opn H fr fs k).toNat * fr k then (k : Int) else opn H fr fs k) else opn H fr fs k
theorem opn_s (H : Nat) (fr fs : Nat → Int) (k : Nat) : opn H fr fs (k + 1) = if H.testBit k = true then (if opn H fr fs k = -1 then (k : Int) else if fs k * fr (opn H fr fs k).toNat < fs (opn H fr fs k).toNat * fr k then (k : Int) else opn H fr fs k) else opn H fr fs k := rfl
theorem opn_cs (H : Nat) (fr fs : Nat → Int) : ∀ k, (opn H fr fs k = -1 ∧ ∀ i, i < k → ¬ H.testBit i = true) ∨ ∃ j : Nat, j < k ∧ H.testBit j = true ∧ opn H fr fs k = (j : Int) := by
  intro k
  induction k with
  | zero => exact Or.inl ⟨rfl, fun i hi => absurd hi (Nat.not_lt_zero i)⟩
  | succ k ih =>
    rw [opn_s]
    by_cases q : H.testBit k = true
    · rw [if_pos q]
      right
      rcases ih with ⟨e, -⟩ | ⟨j, j1, j2, j3⟩
      · rw [if_pos e]; exact ⟨k, by omega, q, rfl⟩
      · rw [if_neg (by omega)]
        by_cases w : fs k * fr (opn H fr fs k).toNat < fs (opn H fr fs k).toNat * fr k
        · rw [if_pos w]; exact ⟨k, by omega, q, rfl⟩
        · rw [if_neg w]; exact ⟨j, by omega, j2, j3⟩
    · rw [if_neg q]
      rcases ih with ⟨e, h⟩ | ⟨j, j1, j2, j3⟩
      · refine Or.inl ⟨e, fun i hi w => ?_⟩
        by_cases x : i = k
        · rw [x] at w; exact q w
        · exact h i (by omega) w
      · exact Or.inr ⟨j, by omega, j2, j3⟩
theorem lin_cmp {a b a' b' x z x' z' K K' L L' : Int} (hK : 0 < K) (hK' : 0 < K') (hL : 0 < L) (hL' : 0 < L') (e1 : b' * K = b * K') (e2 : z' * K = z * K') (e3 : a' * L = a * L') (e4 : x' * L = x * L') : a * z < x * b ↔ a' * z' < x' * b' := by
  have f1 : a' * z' * (L * K) = a * z * (L' * K') := by
    have : a' * z' * (L * K) = (a' * L) * (z' * K) := by ac_rfl
    rw [this, e3, e2]; ac_rfl
  have f2 : x' * b' * (L * K) = x * b * (L' * K') := by
    have : x' * b' * (L * K) = (x' * L) * (b' * K) := by ac_rfl
    rw [this, e4, e1]; ac_rfl
  have p1 : 0 < L * K := Int.mul_pos hL hK
  have p2 : 0 < L' * K' := Int.mul_pos hL' hK'
  constructor
  · intro h
    have := Int.mul_lt_mul_of_pos_right h p2
    rw [← f1, ← f2] at this
    exact Int.lt_of_mul_lt_mul_right this (by omega)
  · intro h
    have := Int.mul_lt_mul_of_pos_right h p1
    rw [f1, f2] at this
    exact Int.lt_of_mul_lt_mul_right this (by omega)
theorem opn_sc {H : Nat} {fr fs fr' fs' : Nat → Int} {K K' L L' : Int} (hK : 0 < K) (hK' : 0 < K') (hL : 0 < L) (hL' : 0 < L') (e1 : ∀ i, i < n → fr' i * K = fr i * K') (e2 : ∀ i, i < n → fs' i * L = fs i * L') : ∀ k, k ≤ n → opn H fr' fs' k = opn H fr fs k := by
  intro k
  induction k with
  | zero => intro _; rfl
  | succ k ih =>
    intro hk
    rw [opn_s, opn_s, ih (by omega)]
    rcases opn_cs H fr fs k with ⟨e, -⟩ | ⟨j, j1, j2, j3⟩
    · rw [if_pos e, if_pos e]
    · have ne : ¬ (j : Int) = -1 := by omega
      rw [j3, if_neg ne, if_neg ne, Int.toNat_natCast]
      have := lin_cmp hK hK' hL hL' (e1 k (by omega)) (e1 j (by omega)) (e2 k (by omega)) (e2 j (by omega))
      by_cases w : fs k * fr j < fs j * fr k
      · rw [if_pos w, if_pos (this.mp w)]
      · rw [if_neg w, if_neg (fun z => w (this.mpr z))]
/-- nobody holds on: no force -/
theorem layNone_z (hn : n ≤ 5) (hF : 10 < F) (hv : NvOk n nv) (hA : 0 ≤ A ∧ A ≤ 2) (hB : 0 ≤ B ∧ B ≤ 2) (J : JOk n nv g c y s u pit) {se : Nat → Int64} (hse : ∀ i, i < n → se i = zL (σ i)) (st0 : Nat → Int32) (re0 fr0 fs0 dr0 ds0 : Nat → Int64) (lu0 : Int64) (bf0 bl0 ba0 sc0 : Nat → Int64) (fR0 fS0 : Int64) :
    ∃ (st1 : Nat → Int32) (re1 fr1 fs1 dr1 ds1 : Nat → Int64) (lu1 : Int64) (bf1 bl1 ba1 sc1 : Nat → Int64) (fR1 fS1 : Int64), f_F_layLines F (0 : Int32) se st0 re0 fr0 fs0 dr0 ds0 lu0 bf0 bl0 ba0 sc0 fR0 fS0 g pit (zI (n : Int)) (zI A) (zI B) = some (st1, re1, fr1, fs1, dr1, ds1, lu1, bf1, bl1, ba1, sc1, fR1, fS1) ∧ ∀ i, i < n → fr1 i = zL 0 := by
  have hG := geo_nv hv hA hB
  have loop := iter_for (body := un3 (fb_F_layLines_2 (0 : Int32) se g (zI (n : Int)))) (F := F) (s := ((0 : Int32), st0, re0))
    (fun j z => ∃ (st : Nat → Int32) (re : Nat → Int64), z = (zI (j : Int), st, re) ∧ ∀ i, i < j → st i = zI 0 ∧ re i = zL (σ i))
    (fun z => ∃ (st : Nat → Int32) (re : Nat → Int64), z = (st, re) ∧ ∀ i, i < n → st i = zI 0 ∧ re i = zL (σ i)) n (by omega) ⟨st0, re0, rfl, fun i hi => absurd hi (Nat.not_lt_zero i)⟩ ?_ ?_
  · obtain ⟨z, e, st, re, rfl, hz⟩ := loop
    obtain ⟨bf', bl', ba', sc', e1, hw⟩ := walk_spec (n := n) hn (F := F) hF (k := fun _ => 0) (r := σ) (w := fun i => nv i 6) hA hB (fun i hi => by omega) hG.2.2.2.2 (st := st) (pit := pit) (re := re) (bf := bf0) (bl := bl0) (ba := ba0) (sc := sc0) (un := lu0) (fR := fR0) (fS := fS0) (fun i hi => (hz i hi).1) (fun i hi => (hz i hi).2) J.2.2.2.2.2
    generalize (zL (if 0 < cD (fun _ => 0) σ (wz n (fun i => nv i 6)) A B n then cD (fun _ => 0) σ (wz n (fun i => nv i 6)) A B n else 1)) = U at *
    generalize (zL ((fw (fun _ => 0) σ (wz n (fun i => nv i 6)) A B n).1 - (fw (fun _ => 0) σ (wz n (fun i => nv i 6)) A B n).2.2.2.2.2.1)) = R1 at *
    generalize (zL (- (fw (fun _ => 0) σ (wz n (fun i => nv i 6)) A B n).2.2.2.2.2.2.1)) = R2 at *
    have dvT : ∀ (x z : Int64), ¬ z = 0 → ∃ r, dvL x z = some r := fun x z h => ⟨_, if_neg h⟩
    have loop2 := iter_for (body := un5 (fb_L_fill_2 st re U bf' bl' ba' sc' R1 R2 (zI (n : Int)))) (F := F) (s := ((0 : Int32), fr0, fs0, dr0, ds0))
      (fun j z => ∃ (a b c d : Nat → Int64), z = (zI (j : Int), a, b, c, d) ∧ ∀ i, i < j → a i = zL 0)
      (fun z => ∃ (a b c d : Nat → Int64), z = (a, b, c, d) ∧ ∀ i, i < n → a i = zL 0) n (by omega) ⟨fr0, fs0, dr0, ds0, rfl, fun i hi => absurd hi (Nat.not_lt_zero i)⟩ ?_ ?_
    · obtain ⟨z2, e2, a, b, c', d, rfl, h2⟩ := loop2
      refine ⟨st, re, a, b, c', d, U, bf', bl', ba', sc', R1, R2, ?_, h2⟩
      unfold f_F_layLines
      rw [e]
      simp only [bd2, Option.bind_some]
      rw [e1]
      simp only [bd7, Option.bind_some]
      unfold f_L_fill
      rw [e2]
      rfl
    · rintro j z hj ⟨a, b, c', d, rfl, h2⟩
      have s34 : ∀ t : Int64, ¬ t = 0 → ∃ s', fj_L_fill_34 (zI (j : Int)) t st re a b c' d U bf' bl' ba' R1 R2 = some (.inl s') ∧ ∃ (a b c d : Nat → Int64), s' = (zI ((j + 1 : Nat) : Int), a, b, c, d) ∧ ∀ i, i < j + 1 → a i = zL 0 := by
        intro t ht
        obtain ⟨r1, d1⟩ := dvT (bf' j * R1 + bl' j * U) t ht
        obtain ⟨r2, d2⟩ := dvT (bf' j * R2 + ba' j * U) t ht
        unfold fj_L_fill_34
        rw [ldA_z (f := bf') (j := j) (by omega) (by omega), ldA_z (f := bl') (j := j) (by omega) (by omega), ldA_z (f := ba') (j := j) (by omega) (by omega), ldA_z (f := st) (j := j) (by omega) (by omega)]
        simp only [Option.bind_some]
        rw [d1, Option.bind_some, stL_z (f := c') (j := j) (by omega) (by omega), Option.bind_some, d2, Option.bind_some, stL_z (f := d) (j := j) (by omega) (by omega), Option.bind_some, (hz j hj).1, if_pos (show zI 0 ≤ (0 : Int32) from Int32.le_refl _)]
        unfold fj_L_fill_129
        rw [stL_z (f := a) (j := j) (by omega) (by omega), Option.bind_some, if_pos (show zI 0 ≤ (0 : Int32) from Int32.le_refl _)]
        unfold fj_L_fill_166
        rw [stL_z (f := b) (j := j) (by omega) (by omega), Option.bind_some]
        simp only [nm, zI_1]
        refine ⟨_, rfl, _, _, _, _, rfl, fun i hi => ?_⟩
        rw [updL_at]
        by_cases x : i = j
        · rw [if_pos x]; rfl
        · rw [if_neg x]; exact h2 i (by omega)
      dsimp only [un5]
      unfold fb_L_fill_2
      rw [if_neg (by rw [zI_le (by omega) (by omega) (by omega) (by omega)]; omega), ldA_z (f := sc') (j := j) (by omega) (by omega)]
      simp only [Option.bind_some]
      by_cases q : sc' j ≤ (0 : Int64)
      · rw [if_pos q]
        exact s34 1 (by decide)
      · rw [if_neg q]
        exact s34 _ (fun w => q (by rw [w]; exact Int64.le_refl _))
    · rintro z2 ⟨a, b, c', d, rfl, h2⟩
      dsimp only [un5]
      unfold fb_L_fill_2
      rw [if_pos (Int32.le_refl _)]
      exact ⟨_, rfl, a, b, c', d, rfl, h2⟩
  · rintro j z hj ⟨st, re, rfl, hz⟩
    have hb := bit_one 0 (by omega) j (by omega)
    dsimp only [un3]
    unfold fb_F_layLines_2
    rw [if_neg (by rw [zI_le (by omega) (by omega) (by omega) (by omega)]; omega), if_neg (fun z => by
      have := hb.mp z
      rw [Nat.zero_testBit] at this
      cases this)]
    unfold fj_F_layLines_46
    rw [stI_z (f := st) (j := j) (by omega) (by omega), Option.bind_some, ldA_z (f := se) (j := j) (by omega) (by omega), Option.bind_some, stL_z (f := re) (j := j) (by omega) (by omega), Option.bind_some]
    simp only [nm, zI_1]
    refine ⟨_, rfl, _, _, rfl, fun i hi => ?_⟩
    rw [upd_at, updL_at]
    by_cases x : i = j
    · rw [if_pos x, if_pos x, x]; exact ⟨rfl, hse j hj⟩
    · rw [if_neg x, if_neg x]; exact hz i (by omega)
  · rintro z ⟨st, re, rfl, hz⟩
    dsimp only [un3]
    unfold fb_F_layLines_2
    rw [if_pos (Int32.le_refl _)]
    exact ⟨_, rfl, st, re, rfl, hz⟩
end OPS28
