/-! WHO SHEDS: the model; sheds -/
section OPS32
variable {n : Nat} {nv : Nat → Nat → Int} {A B : Int} {F : Nat} {g c y s u pit o now : Nat → Int32} {m : Nat}
theorem e5q (k q : Nat) : (5 : Int32) * zI (k : Int) + zI (q : Int) = zI ((5 * k + q : Nat) : Int) := by
  rw [show (5 : Int32) = zI 5 from rfl, zI_mul, zI_add]
  rfl
theorem red_z {o u : Int} {F : Nat} (hF : 100 < F) (h1 : -9223372036854775808 < o) (h2 : o < 9223372036854775808) (hu : 0 < u) (hu2 : u < 9223372036854775808) (j : Nat) (hj : j < 5) (mO mU : Nat → Int64) :
    (if zL o = (0 : Int64) then fj_M_layMore_103 (zI (j : Int)) (zL o) (zL u) (zL u) mO mU else (f_M_common F (zL o) (zL u)).bind fun r => fj_M_layMore_103 (zI (j : Int)) (zL o) (zL u) r mO mU) = some (vp_updL mO j (zL (red o u).1), vp_updL mU j (zL (red o u).2)) := by
  obtain ⟨g1, g2, d1, d2⟩ := red_div h1 h2 hu hu2
  have main : fj_M_layMore_103 (zI (j : Int)) (zL o) (zL u) (zL (Int.gcd o u : Int)) mO mU = some (vp_updL mO j (zL (red o u).1), vp_updL mU j (zL (red o u).2)) := by
    unfold fj_M_layMore_103
    rw [d1, Option.bind_some, stL_z hj (by omega), Option.bind_some, d2, Option.bind_some, stL_z hj (by omega), Option.bind_some]
  by_cases q : o = 0
  · rw [if_pos (by rw [q]; rfl)]
    have : (Int.gcd o u : Int) = u := by rw [q, Int.gcd_zero_left]; omega
    rw [this] at main
    exact main
  · rw [if_neg (by rw [l0z, zL_eq (by omega) (by omega) (by omega) (by omega)]; exact q), common_z hF h1 h2 hu hu2, Option.bind_some]
    exact main
/-- states at one load: forces are not below 0, all of them the load -/
theorem sat_nnQ (hv : NvOk n nv) {P Q D : Int} {f d : Nat → Int} (hQ : 0 < Q) (h : SAt n nv A B m P Q (D * Q) f d) : (∀ i, i < n → 0 ≤ f i ∧ f i ≤ D * P) ∧ sm f n = D * P ∧ ∀ i, i < n → ¬ m.testBit i = true → f i = 0 := by
  obtain ⟨⟨N, hN, hE, ⟨hs, -⟩, hl, ho⟩, -⟩ := h
  have hnn : ∀ i, i < n → 0 ≤ f i := fun i hi => by
    by_cases q : m.testBit i = true
    · have v := hv i hi
      exact (hl i hi q).nn hE (by omega)
    · rw [ho i hi q]; exact Int.le_refl 0
  have eN : N = D * P := by
    refine Int.eq_of_mul_eq_mul_right (a := Q) (by omega) ?_
    rw [hN]; ac_rfl
  exact ⟨fun i hi => ⟨hnn i hi, by have := sm_term hi hnn; rw [hs, eN] at this; exact this⟩, by rw [hs, eN], ho⟩
theorem layMore_z (hn : n ≤ 5) (hF : 110 < F) {i k : Nat} (hi : i < n) (hk : k < n) {Q P D1 D2 f1 f2 : Int} (hQ : 0 < Q ∧ Q ≤ 299269) (hP : 0 ≤ P ∧ P ≤ 300 * Q) (hD1 : 0 < D1 ∧ D1 ≤ 299269) (hD2 : 0 < D2 ∧ D2 ≤ 299269) (hf1 : 0 ≤ f1 ∧ f1 ≤ D1 * P) (hf2 : 0 ≤ f2 ∧ f2 ≤ D2 * P) {aO aU bO bU : Nat → Int64} (h1 : aU i = zL (D1 * Q)) (h2 : aO (5 * i + k) = zL f1) (h3 : bU i = zL (D2 * Q)) (h4 : bO (5 * i + k) = zL f2) {G U : Int} (hU : 0 < U) (hGU : (f2 * D1 - f1 * D2) * U = G * (D1 * D2 * Q)) (mO mU : Nat → Int64) :
    f_M_layMore F (zI (i : Int)) (zI (k : Int)) aO aU bO bU mO mU = some (vp_updL mO k (zL (red G U).1), vp_updL mU k (zL (red G U).2)) := by
  have p1 := mul_bd (show 0 ≤ D1 by omega) (show 0 ≤ Q by omega) hD1.2 hQ.2
  have p2 := mul_bd (show 0 ≤ D2 by omega) (show 0 ≤ Q by omega) hD2.2 hQ.2
  have q1 : 0 < D1 * Q := Int.mul_pos hD1.1 hQ.1
  have q2 : 0 < D2 * Q := Int.mul_pos hD2.1 hQ.1
  have g0 : 0 < (Int.gcd (D2 * Q) (D1 * Q) : Int) := by
    have : 0 < Int.gcd (D2 * Q) (D1 * Q) := Int.gcd_pos_of_ne_zero_left _ (by omega)
    omega
  have gQ : Q ≤ (Int.gcd (D2 * Q) (D1 * Q) : Int) := by
    have : Q.toNat ∣ Int.gcd (D2 * Q) (D1 * Q) := Int.dvd_gcd (by rw [Int.toNat_of_nonneg (by omega)]; exact Int.dvd_mul_left _ _) (by rw [Int.toNat_of_nonneg (by omega)]; exact Int.dvd_mul_left _ _)
    have := Nat.le_of_dvd (by omega) this
    omega
  obtain ⟨e2, he2⟩ := Int.gcd_dvd_left (D2 * Q) (D1 * Q)
  obtain ⟨e1, he1⟩ := Int.gcd_dvd_right (D2 * Q) (D1 * Q)
  have ec := common_z (a := D2 * Q) (b := D1 * Q) (F := F) (by omega) (by omega) (by omega) q1 (by omega)
  have gle : (Int.gcd (D2 * Q) (D1 * Q) : Int) ≤ D1 * Q := Int.le_of_dvd q1 (Int.gcd_dvd_right _ _)
  generalize (Int.gcd (D2 * Q) (D1 * Q) : Int) = t at *
  have hpos : ∀ (D e : Int), 0 < D → D * Q = t * e → 0 < e ∧ e ≤ D := by
    intro D e hD he
    have hDQ : 0 < D * Q := Int.mul_pos hD hQ.1
    rw [he] at hDQ
    have e0 : 0 < e := Int.pos_of_mul_pos_right hDQ g0
    refine ⟨e0, Int.not_lt.mp fun w => ?_⟩
    have a := Int.mul_lt_mul_of_pos_right w g0
    have b := Int.mul_le_mul_of_nonneg_left gQ (show 0 ≤ D by omega)
    rw [he, Int.mul_comm t e] at b
    omega
  obtain ⟨a0, a1⟩ := hpos D1 e1 hD1.1 he1
  obtain ⟨b0, b1⟩ := hpos D2 e2 hD2.1 he2
  have dv1 : dvL (zL (D1 * Q)) (zL t) = some (zL e1) := by rw [he1]; exact dvL_ex g0 (by omega) (by omega) (by omega)
  have dv2 : dvL (zL (D2 * Q)) (zL t) = some (zL e2) := by rw [he2]; exact dvL_ex g0 (by omega) (by omega) (by omega)
  have r1 := mul_bd (show 0 ≤ D1 by omega) hP.1 hD1.2 hP.2
  have r2 := mul_bd (show 0 ≤ D2 by omega) hP.1 hD2.2 hP.2
  have s1 := mul_bd hf2.1 (show 0 ≤ e1 by omega) (show f2 ≤ 299269 * (300 * 299269) by omega) (show e1 ≤ 299269 by omega)
  have s2 := mul_bd hf1.1 (show 0 ≤ e2 by omega) (show f1 ≤ 299269 * (300 * 299269) by omega) (show e2 ≤ 299269 by omega)
  have s3 := mul_bd (show 0 ≤ e2 by omega) (show 0 ≤ D1 * Q by omega) (show e2 ≤ 299269 by omega) p1.2
  have hby : 0 < e2 * (D1 * Q) := Int.mul_pos b0 q1
  have key : red (f2 * e1 - f1 * e2) (e2 * (D1 * Q)) = red G U := by
    refine red_eq hby hU ?_
    refine Int.eq_of_mul_eq_mul_right (a := t * Q) (by have := Int.mul_pos g0 hQ.1; omega) ?_
    have x1 : (f2 * e1 - f1 * e2) * U * (t * Q) = ((f2 * D1 - f1 * D2) * U) * (Q * Q) := by
      have : (f2 * e1 - f1 * e2) * U * (t * Q) = (f2 * (t * e1) - f1 * (t * e2)) * U * Q := by grind
      rw [this, ← he1, ← he2]; grind
    have x2 : G * (e2 * (D1 * Q)) * (t * Q) = G * (D1 * D2 * Q) * (Q * Q) := by
      have : G * (e2 * (D1 * Q)) * (t * Q) = G * ((t * e2) * (D1 * Q)) * Q := by grind
      rw [this, ← he2]; grind
    rw [x1, x2, hGU]
  unfold f_M_layMore
  rw [e5q, ldA_z (f := bO) (j := 5 * i + k) (by omega) (by omega), ldA_z (f := aO) (j := 5 * i + k) (by omega) (by omega), ldA_z (f := bU) (j := i) (by omega) (by omega), ldA_z (f := aU) (j := i) (by omega) (by omega), h1, h2, h3, h4]
  simp only [Option.bind_some]
  rw [ec, Option.bind_some, dv1, Option.bind_some, dv2]
  simp only [Option.bind_some, nm, zL_mul, zL_sub]
  rw [red_z (F := F) (by omega) (by omega) (by omega) hby (by omega) k (by omega), key]
/-- the model lays all gains -/
theorem msheds_z (hn : n ≤ 5) (hF : 110 < F) {U : Nat} (hU : 0 < U) (hU2 : U ≤ 27000000000000000) {G : Nat → Int} {i j : Nat} {aO aU bO bU : Nat → Int64} {kd wh : Nat → Int32} {mt : Int32} {gets : Nat → Prop} (hstep : ∀ k, k < n → ∀ (l4 : Int64) (mO mU : Nat → Int64), (gets k → un4 (fb_M_sheds_50 F (zI (i : Int)) (zI (j : Int)) now (zI (n : Int)) mt kd wh aO aU bO bU) (l4, zI (k : Int), mO, mU) = fj_M_sheds_91 F (zI (i : Int)) l4 (zI (k : Int)) (1 : Int32) aO aU bO bU mO mU) ∧ (¬ gets k → un4 (fb_M_sheds_50 F (zI (i : Int)) (zI (j : Int)) now (zI (n : Int)) mt kd wh aO aU bO bU) (l4, zI (k : Int), mO, mU) = fj_M_sheds_91 F (zI (i : Int)) l4 (zI (k : Int)) (0 : Int32) aO aU bO bU mO mU ∧ G k = 0))
    (hlay : ∀ k, k < n → gets k → ∀ mO mU : Nat → Int64, f_M_layMore F (zI (i : Int)) (zI (k : Int)) aO aU bO bU mO mU = some (vp_updL mO k (zL (red (G k) (U : Int)).1), vp_updL mU k (zL (red (G k) (U : Int)).2))) (mO mU : Nat → Int64) :
    ∃ mO1 mU1 : Nat → Int64, iter (un4 (fb_M_sheds_50 F (zI (i : Int)) (zI (j : Int)) now (zI (n : Int)) mt kd wh aO aU bO bU)) F ((1 : Int64), (0 : Int32), mO, mU) = some (zL (al U G n : Int), mO1, mU1) ∧ ∀ k, k < n → mO1 k = zL (red (G k) (U : Int)).1 ∧ mU1 k = zL (muN U G k : Int) := by
  have loop := iter_for (body := un4 (fb_M_sheds_50 F (zI (i : Int)) (zI (j : Int)) now (zI (n : Int)) mt kd wh aO aU bO bU)) (F := F) (s := ((1 : Int64), (0 : Int32), mO, mU))
    (fun k z => ∃ mO1 mU1 : Nat → Int64, z = (zL (al U G k : Int), zI (k : Int), mO1, mU1) ∧ ∀ q, q < k → mO1 q = zL (red (G q) (U : Int)).1 ∧ mU1 q = zL (muN U G q : Int))
    (fun z => ∃ mO1 mU1 : Nat → Int64, z = (zL (al U G n : Int), mO1, mU1) ∧ ∀ q, q < n → mO1 q = zL (red (G q) (U : Int)).1 ∧ mU1 q = zL (muN U G q : Int)) n (by omega) ⟨mO, mU, rfl, fun q hq => absurd hq (Nat.not_lt_zero q)⟩ ?_ ?_
  · obtain ⟨z, e, mO1, mU1, rfl, h⟩ := loop
    exact ⟨mO1, mU1, e, h⟩
  · rintro k z hk ⟨mO1, mU1, rfl, hq⟩
    obtain ⟨m1, m2, m3, m4, m5⟩ := muN_ok hU G k
    have ha := al_ok hU G k
    have ha2 := al_ok hU G (k + 1)
    have e91 : ∀ s0 : Int32, fj_M_sheds_91 F (zI (i : Int)) (zL (al U G k : Int)) (zI (k : Int)) s0 aO aU bO bU mO1 mU1 = if s0 = (0 : Int32) then fj_M_sheds_149 (zL (al U G k : Int)) (zI (k : Int)) (vp_updL mO1 k (zL 0)) (vp_updL mU1 k (zL 1)) else bd2 (f_M_layMore F (zI (i : Int)) (zI (k : Int)) aO aU bO bU (vp_updL mO1 k (zL 0)) (vp_updL mU1 k (zL 1))) fun a b => (ldA b 5 (zI (k : Int))).bind fun v_134 => (f_M_common F (zL (al U G k : Int)) v_134).bind fun r_135 => (dvL (zL (al U G k : Int)) r_135).bind fun v_138 => (ldA b 5 (zI (k : Int))).bind fun v_145 => nm (v_138 * v_145) fun l4_147 => fj_M_sheds_149 l4_147 (zI (k : Int)) a b := by
      intro s0
      unfold fj_M_sheds_91
      rw [show (0 : Int64) = zL 0 from rfl, show (1 : Int64) = zL 1 from rfl, stL_z (f := mO1) (j := k) (by omega) (by omega), Option.bind_some, stL_z (f := mU1) (j := k) (by omega) (by omega), Option.bind_some]
    by_cases w : gets k
    · rw [(hstep k hk _ mO1 mU1).1 w, e91, if_neg (show ¬ (1 : Int32) = 0 by decide), hlay k hk w]
      simp only [bd2, Option.bind_some]
      have hu2 : vp_updL (vp_updL mU1 k (zL 1)) k (zL (red (G k) (U : Int)).2) k = zL (muN U G k : Int) := by rw [updL_at, if_pos rfl, m1]
      have egcd := common_z (a := (al U G k : Int)) (b := (muN U G k : Int)) (F := F) (by omega) (by omega) (by omega) (by omega) (by omega)
      have hgd : Nat.gcd (al U G k) (muN U G k) ∣ al U G k := Nat.gcd_dvd_left _ _
      have hg0 : 0 < Nat.gcd (al U G k) (muN U G k) := Nat.gcd_pos_of_pos_left _ ha.1
      have hgl := Nat.le_of_dvd ha.1 hgd
      have egg : (Int.gcd (al U G k : Int) (muN U G k : Int) : Int) = ((Nat.gcd (al U G k) (muN U G k) : Nat) : Int) := rfl
      rw [egg] at egcd
      have hq0 : al U G k = Nat.gcd (al U G k) (muN U G k) * (al U G k / Nat.gcd (al U G k) (muN U G k)) := (Nat.mul_div_cancel' hgd).symm
      have dv : dvL (zL (al U G k : Int)) (zL ((Nat.gcd (al U G k) (muN U G k) : Nat) : Int)) = some (zL ((al U G k / Nat.gcd (al U G k) (muN U G k) : Nat) : Int)) := by
        have e : (al U G k : Int) = ((Nat.gcd (al U G k) (muN U G k) : Nat) : Int) * ((al U G k / Nat.gcd (al U G k) (muN U G k) : Nat) : Int) := by rw [← Int.natCast_mul, ← hq0]
        have := dvL_ex (b := ((Nat.gcd (al U G k) (muN U G k) : Nat) : Int)) (q := ((al U G k / Nat.gcd (al U G k) (muN U G k) : Nat) : Int)) (by omega) (by omega) (by rw [← e]; omega) (by rw [← e]; omega)
        rwa [← e] at this
      rw [ldA_z (j := k) (by omega) (by omega)]
      simp only [Option.bind_some]
      rw [hu2, egcd, Option.bind_some, dv, Option.bind_some]
      simp only [nm, fj_M_sheds_149, zI_1, zL_mul]
      refine ⟨_, rfl, _, _, rfl, fun q hq' => ?_⟩
      by_cases x : q = k
      · rw [x]; exact ⟨by rw [updL_at, if_pos rfl], hu2⟩
      · exact ⟨by rw [updL_at, if_neg x, updL_at, if_neg x]; exact (hq q (by omega)).1, by rw [updL_at, if_neg x, updL_at, if_neg x]; exact (hq q (by omega)).2⟩
    · obtain ⟨e, g0⟩ := (hstep k hk (zL (al U G k : Int)) mO1 mU1).2 w
      have hr : (red (G k) (U : Int)).1 = 0 := by
        have x : (Nat.gcd U (G k).natAbs : Int) = (U : Int) := by rw [g0]; simp
        rw [x, g0] at m5
        rw [g0]
        rcases Int.mul_eq_zero.mp m5.symm with z | z
        · omega
        · exact z
      have hmu : muN U G k = 1 := by
        have x : Nat.gcd U (G k).natAbs = U := by rw [g0]; simp
        rw [x] at m4
        have : U * muN U G k = U * 1 := by omega
        exact Nat.eq_of_mul_eq_mul_left hU this
      have hal : al U G (k + 1) = al U G k := by
        show al U G k / Nat.gcd (al U G k) (muN U G k) * muN U G k = _
        rw [hmu, Nat.gcd_one_right, Nat.div_one, Nat.mul_one]
      rw [e, e91, if_pos rfl]
      simp only [fj_M_sheds_149, nm, zI_1]
      refine ⟨_, rfl, _, _, by rw [hal], fun q hq' => ?_⟩
      rw [updL_at, updL_at]
      by_cases x : q = k
      · rw [if_pos x, if_pos x, x, hr, hmu]; exact ⟨rfl, rfl⟩
      · rw [if_neg x, if_neg x]; exact hq q (by omega)
  · rintro z ⟨mO1, mU1, rfl, h⟩
    dsimp only [un4]
    unfold fb_M_sheds_50
    rw [if_pos (Int32.le_refl _)]
    exact ⟨_, rfl, mO1, mU1, rfl, h⟩
theorem mgain_z (hn : n ≤ 5) {U : Nat} (hU : 0 < U) (hU2 : U ≤ 27000000000000000) {G : Nat → Int} (hG : ∀ i, i < n → -8100000000000000000 ≤ G i ∧ G i ≤ 8100000000000000000) {k : Nat} (hk : k < n) : ∃ w : Int, dvL (zL (al U G n : Int)) (zL (muN U G k : Int)) = some (zL w) ∧ (red (G k) (U : Int)).1 * w = G k / (cg U G n : Int) ∧ G k = (cg U G n : Int) * (G k / (cg U G n : Int)) ∧ 0 < w := by
  obtain ⟨w, w0, e1, e2⟩ := cg_val hU G hk
  have hc := al_ok hU G n
  obtain ⟨m1, m2, m3, m4, m5⟩ := muN_ok hU G k
  have hd : G k / (cg U G n : Int) = (w : Int) * (red (G k) (U : Int)).1 := by
    conv => lhs; rw [e1]
    exact Int.mul_ediv_cancel_left _ (by omega)
  refine ⟨(w : Int), ?_, by rw [hd, Int.mul_comm], by rw [hd]; exact e1, by omega⟩
  have e3 : (al U G n : Int) = (muN U G k : Int) * (w : Int) := by rw [e2, Int.natCast_mul]
  rw [e3]
  exact dvL_ex (by omega) (by omega) (by omega) (by omega)
theorem mtell_z (hn : n ≤ 5) (hF : 10 < F) {U : Nat} (hU : 0 < U) (hU2 : U ≤ 27000000000000000) {G : Nat → Int} (hG : ∀ i, i < n → -8100000000000000000 ≤ G i ∧ G i ≤ 8100000000000000000) {mO mU : Nat → Int64} (hm : ∀ k, k < n → mO k = zL (red (G k) (U : Int)).1 ∧ mU k = zL (muN U G k : Int)) {row0 : Nat → Int64} {rm0 : Int32} (hR : RowC [(al U G n : Int)] row0 rm0) :
    iter (un2 (fb_M_sheds_158 (zL (al U G n : Int)) (zI (n : Int)) mO mU)) F ((-1 : Int32), (0 : Int32)) = some (zI (bpos G n)) ∧ ∃ (row1 : Nat → Int64) (rm1 : Int32), iter (un3 (fb_M_sheds_245 (zL (al U G n : Int)) (zI (n : Int)) mO mU)) F ((0 : Int32), row0, rm0) = some (row1, rm1) ∧ RowC ((al U G n : Int) :: (List.range n).map (fun k => G k / (cg U G n : Int))) row1 rm1 := by
  have hc := al_ok hU G n
  have hval : ∀ k, k < n → -8100000000000000000 ≤ G k / (cg U G n : Int) ∧ G k / (cg U G n : Int) ≤ 8100000000000000000 ∧ (0 < (red (G k) (U : Int)).1 ↔ 0 < G k) ∧ (-8100000000000000000 ≤ (red (G k) (U : Int)).1 ∧ (red (G k) (U : Int)).1 ≤ 8100000000000000000) := by
    intro k hk
    obtain ⟨w, -, h2, h3, h4⟩ := mgain_z hn hU hU2 hG hk
    obtain ⟨m1, m2, m3, m4, m5⟩ := muN_ok hU G k
    have gk := hG k hk
    have big : ∀ (x z : Int), 0 < x → -8100000000000000000 ≤ x * z ∧ x * z ≤ 8100000000000000000 → -8100000000000000000 ≤ z ∧ z ≤ 8100000000000000000 := by
      intro x z hx h
      constructor
      · refine Int.not_lt.mp fun q => ?_
        have := Int.mul_le_mul_of_nonneg_right (show 1 ≤ x by omega) (show 0 ≤ -z by omega)
        rw [Int.mul_neg, Int.mul_neg] at this
        omega
      · refine Int.not_lt.mp fun q => ?_
        have := Int.mul_le_mul_of_nonneg_right (show 1 ≤ x by omega) (show 0 ≤ z by omega)
        omega
    have t0 : 0 < (Nat.gcd U (G k).natAbs : Int) := by
      have := Nat.gcd_pos_of_pos_left (G k).natAbs hU
      omega
    have b1 := big (cg U G n : Int) (G k / (cg U G n : Int)) (by omega) (by rw [← h3]; exact gk)
    have b2 := big (Nat.gcd U (G k).natAbs : Int) (red (G k) (U : Int)).1 t0 (by rw [← m5]; exact gk)
    refine ⟨b1.1, b1.2, ?_, b2⟩
    constructor
    · intro q
      have := Int.mul_pos t0 q
      omega
    · intro q
      rw [m5] at q
      exact Int.pos_of_mul_pos_right q t0
  constructor
  · have loop := iter_for (body := un2 (fb_M_sheds_158 (zL (al U G n : Int)) (zI (n : Int)) mO mU)) (F := F) (s := ((-1 : Int32), (0 : Int32))) (fun k z => z = (zI (bpos G k), zI (k : Int)) ∧ (bpos G k = -1 ∨ ∃ j : Nat, j < k ∧ bpos G k = (j : Int))) (fun r => r = zI (bpos G n)) n (by omega) ⟨rfl, Or.inl rfl⟩ ?_ ?_
    · obtain ⟨r, e, rfl⟩ := loop
      exact e
    · rintro k z hk ⟨rfl, hb⟩
      have v := hval k hk
      obtain ⟨w, d1, d2, d3, d4⟩ := mgain_z hn hU hU2 hG hk
      have keep : bpos G (k + 1) = bpos G k → ∃ s', fj_M_sheds_225 (zI (bpos G k)) (zI (k : Int)) = some (.inl s') ∧ s' = (zI (bpos G (k + 1)), zI ((k + 1 : Nat) : Int)) ∧ (bpos G (k + 1) = -1 ∨ ∃ j : Nat, j < k + 1 ∧ bpos G (k + 1) = (j : Int)) := fun e => by
        simp only [fj_M_sheds_225, nm, zI_1]
        refine ⟨_, rfl, by rw [e], ?_⟩
        rw [e]
        rcases hb with h | ⟨j, h1, h2⟩
        · exact Or.inl h
        · exact Or.inr ⟨j, by omega, h2⟩
      have take : bpos G (k + 1) = (k : Int) → ∃ s', fj_M_sheds_222 (zI (k : Int)) = some (.inl s') ∧ s' = (zI (bpos G (k + 1)), zI ((k + 1 : Nat) : Int)) ∧ (bpos G (k + 1) = -1 ∨ ∃ j : Nat, j < k + 1 ∧ bpos G (k + 1) = (j : Int)) := fun e => by
        simp only [fj_M_sheds_222, fj_M_sheds_225, nm, zI_1]
        exact ⟨_, rfl, by rw [e], Or.inr ⟨k, by omega, e⟩⟩
      dsimp only [un2]
      unfold fb_M_sheds_158
      rw [if_neg (by rw [zI_le (by omega) (by omega) (by omega) (by omega)]; omega), ldA_z (f := mO) (j := k) (by omega) (by omega)]
      simp only [Option.bind_some]
      rw [(hm k hk).1]
      by_cases q : 0 < G k
      · have q1 := v.2.2.1.mpr q
        rw [if_neg (show ¬ zL (red (G k) (U : Int)).1 ≤ (0 : Int64) from fun z => absurd ((zL_le (a := (red (G k) (U : Int)).1) (b := 0) (by omega) (by omega) (by omega) (by omega)).mp z) (by omega))]
        rcases hb with h | ⟨j, h1, h2⟩
        · rw [h, if_pos (show zI (-1) = (-1 : Int32) from rfl)]
          exact take (by simp only [bpos]; rw [if_pos q, if_pos h])
        · have ne : ¬ (j : Int) = -1 := by omega
          have vj := hval j (by omega)
          obtain ⟨wj, c1, c2, c3, c4⟩ := mgain_z hn hU hU2 hG (show j < n by omega)
          rw [h2, if_neg (show ¬ zI (j : Int) = (-1 : Int32) from fun z => absurd ((zI_eq (a := (j : Int)) (b := -1) (by omega) (by omega) (by omega) (by omega)).mp (z.trans im1)) (by omega)), ldA_z (f := mU) (j := k) (by omega) (by omega), Option.bind_some, (hm k hk).2, d1, Option.bind_some, ldA_z (f := mO) (j := j) (by omega) (by omega), Option.bind_some, ldA_z (f := mU) (j := j) (by omega) (by omega), Option.bind_some, (hm j (by omega)).1, (hm j (by omega)).2, c1, Option.bind_some, zL_mul, zL_mul, d2, c2]
          have hcmp : G j < G k ↔ G j / (cg U G n : Int) < G k / (cg U G n : Int) := by
            conv => lhs; rw [d3, c3]
            constructor
            · intro x; exact Int.lt_of_mul_lt_mul_left x (by omega)
            · intro x; exact Int.mul_lt_mul_of_pos_left x (by omega)
          by_cases x : G j < G k
          · have := hcmp.mp x
            rw [if_neg (fun z => absurd ((zL_le (by omega) (by omega) (by omega) (by omega)).mp z) (by omega))]
            exact take (by simp only [bpos]; rw [if_pos q, h2, if_neg ne, Int.toNat_natCast, if_pos x])
          · rw [if_pos ((zL_le (by omega) (by omega) (by omega) (by omega)).mpr (Int.not_lt.mp fun z => x (hcmp.mpr z))), ← h2]
            exact keep (by simp only [bpos]; rw [if_pos q, h2, if_neg ne, Int.toNat_natCast, if_neg x])
      · rw [if_pos (show zL (red (G k) (U : Int)).1 ≤ (0 : Int64) from (zL_le (a := (red (G k) (U : Int)).1) (b := 0) (by omega) (by omega) (by omega) (by omega)).mpr (Int.not_lt.mp fun z => q (v.2.2.1.mp z)))]
        exact keep (by simp only [bpos]; rw [if_neg q])
    · rintro z ⟨rfl, -⟩
      dsimp only [un2]
      unfold fb_M_sheds_158
      rw [if_pos (Int32.le_refl _)]
      exact ⟨_, rfl, rfl⟩
  · have loop := iter_for (body := un3 (fb_M_sheds_245 (zL (al U G n : Int)) (zI (n : Int)) mO mU)) (F := F) (s := ((0 : Int32), row0, rm0))
      (fun k z => ∃ (row1 : Nat → Int64) (rm1 : Int32), z = (zI (k : Int), row1, rm1) ∧ RowC ((al U G n : Int) :: (List.range k).map (fun k => G k / (cg U G n : Int))) row1 rm1)
      (fun z => ∃ (row1 : Nat → Int64) (rm1 : Int32), z = (row1, rm1) ∧ RowC ((al U G n : Int) :: (List.range n).map (fun k => G k / (cg U G n : Int))) row1 rm1) n (by omega) ⟨row0, rm0, rfl, hR⟩ ?_ ?_
    · obtain ⟨z, e, row1, rm1, rfl, h⟩ := loop
      exact ⟨row1, rm1, e, h⟩
    · rintro k z hk ⟨row1, rm1, rfl, h⟩
      obtain ⟨w, d1, d2, d3, d4⟩ := mgain_z hn hU hU2 hG hk
      obtain ⟨row2, rm2, w3, w4⟩ := tell_z h (by simp; omega) (G k / (cg U G n : Int))
      have hl : ((al U G n : Int) :: (List.range (k + 1)).map (fun k => G k / (cg U G n : Int))) = ((al U G n : Int) :: (List.range k).map (fun k => G k / (cg U G n : Int))) ++ [G k / (cg U G n : Int)] := by
        rw [List.range_succ, List.map_append]; rfl
      dsimp only [un3]
      unfold fb_M_sheds_245
      rw [if_neg (by rw [zI_le (by omega) (by omega) (by omega) (by omega)]; omega), ldA_z (f := mO) (j := k) (by omega) (by omega), Option.bind_some, ldA_z (f := mU) (j := k) (by omega) (by omega), Option.bind_some, (hm k hk).1, (hm k hk).2, d1, Option.bind_some, zL_mul, d2, w3]
      simp only [bd2, Option.bind_some, nm, zI_1]
      exact ⟨_, rfl, row2, rm2, rfl, by rw [hl]; exact w4⟩
    · rintro z ⟨row1, rm1, rfl, h⟩
      dsimp only [un3]
      unfold fb_M_sheds_245
      rw [if_pos (Int32.le_refl _)]
      exact ⟨_, rfl, row1, rm1, rfl, h⟩
end OPS32
