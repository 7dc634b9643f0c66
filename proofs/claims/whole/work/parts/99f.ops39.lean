/-! WHAT WOULD BE: arranges -/
section OPS39
variable {n : Nat} {nv : Nat → Nat → Int} {A B : Int} {F : Nat} {g c y s u pit o now : Nat → Int32}
/-- bolts in other places -/
def nvP (nv : Nat → Nat → Int) (d : Nat → Nat) : Nat → Nat → Int := fun i q => if q = 6 then nv i 6 else nv (d i) q
theorem nvP_old {d : Nat → Nat} {i q : Nat} (h : q ≠ 6) : nvP nv d i q = nv (d i) q := if_neg h
theorem nvP_6 {d : Nat → Nat} {i : Nat} : nvP nv d i 6 = nv i 6 := if_pos rfl
theorem nvP_ok (hv : NvOk n nv) {d : Nat → Nat} (hd : ∀ i, i < n → d i < n) : NvOk n (nvP nv d) := by
  intro i hi
  have w := hv (d i) (hd i hi)
  have w6 := hv i hi
  rw [nvP_old (q := 0) (by omega), nvP_old (q := 1) (by omega), nvP_old (q := 2) (by omega), nvP_old (q := 3) (by omega), nvP_old (q := 4) (by omega), nvP_old (q := 5) (by omega), nvP_6]
  omega
theorem seat_z (hJt : Jt n nv A B) (hF : 10 < F) {bn ju jl : Int32} (J : JX n nv A B g c y s u o pit bn ju jl) {d : Nat → Nat} (hd : ∀ i, i < n → d i < n) {arr : Nat → Int32} (ha : ∀ i, i < n → arr i = zI (d i : Int)) (g2 c2 y2 s2 u2 o2 : Nat → Int32) {p2 : Nat → Int32} (hp : ∀ i, i + 1 < n → p2 i = zI (nv i 6)) :
    ∃ g' c' y' s' u' o' : Nat → Int32, f_X_seat F arr g c y s u o bn g2 c2 y2 s2 u2 o2 = some (g', c', y', s', u', o') ∧ JX n (nvP nv d) A B g' c' y' s' u' o' p2 bn ju jl := by
  obtain ⟨J1, ho, rfl, rfl, rfl⟩ := J
  obtain ⟨j1, j2, j3, j4, j5, j6⟩ := J1
  obtain ⟨hn, hv, hA, hB⟩ := hJt
  have loop := iter_for (body := un7 (fb_X_seat_2 arr g c y s u o (zI (n : Int)))) (F := F) (s := ((0 : Int32), g2, c2, y2, s2, u2, o2))
    (fun j z => ∃ g' c' y' s' u' o' : Nat → Int32, z = (zI (j : Int), g', c', y', s', u', o') ∧ ∀ i, i < j → g' i = g (d i) ∧ c' i = c (d i) ∧ y' i = y (d i) ∧ s' i = s (d i) ∧ u' i = u (d i) ∧ o' i = o (d i))
    (fun z => ∃ g' c' y' s' u' o' : Nat → Int32, z = (g', c', y', s', u', o') ∧ ∀ i, i < n → g' i = g (d i) ∧ c' i = c (d i) ∧ y' i = y (d i) ∧ s' i = s (d i) ∧ u' i = u (d i) ∧ o' i = o (d i)) n (by omega) ⟨g2, c2, y2, s2, u2, o2, rfl, fun i hi => absurd hi (Nat.not_lt_zero i)⟩ ?_ ?_
  · obtain ⟨z, e, g', c', y', s', u', o', rfl, hall⟩ := loop
    refine ⟨g', c', y', s', u', o', ?_, ⟨⟨fun i hi => ?_, fun i hi => ?_, fun i hi => ?_, fun i hi => ?_, fun i hi => ?_, fun i hi => ?_⟩, fun i hi => ?_, rfl, rfl, rfl⟩⟩
    · unfold f_X_seat
      rw [e]
      rfl
    · rw [(hall i hi).1, nvP_old (by omega)]; exact j1 _ (hd i hi)
    · rw [(hall i hi).2.1, nvP_old (by omega)]; exact j2 _ (hd i hi)
    · rw [(hall i hi).2.2.1, nvP_old (by omega)]; exact j3 _ (hd i hi)
    · rw [(hall i hi).2.2.2.1, nvP_old (by omega)]; exact j4 _ (hd i hi)
    · rw [(hall i hi).2.2.2.2.1, nvP_old (by omega)]; exact j5 _ (hd i hi)
    · rw [nvP_6]; exact hp i hi
    · rw [(hall i hi).2.2.2.2.2, nvP_old (by omega)]; exact ho _ (hd i hi)
  · rintro j z hj ⟨g', c', y', s', u', o', rfl, hall⟩
    have dj := hd j hj
    dsimp only [un7]
    unfold fb_X_seat_2
    rw [if_neg (by rw [zI_le (by omega) (by omega) (by omega) (by omega)]; omega), ldA_z (f := arr) (j := j) (by omega) (by omega), Option.bind_some, ha j hj, copyBolt_z (k := d j) (m := j) (by omega) (by omega) g' c' y' s' u' o' g c y s u o (out_bool hv ho dj)]
    simp only [bd6, Option.bind_some, nm, zI_1]
    refine ⟨_, rfl, _, _, _, _, _, _, rfl, fun i hi => ?_⟩
    simp only [upd_at]
    by_cases w : i = j
    · rw [if_pos w, if_pos w, if_pos w, if_pos w, if_pos w, if_pos w, w]
      exact ⟨rfl, rfl, rfl, rfl, rfl, rfl⟩
    · rw [if_neg w, if_neg w, if_neg w, if_neg w, if_neg w, if_neg w]
      exact hall i (by omega)
  · rintro z ⟨g', c', y', s', u', o', rfl, hall⟩
    dsimp only [un7]
    unfold fb_X_seat_2
    rw [if_pos (Int32.le_refl _)]
    exact ⟨_, rfl, g', c', y', s', u', o', rfl, hall⟩
theorem mseat_z (hn : n ≤ 5) (hF : 10 < F) {d : Nat → Nat} (hd : ∀ i, i < n → d i < n) {arm as1 : Nat → Int32} (ha : ∀ i, i < n → arm i = zI (d i : Int)) (has : ∀ i, i < n → ∀ q, q < 7 → as1 (7 * i + q) = zI (nv i q)) (h6 : ∀ i, i < n → now (7 * i + 6) = zI (nv i 6)) :
    ∃ now1, iter (un2 (fb_M_arranges_54 F (zI (n : Int)) as1 arm)) F ((0 : Int32), now) = some now1 ∧ ∀ i, i < n → ∀ q, q < 7 → now1 (7 * i + q) = zI (nvP nv d i q) := by
  have loop := iter_for (body := un2 (fb_M_arranges_54 F (zI (n : Int)) as1 arm)) (F := F) (s := ((0 : Int32), now)) (fun j z => ∃ t : Nat → Int32, z = (zI (j : Int), t) ∧ (∀ i, i < j → ∀ q, q < 6 → t (7 * i + q) = zI (nv (d i) q)) ∧ ∀ i, i < n → t (7 * i + 6) = zI (nv i 6)) (fun t => (∀ i, i < n → ∀ q, q < 6 → t (7 * i + q) = zI (nv (d i) q)) ∧ ∀ i, i < n → t (7 * i + 6) = zI (nv i 6)) n (by omega) ⟨now, rfl, fun i hi => absurd hi (Nat.not_lt_zero i), h6⟩ ?_ ?_
  · obtain ⟨t, e, h1, h2⟩ := loop
    refine ⟨t, e, fun i hi q hq => ?_⟩
    by_cases w : q = 6
    · rw [w, nvP_6]; exact h2 i hi
    · rw [nvP_old w]; exact h1 i hi q (by omega)
  · rintro j z hj ⟨t, rfl, h1, h2⟩
    have dj := hd j hj
    have inner := iter_for (body := un2 (fb_M_arranges_64 (zI (j : Int)) as1 arm)) (F := F) (s := ((0 : Int32), t)) (fun q z => ∃ t2 : Nat → Int32, z = (zI (q : Int), t2) ∧ (∀ q', q' < q → t2 (7 * j + q') = zI (nv (d j) q')) ∧ (∀ i, i < j → ∀ q, q < 6 → t2 (7 * i + q) = zI (nv (d i) q)) ∧ ∀ i, i < n → t2 (7 * i + 6) = zI (nv i 6)) (fun t2 => (∀ q', q' < 6 → t2 (7 * j + q') = zI (nv (d j) q')) ∧ (∀ i, i < j → ∀ q, q < 6 → t2 (7 * i + q) = zI (nv (d i) q)) ∧ ∀ i, i < n → t2 (7 * i + 6) = zI (nv i 6)) 6 (by omega) ⟨t, rfl, fun q hq => absurd hq (Nat.not_lt_zero q), h1, h2⟩ ?_ ?_
    · obtain ⟨t2, e2, k1, k2, k3⟩ := inner
      dsimp only [un2]
      unfold fb_M_arranges_54
      rw [if_neg (by rw [zI_le (by omega) (by omega) (by omega) (by omega)]; omega), e2, Option.bind_some]
      simp only [nm, zI_1]
      refine ⟨_, rfl, t2, rfl, fun i hi q hq => ?_, k3⟩
      by_cases w : i = j
      · rw [w]; exact k1 q hq
      · exact k2 i (by omega) q hq
    · rintro q z hq ⟨t2, rfl, k1, k2, k3⟩
      have x1 : (7 : Int32) * zI (d j : Int) + zI (q : Int) = zI ((7 * d j + q : Nat) : Int) := e7q (d j) q
      have x2 : (7 : Int32) * zI (j : Int) + zI (q : Int) = zI ((7 * j + q : Nat) : Int) := e7q j q
      dsimp only [un2]
      unfold fb_M_arranges_64
      rw [if_neg (show ¬ (5 : Int32) < zI (q : Int) from fun w => absurd ((zI_lt (a := 5) (b := (q : Int)) (by omega) (by omega) (by omega) (by omega)).mp w) (by omega)), ldA_z (f := arm) (j := j) (by omega) (by omega), Option.bind_some, ha j hj, x1, ldA_z (f := as1) (j := 7 * d j + q) (by omega) (by omega), Option.bind_some, has (d j) dj q (by omega), x2, stI_z (f := t2) (j := 7 * j + q) (by omega) (by omega), Option.bind_some]
      simp only [nm, zI_1]
      refine ⟨_, rfl, _, rfl, fun q' hq' => ?_, fun i hi q' hq' => ?_, fun i hi => ?_⟩
      · rw [upd_at]
        by_cases w : q' = q
        · rw [if_pos (by omega), w]
        · rw [if_neg (by omega)]; exact k1 q' (by omega)
      · rw [upd_at, if_neg (by omega)]; exact k2 i hi q' hq'
      · rw [upd_at, if_neg (by omega)]; exact k3 i hi
    · rintro z ⟨t2, rfl, k⟩
      dsimp only [un2]
      unfold fb_M_arranges_64
      rw [if_pos (show (5 : Int32) < zI ((6 : Nat) : Int) by decide)]
      exact ⟨_, rfl, k⟩
  · rintro z ⟨t, rfl, h⟩
    dsimp only [un2]
    unfold fb_M_arranges_54
    rw [if_pos (Int32.le_refl _)]
    exact ⟨_, rfl, h⟩
/-- the first order -/
theorem first_z (hn : n ≤ 5) (hF : 10 < F) (arr arm : Nat → Int32) : ∃ arr1 arm1, iter (un2 (fb_X_arranges_25 (zI (n : Int)))) F ((0 : Int32), arr) = some arr1 ∧ iter (un2 (fb_M_arranges_25 (zI (n : Int)))) F ((0 : Int32), arm) = some arm1 ∧ (∀ i, i < n → arr1 i = zI (i : Int)) ∧ ∀ i, i < n → arm1 i = zI (i : Int) := by
  have l1 := iter_for (body := un2 (fb_X_arranges_25 (zI (n : Int)))) (F := F) (s := ((0 : Int32), arr)) (fun j z => ∃ t : Nat → Int32, z = (zI (j : Int), t) ∧ ∀ i, i < j → t i = zI (i : Int)) (fun t => ∀ i, i < n → t i = zI (i : Int)) n (by omega) ⟨arr, rfl, fun i hi => absurd hi (Nat.not_lt_zero i)⟩ ?_ ?_
  · have l2 := iter_for (body := un2 (fb_M_arranges_25 (zI (n : Int)))) (F := F) (s := ((0 : Int32), arm)) (fun j z => ∃ t : Nat → Int32, z = (zI (j : Int), t) ∧ ∀ i, i < j → t i = zI (i : Int)) (fun t => ∀ i, i < n → t i = zI (i : Int)) n (by omega) ⟨arm, rfl, fun i hi => absurd hi (Nat.not_lt_zero i)⟩ ?_ ?_
    · obtain ⟨t1, e1, h1⟩ := l1
      obtain ⟨t2, e2, h2⟩ := l2
      exact ⟨t1, t2, e1, e2, h1, h2⟩
    · rintro j z hj ⟨t, rfl, h⟩
      dsimp only [un2]
      unfold fb_M_arranges_25
      rw [if_neg (by rw [zI_le (by omega) (by omega) (by omega) (by omega)]; omega), stI_z (f := t) (j := j) (by omega) (by omega), Option.bind_some]
      simp only [nm, zI_1]
      refine ⟨_, rfl, _, rfl, fun i hi => ?_⟩
      rw [upd_at]
      by_cases w : i = j
      · rw [if_pos w, w]
      · rw [if_neg w]; exact h i (by omega)
    · rintro z ⟨t, rfl, h⟩
      dsimp only [un2]
      unfold fb_M_arranges_25
      rw [if_pos (Int32.le_refl _)]
      exact ⟨_, rfl, h⟩
  · rintro j z hj ⟨t, rfl, h⟩
    dsimp only [un2]
    unfold fb_X_arranges_25
    rw [if_neg (by rw [zI_le (by omega) (by omega) (by omega) (by omega)]; omega), stI_z (f := t) (j := j) (by omega) (by omega), Option.bind_some]
    simp only [nm, zI_1]
    refine ⟨_, rfl, _, rfl, fun i hi => ?_⟩
    rw [upd_at]
    by_cases w : i = j
    · rw [if_pos w, w]
    · rw [if_neg w]; exact h i (by omega)
  · rintro z ⟨t, rfl, h⟩
    dsimp only [un2]
    unfold fb_X_arranges_25
    rw [if_pos (Int32.le_refl _)]
    exact ⟨_, rfl, h⟩
theorem keepBest_z (hn : n ≤ 5) (hF : 10 < F) {d : Nat → Nat} {arr arm : Nat → Int32} (ha : ∀ i, i < n → arr i = zI (d i : Int)) (hm : ∀ i, i < n → arm i = zI (d i : Int)) (bs bm : Nat → Int32) : ∃ bs1 bm1, cpI arr bs 5 5 (0 : Int32) (0 : Int32) (zI (n : Int)) = some bs1 ∧ iter (un2 (fb_M_arranges_121 (zI (n : Int)) arm)) F ((0 : Int32), bm) = some bm1 ∧ (∀ i, i < n → bs1 i = zI (d i : Int)) ∧ ∀ i, i < n → bm1 i = zI (d i : Int) := by
  have l2 := iter_for (body := un2 (fb_M_arranges_121 (zI (n : Int)) arm)) (F := F) (s := ((0 : Int32), bm)) (fun j z => ∃ t : Nat → Int32, z = (zI (j : Int), t) ∧ ∀ i, i < j → t i = zI (d i : Int)) (fun t => ∀ i, i < n → t i = zI (d i : Int)) n (by omega) ⟨bm, rfl, fun i hi => absurd hi (Nat.not_lt_zero i)⟩ ?_ ?_
  · obtain ⟨t2, e2, h2⟩ := l2
    have hc : ∃ bs1, cpI arr bs 5 5 (0 : Int32) (0 : Int32) (zI (n : Int)) = some bs1 ∧ ∀ i, i < n → bs1 i = zI (d i : Int) := by
      unfold cpI
      have z0 : (0 : Int32).toNatClampNeg = 0 := rfl
      have zn : (zI (n : Int)).toNatClampNeg = n := zI_clamp (by omega)
      have nn : ¬ zI (n : Int) < (0 : Int32) := fun z => absurd ((zI_lt (a := (n : Int)) (b := 0) (by omega) (by omega) (by omega) (by omega)).mp z) (by omega)
      rw [z0, zn, if_pos ⟨by decide, by decide, nn, by omega, by omega⟩]
      refine ⟨_, rfl, fun i hi => ?_⟩
      unfold va_cpy
      rw [if_pos ⟨by omega, by omega⟩, Nat.zero_add, Nat.sub_zero]
      exact ha i hi
    obtain ⟨bs1, c1, c2⟩ := hc
    exact ⟨bs1, t2, c1, e2, c2, h2⟩
  · rintro j z hj ⟨t, rfl, h⟩
    dsimp only [un2]
    unfold fb_M_arranges_121
    rw [if_neg (by rw [zI_le (by omega) (by omega) (by omega) (by omega)]; omega), ldA_z (f := arm) (j := j) (by omega) (by omega), Option.bind_some, hm j hj, stI_z (f := t) (j := j) (by omega) (by omega), Option.bind_some]
    simp only [nm, zI_1]
    refine ⟨_, rfl, _, rfl, fun i hi => ?_⟩
    rw [upd_at]
    by_cases w : i = j
    · rw [if_pos w, w]
    · rw [if_neg w]; exact h i (by omega)
  · rintro z ⟨t, rfl, h⟩
    dsimp only [un2]
    unfold fb_M_arranges_121
    rw [if_pos (Int32.le_refl _)]
    exact ⟨_, rfl, h⟩
/-- an order is told -/
def ctn (be : Nat → Nat) : Nat → Nat
  | 0 => 0
  | k + 1 => if be k = k then ctn be k else ctn be k + 1
theorem ctn_le (be : Nat → Nat) : ∀ k, ctn be k ≤ k := by
  intro k
  induction k with
  | zero => exact Nat.le_refl _
  | succ k ih =>
    simp only [ctn]
    by_cases q : be k = k
    · rw [if_pos q]; omega
    · rw [if_neg q]; omega
theorem tellSeats_z (hn : n ≤ 5) (hF : 110 < F) {be : Nat → Nat} (hbe : ∀ i, i < n → be i < 5) {bs bm : Nat → Int32} (h1 : ∀ i, i < n → bs i = zI (be i : Int)) (h2 : ∀ i, i < n → bm i = zI (be i : Int)) {O U : Int} (hO : 0 ≤ O ∧ O ≤ 400 * 299269) (hU : 0 < U ∧ U ≤ 25 * 299269) (nu row : Nat → Int64) (sz : Int32) :
    ∃ (r : Int32) (nu1 : Nat → Int64) (sz1 l2 : Int32) (row1 : Nat → Int64) (rm1 : Int32) (row2 : Nat → Int64) (rm2 : Int32), f_X_tellSeats F (zL O) (zL U) bs (zI (n : Int)) nu sz = some (r, nu1, sz1) ∧ iter (un4 (fb_M_arranges_168 (zI (n : Int)) bm)) F ((0 : Int32), (0 : Int32), row, (0 : Int32)) = some (l2, row1, rm1) ∧ f_M_tellFraction F (zL O) (zL U) row1 rm1 = some (row2, rm2) ∧ RowEq nu1 sz1 row2 rm2 ∧ (l2 ≤ 0 ∧ r = 0 ∨ ¬ l2 ≤ 0 ∧ r = 1) := by
  have lp : ∀ k, k ≤ n → ((List.range k).map (fun i => (be i : Int))).length = k := fun k _ => by simp
  have ls : ∀ k, (List.range (k + 1)).map (fun i => (be i : Int)) = (List.range k).map (fun i => (be i : Int)) ++ [(be k : Int)] := fun k => by rw [List.range_succ, List.map_append]; rfl
  have x1 := iter_for (body := un4 (fb_X_tellSeats_14 bs (zI (n : Int)))) (F := F) (s := ((0 : Int32), (0 : Int32), nu, (0 : Int32)))
    (fun k z => ∃ (nu1 : Nat → Int64) (sz1 : Int32), z = (zI (if ctn be k = 0 then 0 else 1), zI (k : Int), nu1, sz1) ∧ RowC ((List.range k).map (fun i => (be i : Int))) nu1 sz1)
    (fun z => ∃ (nu1 : Nat → Int64) (sz1 : Int32), z = (zI (if ctn be n = 0 then 0 else 1), nu1, sz1) ∧ RowC ((List.range n).map (fun i => (be i : Int))) nu1 sz1) n (by omega) ⟨nu, 0, rfl, RowC.nil nu⟩ ?_ ?_
  · have x2 := iter_for (body := un4 (fb_M_arranges_168 (zI (n : Int)) bm)) (F := F) (s := ((0 : Int32), (0 : Int32), row, (0 : Int32)))
      (fun k z => ∃ (nu1 : Nat → Int64) (sz1 : Int32), z = (zI (ctn be k : Int), zI (k : Int), nu1, sz1) ∧ RowC ((List.range k).map (fun i => (be i : Int))) nu1 sz1)
      (fun z => ∃ (nu1 : Nat → Int64) (sz1 : Int32), z = (zI (ctn be n : Int), nu1, sz1) ∧ RowC ((List.range n).map (fun i => (be i : Int))) nu1 sz1) n (by omega) ⟨row, 0, rfl, RowC.nil row⟩ ?_ ?_
    · obtain ⟨z1, e1, nu1, sz1, rfl, R1⟩ := x1
      obtain ⟨z2, e2, row1, rm1, rfl, R2⟩ := x2
      obtain ⟨nu2, sz2, e3, R3⟩ := fraction_z (F := F) (by omega) R1 (by rw [lp n (Nat.le_refl n)]; omega) (o := O) (u := U) (by omega) (by omega) hU.1 (by omega)
      obtain ⟨row2, rm2, e4, R4⟩ := tellFraction_z (F := F) (by omega) R2 (by rw [lp n (Nat.le_refl n)]; omega) (o := O) (u := U) (by omega) (by omega) hU.1 (by omega)
      have hR : RowEq nu2 sz2 row2 rm2 := ⟨_, by rw [List.length_append, lp n (Nat.le_refl n)]; show n + 2 ≤ 8; omega, R3, R4⟩
      have hc := ctn_le be n
      by_cases q : ctn be n = 0
      · rw [if_pos q] at e1
        refine ⟨0, nu2, sz2, _, row1, rm1, row2, rm2, ?_, e2, e4, hR, Or.inl ⟨by rw [q]; decide, rfl⟩⟩
        unfold f_X_tellSeats
        rw [e1]
        simp only [bd3, Option.bind_some]
        rw [e3]
        simp only [bd2, Option.bind_some]
        rw [if_pos (show zI 0 = (0 : Int32) from rfl)]
      · rw [if_neg q] at e1
        refine ⟨1, nu2, sz2, _, row1, rm1, row2, rm2, ?_, e2, e4, hR, Or.inr ⟨fun z => absurd ((zI_le (a := (ctn be n : Int)) (b := 0) (by omega) (by omega) (by omega) (by omega)).mp z) (by omega), rfl⟩⟩
        unfold f_X_tellSeats
        rw [e1]
        simp only [bd3, Option.bind_some]
        rw [e3]
        simp only [bd2, Option.bind_some]
        rw [if_neg (show ¬ zI 1 = (0 : Int32) by decide)]
    · rintro k z hk ⟨nu1, sz1, rfl, R⟩
      have b := hbe k hk
      obtain ⟨nu2, sz2, w1, w2⟩ := tell_z R (by rw [lp k (by omega)]; omega) (be k : Int)
      dsimp only [un4]
      unfold fb_M_arranges_168
      rw [if_neg (by rw [zI_le (by omega) (by omega) (by omega) (by omega)]; omega), ldA_z (f := bm) (j := k) (by omega) (by omega), h2 k hk]
      simp only [Option.bind_some]
      rw [zI_l (a := (be k : Int)) (by omega) (by omega), w1]
      simp only [bd2, Option.bind_some]
      by_cases q : be k = k
      · rw [if_pos (by rw [q])]
        simp only [fj_M_arranges_203, nm, zI_1]
        have e0 : zI (ctn be k : Int) + (0 : Int32) = zI (ctn be (k + 1) : Int) := by
          rw [i0, zI_add, Int.add_zero, show ctn be (k + 1) = ctn be k from if_pos q]
        rw [e0]
        exact ⟨_, rfl, nu2, sz2, rfl, by rw [ls]; exact w2⟩
      · rw [if_neg (fun z => q (by have := (zI_eq (by omega) (by omega) (by omega) (by omega)).mp z; omega))]
        simp only [fj_M_arranges_203, nm, zI_1]
        have e0 : ((ctn be k + 1 : Nat) : Int) = (ctn be (k + 1) : Int) := by rw [show ctn be (k + 1) = ctn be k + 1 from if_neg q]
        rw [e0]
        exact ⟨_, rfl, nu2, sz2, rfl, by rw [ls]; exact w2⟩
    · rintro z ⟨nu1, sz1, rfl, R⟩
      dsimp only [un4]
      unfold fb_M_arranges_168
      rw [if_pos (Int32.le_refl _)]
      exact ⟨_, rfl, nu1, sz1, rfl, R⟩
  · rintro k z hk ⟨nu1, sz1, rfl, R⟩
    have b := hbe k hk
    obtain ⟨nu2, sz2, w1, w2⟩ := whole_z R (by rw [lp k (by omega)]; omega) (be k : Int)
    dsimp only [un4]
    unfold fb_X_tellSeats_14
    rw [if_neg (by rw [zI_le (by omega) (by omega) (by omega) (by omega)]; omega), ldA_z (f := bs) (j := k) (by omega) (by omega), h1 k hk]
    simp only [Option.bind_some]
    rw [zI_l (a := (be k : Int)) (by omega) (by omega), w1]
    simp only [bd2, Option.bind_some]
    by_cases q : be k = k
    · have e0 : zI (if ctn be k = 0 then 0 else 1) ||| (0 : Int32) = zI (if ctn be (k + 1) = 0 then 0 else 1) := by
        rw [show ctn be (k + 1) = ctn be k from if_pos q]
        by_cases w : ctn be k = 0
        · rw [if_pos w]; decide
        · rw [if_neg w]; decide
      rw [if_pos (by rw [q])]
      simp only [fj_X_tellSeats_60, nm, zI_1, e0]
      exact ⟨_, rfl, nu2, sz2, rfl, by rw [ls]; exact w2⟩
    · have e0 : zI (if ctn be k = 0 then 0 else 1) ||| (1 : Int32) = zI (if ctn be (k + 1) = 0 then 0 else 1) := by
        rw [show ctn be (k + 1) = ctn be k + 1 from if_neg q, if_neg (show ¬ ctn be k + 1 = 0 by omega)]
        by_cases w : ctn be k = 0
        · rw [if_pos w]; decide
        · rw [if_neg w]; decide
      rw [if_neg (fun z => q (by have := (zI_eq (by omega) (by omega) (by omega) (by omega)).mp z; omega))]
      simp only [fj_X_tellSeats_60, nm, zI_1, e0]
      exact ⟨_, rfl, nu2, sz2, rfl, by rw [ls]; exact w2⟩
  · rintro z ⟨nu1, sz1, rfl, R⟩
    dsimp only [un4]
    unfold fb_X_tellSeats_14
    rw [if_pos (Int32.le_refl _)]
    exact ⟨_, rfl, nu1, sz1, rfl, R⟩
end OPS39
