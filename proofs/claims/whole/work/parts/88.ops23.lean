/-! AS LOAD FALLS: no force is above its break; sets; set -/
section OPS23
variable {n : Nat} {nv : Nat → Nat → Int} {A B : Int} {F : Nat} {g c y s u pit o now : Nat → Int32}
theorem at_brk (hn : n ≤ 5) (hv : NvOk n nv) (hA : 0 ≤ A ∧ A ≤ 2) (hB : 0 ≤ B ∧ B ≤ 2) {p : Int} (hp : 0 ≤ p ∧ p ≤ 300) (hpk : p * pkU n nv A B < pkO n nv A B) {E : Int} {f d : Nat → Int} (h : SAt n nv A B (la n nv A B p) p 1 E f d) : ∀ i, i < n → f i ≤ nv i 4 * E := by
  have hE : 0 < E := by
    obtain ⟨⟨N, -, hE, -⟩, -⟩ := h
    exact hE
  by_cases hp0 : p = 0
  · obtain ⟨k, hk, h0⟩ := h.2 hp0
    intro i hi
    have v := hv i hi
    rw [(h0 i hi).1]
    exact Int.mul_nonneg (by omega) (by omega)
  obtain ⟨k, hst⟩ := stop_ex hn hv hA hB p
  obtain ⟨q1, q2, q3⟩ := stop_left hn hv hA hB hp.1 hst
  have hz := q2.mpr hpk
  obtain ⟨hG, -⟩ := (gs_ok hn hv hA hB k).2 hz
  obtain ⟨hBO, hu⟩ := hG
  obtain ⟨P', Q', n1, n2, n3, n4, n5, -, -, -, -⟩ := hBO.next hn hv hA hB hu
  have hlt := hst.2.resolve_left hz
  rw [n1] at hlt
  dsimp only at hlt
  have hm : la n nv A B p = (gs n nv A B k).1 := q1
  rw [hm] at h
  clear q1 q2 hm hst hpk
  generalize gs n nv A B k = s at *
  obtain ⟨m, md, P, Q, L⟩ := s
  dsimp only at *
  obtain ⟨bE, bm, bs, bN, bc, b0⟩ := hBO
  obtain ⟨D, fr, fs, dr, ds, sO, sU, hS, hD2, -, -, -, -, -⟩ := nx_ex hn hv hA hB bm.bd bs
  have hD := hS.1
  have hNN := bN D fr fs dr ds hS
  have hQ := bE.1.2.2.1
  have hdue : ∀ j, j < n → 0 < dun md true fr dr j → p * dun md true fr dr j ≤ dov nv md D fs ds j * 1 := by
    intro j hj hd
    have x := (n2.2.2 D fr fs dr ds hS).1 j hj hd
    have hq' := n2.1
    refine Int.le_of_mul_le_mul_right (a := Q') ?_ hq'
    have a1 := Int.mul_le_mul_of_nonneg_right (show p * Q' ≤ P' by omega) (show 0 ≤ dun md true fr dr j by omega)
    have e1 : p * dun md true fr dr j * Q' = p * Q' * dun md true fr dr j := Int.mul_right_comm _ _ _
    rw [e1, Int.mul_one]
    omega
  have htill : Till n nv md D fr fs dr ds p 1 := by
    intro j hj hd
    have e : dun md false fr dr j = dun md true fr dr j := by
      unfold dun at hd ⊢
      by_cases m0 : md j = 0
      · rw [if_pos m0, if_pos m0]
      · rw [if_neg m0, if_neg m0]
        by_cases m1 : md j = 1
        · rw [if_pos m1, if_pos m1]
        · rw [if_neg m0, if_neg m1, if_neg (by simp)] at hd; omega
    rw [e] at hd ⊢
    exact hdue j hj hd
  have hgo := (hNN.go hv hA hB hS hQ (y := 1) (x := p) (by omega) (by omega) htill).1
  have hsat := hgo.sat hv bm hS (by omega) (fun w => absurd w hp0)
  have huq := h.unique hv hA hB hp.1 (by omega) hsat
  intro i hi
  have v := hv i hi
  have e1 := (huq i hi).1
  have hfb : fr i * p + fs i * 1 ≤ nv i 4 * (D * 1) := by
    obtain ⟨z0, z1, z2⟩ := hgo i hi
    have hnn : 0 ≤ nv i 4 * (D * 1) := Int.mul_nonneg (by omega) (by omega)
    by_cases m1 : md i = 1
    · have a := (z1 m1).2
      have b := Int.mul_le_mul_of_nonneg_right (show nv i 2 ≤ nv i 4 by omega) (show 0 ≤ D * 1 by omega)
      omega
    · by_cases m2 : md i = 2
      · have hpos : 0 < dun md true fr dr i := by
          have := Sol.fpos (geo_nv hv hA hB) (fun i hi => (kW_bd (md := md) hv i hi).1) hS i hi ((kW_pos hv hi).mpr (Or.inr m2))
          unfold dun
          rw [if_neg (by omega), if_neg m1, if_pos ⟨m2, rfl⟩]; exact this
        have a := hdue i hi hpos
        unfold dun dov at a
        rw [if_neg (by omega), if_neg m1, if_pos ⟨m2, rfl⟩, if_neg (by omega), if_neg m1] at a
        exact till_iff.mp a
      · have k0 : kW nv md i = 0 := by unfold kW; rw [if_neg m1, if_neg m2]
        obtain ⟨f0, f1⟩ := hS.2.1 i hi k0
        rw [f0, f1]
        omega
  refine Int.le_of_mul_le_mul_right (a := D * 1) ?_ (by omega)
  rw [← e1]
  have b := Int.mul_le_mul_of_nonneg_right hfb (show 0 ≤ E by omega)
  have e2 : nv i 4 * (D * 1) * E = nv i 4 * E * (D * 1) := Int.mul_right_comm _ _ _
  omega
/-- to what a bolt is set, in parts of D -/
def sst (nv : Nat → Nat → Int) (D : Int) (f : Nat → Int) (i : Nat) : Int := nv i 1 * D + (if nv i 2 * D < f i then (nv i 3 - nv i 0) * (f i - nv i 2 * D) else 0)
theorem sst_sc {D D' : Int} {f f' : Nat → Int} (hD : 0 < D) (hD' : 0 < D') {i : Nat} (e : f' i * D = f i * D') : sst nv D' f' i * D = sst nv D f i * D' := by
  have q := sc_le1 (t := nv i 2) hD hD' e
  unfold sst
  by_cases w : nv i 2 * D < f i
  · rw [if_pos w, if_pos (by omega), Int.add_mul, Int.add_mul, Int.mul_assoc (nv i 3 - nv i 0), Int.mul_assoc (nv i 3 - nv i 0), Int.sub_mul (f' i), Int.sub_mul (f i), e]
    congr 1
    · ac_rfl
    · congr 2
      ac_rfl
  · rw [if_neg w, if_neg (by omega), Int.add_zero, Int.add_zero]
    ac_rfl
theorem sst_bd (hv : NvOk n nv) {D : Int} (hD : 0 < D ∧ D ≤ 299269) {f : Nat → Int} {i : Nat} (hi : i < n) (h : f i ≤ nv i 4 * D) : 0 ≤ sst nv D f i ∧ sst nv D f i ≤ 150000000 := by
  have v := hv i hi
  have a := mul_bd (show 0 ≤ nv i 1 by omega) (show 0 ≤ D by omega) (show nv i 1 ≤ 9 by omega) hD.2
  have b := mul_bd (show 0 ≤ nv i 2 by omega) (show 0 ≤ D by omega) (show nv i 2 ≤ 30 by omega) hD.2
  have c := mul_bd (show 0 ≤ nv i 4 by omega) (show 0 ≤ D by omega) (show nv i 4 ≤ 60 by omega) hD.2
  unfold sst
  by_cases w : nv i 2 * D < f i
  · rw [if_pos w]
    have e := mul_bd (show 0 ≤ nv i 3 - nv i 0 by omega) (show 0 ≤ f i - nv i 2 * D by omega) (show nv i 3 - nv i 0 ≤ 8 by omega) (show f i - nv i 2 * D ≤ 60 * 299269 by omega)
    omega
  · rw [if_neg w]
    omega
theorem startFrom_z (hn : n ≤ 5) (hF : 10 < F) (hv : NvOk n nv) (J : JOk n nv g c y s u pit) {p : Int} (hp : 0 ≤ p ∧ p ≤ 300) {D : Int} {f d : Nat → Int} {lu : Int64} {fr fs dr ds : Nat → Int64} (FA : FAt n p D f d lu fr fs dr ds) (x : Int32) (se : Nat → Int64) (ut : Int64) (fo : Nat → Int64) (lf : Int32) :
    ∃ se' fo' : Nat → Int64, f_F_startFrom F x (zI p) se ut fo lf fr fs lu g c y s (zI (n : Int)) = some (se', zL D, fo', x) ∧ ∀ i, i < n → se' i = zL (sst nv D f i) ∧ fo' i = zL (f i) := by
  obtain ⟨a1, a2, a3, a4⟩ := FA
  have loop := iter_for (body := un3 (fb_F_startFrom_21 (zI p) (zL D) fr fs g c y s (zI (n : Int)))) (F := F) (s := ((0 : Int32), se, fo))
    (fun j z => ∃ se' fo' : Nat → Int64, z = (zI (j : Int), se', fo') ∧ ∀ i, i < j → se' i = zL (sst nv D f i) ∧ fo' i = zL (f i))
    (fun z => ∃ se' fo' : Nat → Int64, z = (se', fo') ∧ ∀ i, i < n → se' i = zL (sst nv D f i) ∧ fo' i = zL (f i)) n (by omega) ⟨se, fo, rfl, fun i hi => absurd hi (Nat.not_lt_zero i)⟩ ?_ ?_
  · obtain ⟨z, e, se', fo', rfl, h⟩ := loop
    refine ⟨se', fo', ?_, h⟩
    unfold f_F_startFrom
    rw [a1, e]
    rfl
  · rintro j z hj ⟨se', fo', rfl, h⟩
    have v := hv j hj
    obtain ⟨f1, f2, f3, f4⟩ := a4 j hj
    have f1 : f_L_forceAt (zI (j : Int)) (zL p) (1 : Int64) fr fs = some (zL (f j)) := f1
    have q1 := mul_bd (show 0 ≤ D by omega) hp.1 a3 hp.2
    have q2 := mul_bd (show 0 ≤ nv j 2 by omega) (show 0 ≤ D by omega) (show nv j 2 ≤ 30 by omega) a3
    have e4 : zL (f j) - (Int32.toInt64 (zI (nv j 2))) * zL D = zL (f j - nv j 2 * D) := by rw [zI_l (a := nv j 2) (by omega) (by omega), zL_mul, zL_sub]
    have e5 : (Int32.toInt64 (zI (nv j 1))) * zL D = zL (nv j 1 * D) := by rw [zI_l (a := nv j 1) (by omega) (by omega), zL_mul]
    dsimp only [un3]
    unfold fb_F_startFrom_21
    rw [if_neg (by rw [zI_le (by omega) (by omega) (by omega) (by omega)]; omega), zI_l (a := p) (by omega) (by omega), f1, Option.bind_some, stL_z (f := fo') (j := j) (by omega) (by omega), Option.bind_some, ldA_z (f := vp_updL fo' j (zL (f j))) (j := j) (by omega) (by omega), Option.bind_some, updL_at, if_pos rfl, ldA_z (f := y) (j := j) (by omega) (by omega), Option.bind_some, J.2.2.1 j hj, e4]
    simp only [nm]
    rw [ldA_z (f := c) (j := j) (by omega) (by omega), Option.bind_some, J.2.1 j hj, e5, stL_z (f := se') (j := j) (by omega) (by omega), Option.bind_some]
    by_cases w : nv j 2 * D < f j
    · have e6 : zI (nv j 3) - zI (nv j 0) = zI (nv j 3 - nv j 0) := zI_sub _ _
      rw [if_neg (show ¬ zL (f j - nv j 2 * D) ≤ (0 : Int64) from fun z => absurd ((zL_le (a := f j - nv j 2 * D) (b := 0) (by omega) (by omega) (by omega) (by omega)).mp z) (by omega)), ldA_z (f := vp_updL se' j (zL (nv j 1 * D))) (j := j) (by omega) (by omega), Option.bind_some, updL_at, if_pos rfl, ldA_z (f := s) (j := j) (by omega) (by omega), Option.bind_some, ldA_z (f := g) (j := j) (by omega) (by omega), Option.bind_some, J.2.2.2.1 j hj, J.1 j hj, e6, zI_l (a := nv j 3 - nv j 0) (by omega) (by omega), zL_mul, zL_add, stL_z (j := j) (by omega) (by omega), Option.bind_some]
      simp only [fj_F_startFrom_136, nm, zI_1]
      refine ⟨_, rfl, _, _, rfl, fun i hi => ?_⟩
      rw [updL_at, updL_at, updL_at]
      by_cases x : i = j
      · rw [if_pos x, if_pos x, x]
        refine ⟨?_, rfl⟩
        unfold sst
        rw [if_pos w]
      · rw [if_neg x, if_neg x, if_neg x]; exact h i (by omega)
    · rw [if_pos (show zL (f j - nv j 2 * D) ≤ (0 : Int64) from (zL_le (a := f j - nv j 2 * D) (b := 0) (by omega) (by omega) (by omega) (by omega)).mpr (by omega))]
      simp only [fj_F_startFrom_136, nm, zI_1]
      refine ⟨_, rfl, _, _, rfl, fun i hi => ?_⟩
      rw [updL_at, updL_at]
      by_cases x : i = j
      · rw [if_pos x, if_pos x, x]
        refine ⟨?_, rfl⟩
        unfold sst
        rw [if_neg w, Int.add_zero]
      · rw [if_neg x, if_neg x]; exact h i (by omega)
  · rintro z ⟨se', fo', rfl, h⟩
    dsimp only [un3]
    unfold fb_F_startFrom_21
    rw [if_pos (Int32.le_refl _)]
    exact ⟨_, rfl, se', fo', rfl, h⟩
theorem laySets_z (hn : n ≤ 5) (hF : 10 < F) (hv : NvOk n nv) (h : ∀ i, i < n → ∀ q, q < 7 → now (7 * i + q) = zI (nv i q)) {p : Int} (hp : 0 ≤ p ∧ p ≤ 300) {D : Int} {f d : Nat → Int} {uu : Int64} {sl mb ss sb : Nat → Int64} {lO lU : Int64} (FM : FMt n p D f d uu sl mb ss sb lO lU) (so : Nat → Int64) (mun : Int64) :
    ∃ so' : Nat → Int64, f_M_laySets F now (zI (n : Int)) uu sl mb lO lU so mun = some (so', zL D) ∧ ∀ i, i < n → so' i = zL (sst nv D f i) := by
  obtain ⟨a1, a2, a3, a4⟩ := FM
  have loop := iter_for (body := un2 (fb_M_laySets_10 now (zI (n : Int)) sl mb lO lU (zL D))) (F := F) (s := ((0 : Int32), so))
    (fun j z => ∃ se' : Nat → Int64, z = (zI (j : Int), se') ∧ ∀ i, i < j → se' i = zL (sst nv D f i))
    (fun z => ∀ i, i < n → z i = zL (sst nv D f i)) n (by omega) ⟨so, rfl, fun i hi => absurd hi (Nat.not_lt_zero i)⟩ ?_ ?_
  · obtain ⟨z, e, h⟩ := loop
    refine ⟨z, ?_, h⟩
    unfold f_M_laySets
    rw [a1, Option.bind_some, e, Option.bind_some]
  · rintro j z hj ⟨se', rfl, hs⟩
    have v := hv j hj
    obtain ⟨f1, f2, f3, f4⟩ := a4 j hj
    have q1 := mul_bd (show 0 ≤ D by omega) hp.1 a3 hp.2
    have q2 := mul_bd (show 0 ≤ nv j 2 by omega) (show 0 ≤ D by omega) (show nv j 2 ≤ 30 by omega) a3
    have o0 : f_M_of (zI (j : Int)) (0 : Int32) now = some (zI (nv j 0)) := of_z hn h (i := j) (q := 0) hj (by omega)
    have o1 : f_M_of (zI (j : Int)) (1 : Int32) now = some (zI (nv j 1)) := of_z hn h (i := j) (q := 1) hj (by omega)
    have o2 : f_M_of (zI (j : Int)) (2 : Int32) now = some (zI (nv j 2)) := of_z hn h (i := j) (q := 2) hj (by omega)
    have o3 : f_M_of (zI (j : Int)) (3 : Int32) now = some (zI (nv j 3)) := of_z hn h (i := j) (q := 3) hj (by omega)
    have e4 : zL (f j) - (Int32.toInt64 (zI (nv j 2))) * zL D = zL (f j - nv j 2 * D) := by rw [zI_l (a := nv j 2) (by omega) (by omega), zL_mul, zL_sub]
    have e5 : (Int32.toInt64 (zI (nv j 1))) * zL D = zL (nv j 1 * D) := by rw [zI_l (a := nv j 1) (by omega) (by omega), zL_mul]
    have e6 : zI (nv j 3) - zI (nv j 0) = zI (nv j 3 - nv j 0) := zI_sub _ _
    have fin : ∀ a : Int, zL (nv j 1 * D) + zL a = zL (sst nv D f j) → ∃ s', fj_M_laySets_80 (zI (j : Int)) (zI (j : Int)) (zL (nv j 1 * D)) (zL a) se' = some (.inl s') ∧ ∃ se' : Nat → Int64, s' = (zI ((j + 1 : Nat) : Int), se') ∧ ∀ i, i < j + 1 → se' i = zL (sst nv D f i) := by
      intro a ha
      unfold fj_M_laySets_80
      rw [ha, stL_z (f := se') (j := j) (by omega) (by omega), Option.bind_some]
      simp only [nm, zI_1]
      refine ⟨_, rfl, _, rfl, fun i hi => ?_⟩
      rw [updL_at]
      by_cases x : i = j
      · rw [if_pos x, x]
      · rw [if_neg x]; exact hs i (by omega)
    dsimp only [un2]
    unfold fb_M_laySets_10
    rw [if_neg (by rw [zI_le (by omega) (by omega) (by omega) (by omega)]; omega), f1, Option.bind_some, o2, Option.bind_some, e4]
    simp only [nm]
    rw [o1, Option.bind_some, e5]
    by_cases w : nv j 2 * D < f j
    · rw [if_neg (show ¬ zL (f j - nv j 2 * D) ≤ (0 : Int64) from fun z => absurd ((zL_le (a := f j - nv j 2 * D) (b := 0) (by omega) (by omega) (by omega) (by omega)).mp z) (by omega)), o3, Option.bind_some, o0, Option.bind_some, e6, zI_l (a := nv j 3 - nv j 0) (by omega) (by omega), zL_mul]
      refine fin _ ?_
      rw [zL_add]
      unfold sst
      rw [if_pos w]
    · rw [if_pos (show zL (f j - nv j 2 * D) ≤ (0 : Int64) from (zL_le (a := f j - nv j 2 * D) (b := 0) (by omega) (by omega) (by omega) (by omega)).mpr (by omega))]
      refine fin 0 ?_
      rw [zL_add]
      unfold sst
      rw [if_neg w]
  · rintro z ⟨se', rfl, h⟩
    dsimp only [un2]
    unfold fb_M_laySets_10
    rw [if_pos (Int32.le_refl _)]
    exact ⟨_, rfl, h⟩
theorem isLiveM_z {m : Nat} {md : Nat → Int} {mo : Nat → Int32} (hn : n ≤ 5) (hm : Mds n nv m md) (hmo : ∀ i, i < n → mo i = zI (m3 md i)) {i : Nat} (hi : i < n) : f_M_isLive (zI (i : Int)) mo = some (if m.testBit i = true then 1 else 0) := by
  have hb := hm.bd i hi
  unfold f_M_isLive
  rw [ldA_z (f := mo) (j := i) (by omega) (by omega), Option.bind_some, hmo i hi]
  by_cases q : m.testBit i = true
  · have := hm.1 i hi q
    rw [show m3 md i = md i from if_pos (by omega), if_neg (show ¬ zI (md i) = (3 : Int32) from fun z => absurd ((zI_eq (a := md i) (b := 3) (by omega) (by omega) (by omega) (by omega)).mp z) (by omega)), if_pos q]
  · have q' : m.testBit i = false := by simpa using q
    have := hm.2 i hi q'
    have h3 : ¬ md i ≤ 2 := by
      by_cases w : nv i 5 = 0
      · rw [if_pos w] at this; omega
      · rw [if_neg w] at this; omega
    unfold m3
    rw [if_neg h3, if_pos (show zI 3 = (3 : Int32) from rfl), if_neg q]
theorem op_set (hJt : Jt n nv A B) (hF : 300 < F) {bn ju jl many mu ml : Int32} (J : JX n nv A B g c y s u o pit bn ju jl) (X : MX n nv A B now many mu ml) (x1 x2 : Int32) (way0 wb0 : Nat → Int32) (kn0 tot0 : Int32) (kd0 wh0 : Nat → Int32) (ov0 un0 : Nat → Int64) (eO0 eU0 : Int64) (dO0 dU0 : Nat → Int64) (sO0 sU0 : Int64) (st0 : Nat → Int32) (re0 fr0 fs0 dr0 ds0 : Nat → Int64) (lu0 : Int64) (bf0 bl0 ba0 sc0 : Nat → Int64) (fR0 fS0 : Int64) (hK : KnG n nv A B kn0 tot0 kd0 wh0 ov0 un0 eO0 eU0) (mo0 : Nat → Int32) (uu0 : Int64) (sl0 mb0 ss0 sb0 of0 : Nat → Int64) (be0 : Nat → Int32) (bs0 : Int32) (ma0 : Nat → Int64) (lO0 lU0 : Int64) (mt0 : Int32) (mk0 mw0 : Nat → Int32) (mv0 mn0 : Nat → Int64) (ha0 : Nat → Int32) (nO0 nU0 : Int64) (me0 fe0 : Nat → Int32) (aO0 aU0 bO0 bU0 : Nat → Int64) (hf : ∀ i, i < 5 → fe0 i = 0) (se : Nat → Int64) (ut : Int64) (fo : Nat → Int64) (lf : Int32) (so : Nat → Int64) (mun : Int64) (nu : Nat → Int64) (sz : Int32) (row : Nat → Int64) (rm th : Int32) (hR : RowEq nu sz row rm) :
    ∃ (r : Int32) (way1 wb1 : Nat → Int32) (kn1 tot1 : Int32) (kd1 wh1 : Nat → Int32) (ov1 un1 : Nat → Int64) (eO1 eU1 : Int64) (dO1 dU1 : Nat → Int64) (sO1 sU1 : Int64) (st1 : Nat → Int32) (re1 fr1 fs1 dr1 ds1 : Nat → Int64) (lu1 : Int64) (bf1 bl1 ba1 sc1 : Nat → Int64) (fR1 fS1 : Int64) (se1 : Nat → Int64) (ut1 : Int64) (fo1 : Nat → Int64) (lf1 : Int32) (nu1 : Nat → Int64) (sz1 : Int32) (mo1 : Nat → Int32) (uu1 : Int64) (sl1 mb1 ss1 sb1 of1 : Nat → Int64) (be1 : Nat → Int32) (bs1 : Int32) (ma1 : Nat → Int64) (lO1 lU1 : Int64) (mt1 : Int32) (mk1 mw1 : Nat → Int32) (mv1 mn1 : Nat → Int64) (ha1 : Nat → Int32) (nO1 nU1 : Int64) (me1 fe1 : Nat → Int32) (aO1 aU1 bO1 bU1 : Nat → Int64) (so1 : Nat → Int64) (mun1 : Int64) (row1 : Nat → Int64) (rm1 : Int32), f_X_set F x1 x2 se ut fo lf way0 wb0 kn0 tot0 kd0 wh0 ov0 un0 eO0 eU0 dO0 dU0 sO0 sU0 st0 re0 fr0 fs0 dr0 ds0 lu0 bf0 bl0 ba0 sc0 fR0 fS0 g c y s u o pit bn ju jl nu sz = some (r, se1, ut1, fo1, lf1, way1, wb1, kn1, tot1, kd1, wh1, ov1, un1, eO1, eU1, dO1, dU1, sO1, sU1, st1, re1, fr1, fs1, dr1, ds1, lu1, bf1, bl1, ba1, sc1, fR1, fS1, nu1, sz1) ∧ f_M_set F x1 x2 now many mu ml row rm th mo0 uu0 sl0 mb0 ss0 sb0 of0 be0 bs0 ma0 lO0 lU0 mt0 mk0 mw0 mv0 mn0 ha0 nO0 nU0 me0 fe0 aO0 aU0 bO0 bU0 so mun = some (r, row1, rm1, (0 : Int32), mo1, uu1, sl1, mb1, ss1, sb1, of1, be1, bs1, ma1, lO1, lU1, mt1, mk1, mw1, mv1, mn1, ha1, nO1, nU1, me1, fe1, aO1, aU1, bO1, bU1, so1, mun1) ∧
      KnG n nv A B kn1 tot1 kd1 wh1 ov1 un1 eO1 eU1 ∧ (∀ i, i < 5 → fe1 i = 0) ∧ RowEq nu1 sz1 row1 rm1 := by
  obtain ⟨p, rfl, hp1, hp2⟩ := zI_all x1
  obtain ⟨i, rfl, hi1, hi2⟩ := zI_all x2
  have hJt' := hJt
  obtain ⟨hn, hv, hA, hB⟩ := hJt'
  obtain ⟨J1, ho, rfl, rfl, rfl⟩ := J
  obtain ⟨h, rfl, rfl, rfl⟩ := X
  obtain ⟨r, way1, wb1, kn1, tot1, kd1, wh1, ov1, un1, eO1, eU1, dO1, dU1, sO1, sU1, st1, re1, fr1, fs1, dr1, ds1, lu1, bf1, bl1, ba1, sc1, fR1, fS1, e, hK1, hc⟩ := both_come hJt hF ⟨J1, ho, rfl, rfl, rfl⟩ ⟨h, rfl, rfl, rfl⟩ (p := p) ⟨hp1, hp2⟩ (0 ≤ i ∧ i < n) way0 wb0 kn0 tot0 kd0 wh0 ov0 un0 eO0 eU0 dO0 dU0 sO0 sU0 st0 re0 fr0 fs0 dr0 ds0 lu0 bf0 bl0 ba0 sc0 fR0 fS0 hK mo0 uu0 sl0 mb0 ss0 sb0 of0 be0 bs0 ma0 lO0 lU0 mt0 mk0 mw0 mv0 mn0 ha0 nO0 nU0 me0 fe0 aO0 aU0 bO0 bU0 hf
  unfold f_X_set f_M_set
  rw [has_z hn ⟨hi1, hi2⟩, Option.bind_some, isBolt_z hn ⟨hi1, hi2⟩, Option.bind_some, e]
  simp only [bd28, Option.bind_some]
  rcases hc with ⟨hr, hno⟩ | ⟨hyes, hkn, hEv, heO, heU, r', mo1, uu1, sl1, mb1, ss1, sb1, of1, be1, bs1, ma1, lO1, lU1, mt1, mk1, mw1, mv1, mn1, ha1, nO1, nU1, me1, fe1, aO1, aU1, bO1, bU1, em, hf1, hc⟩
  · rw [hr, if_neg (by decide)]
    refine ⟨_, way1, wb1, kn1, tot1, kd1, wh1, ov1, un1, eO1, eU1, dO1, dU1, sO1, sU1, st1, re1, fr1, fs1, dr1, ds1, lu1, bf1, bl1, ba1, sc1, fR1, fS1, se, ut, fo, lf, nu, sz, mo0, uu0, sl0, mb0, ss0, sb0, of0, be0, bs0, ma0, lO0, lU0, mt0, mk0, mw0, mv0, mn0, ha0, nO0, nU0, me0, fe0, aO0, aU0, bO0, bU0, so, mun, row, rm, rfl, ?_, hK1, hf, hR⟩
    by_cases w : 0 ≤ i ∧ i < n
    · rw [if_neg (fun z => (b01_ne0.mp z) w), misLoad_z ⟨hp1, hp2⟩, Option.bind_some, if_pos (b01_ne0.mpr (fun z => hno ⟨z.1, z.2, w⟩))]; rfl
    · rw [if_pos (b01_ne0.mpr w)]; rfl
  · rw [if_neg (fun z => (b01_ne0.mp z) hyes.2.2), misLoad_z ⟨hp1, hp2⟩, Option.bind_some, if_neg (fun z => (b01_ne0.mp z) ⟨hyes.1, hyes.2.1⟩), em]
    simp only [bd27, Option.bind_some]
    rcases hc with ⟨hr, hr', hpk, hla, hall⟩ | ⟨hr, hr', hpk, hlO, hlU, D, f, d, D', f', d', md', FA, FM, hsc, hsat, hsat', hmds, hmo, hcl, hml⟩
    · rw [hr, hr', if_neg (by decide), if_pos rfl]
      exact ⟨_, way1, wb1, kn1, tot1, kd1, wh1, ov1, un1, eO1, eU1, dO1, dU1, sO1, sU1, st1, re1, fr1, fs1, dr1, ds1, lu1, bf1, bl1, ba1, sc1, fR1, fS1, se, ut, fo, lf, nu, sz, mo1, uu1, sl1, mb1, ss1, sb1, of1, be1, bs1, ma1, lO1, lU1, mt1, mk1, mw1, mv1, mn1, ha1, nO1, nU1, me1, fe1, aO1, aU1, bO1, bU1, so, mun, row, rm, rfl, rfl, hK1, hf1, hR⟩
    · obtain ⟨a, ha⟩ : ∃ a : Nat, i = (a : Int) := ⟨i.toNat, by omega⟩
      subst ha
      have hin : a < n := by omega
      have hEO := (gs_ok (n := n) (nv := nv) (A := A) (B := B) hn hv hA hB 15).1
      have hla := leftAfter_z (F := F) hn (by omega) hv ho hEO hEv ⟨hyes.1, hyes.2.1⟩
      have hla : f_G_leftAfter F (zI p) tot1 kd1 wh1 ov1 un1 o (zI (n : Int)) = some (zI (la n nv A B p : Int)) := hla
      obtain ⟨lb1, lb2, lb3⟩ := la_ok hn hv hA hB (A := A) (B := B) hyes.1
      have hbit := bit_no _ lb2 a (by omega)
      have hlive := isLiveM_z hn hmds hmo hin
      have hbk := at_brk hn hv hA hB ⟨hyes.1, hyes.2.1⟩ hpk hsat
      have hbk' := at_brk hn hv hA hB ⟨hyes.1, hyes.2.1⟩ hpk hsat'
      rw [hr, hr', if_pos (show (0 : Int32) ≤ zI 0 by decide), if_neg (show ¬ (1 : Int32) = 0 by decide), hla, Option.bind_some, hlive, Option.bind_some]
      by_cases t : (la n nv A B p).testBit a = true
      · have tf : ¬ (la n nv A B p).testBit a = false := by rw [t]; decide
        obtain ⟨se1, fo1, es, hs⟩ := startFrom_z (F := F) hn (by omega) hv J1 ⟨hyes.1, hyes.2.1⟩ FA (zI (la n nv A B p : Int)) se ut fo lf
        obtain ⟨so1, em1, hm1⟩ := laySets_z (F := F) hn (by omega) hv h ⟨hyes.1, hyes.2.1⟩ FM so mun
        obtain ⟨a1, a2, a3, a4⟩ := FA
        obtain ⟨b1, b2, b3, b4⟩ := FM
        have c1 := sst_bd hv ⟨a2, a3⟩ hin (hbk a hin)
        have c2 := sst_bd hv ⟨b2, b3⟩ hin (hbk' a hin)
        obtain ⟨nu1, sz1, e1, R1⟩ := fraction_z (F := F) (by omega) (RowC.nil nu) (by show 0 + 2 ≤ 8; omega) (o := sst nv D f a) (u := D) (by omega) (by omega) a2 (by omega)
        obtain ⟨row1, rm1, e2, R2⟩ := tellFraction_z (F := F) (by omega) (RowC.nil row) (by show 0 + 2 ≤ 64; omega) (o := sst nv D' f' a) (u := D') (by omega) (by omega) b2 (by omega)
        rw [if_neg (fun z => tf (hbit.mp z)), if_pos t, if_neg (show ¬ (1 : Int32) = 0 by decide), es, em1]
        simp only [bd4, bd2, Option.bind_some]
        rw [ldA_z (f := se1) (j := a) (by omega) (by omega), ldA_z (f := so1) (j := a) (by omega) (by omega), Option.bind_some, Option.bind_some, (hs a hin).1, hm1 a hin, e1, e2]
        simp only [Option.bind_some]
        refine ⟨_, way1, wb1, kn1, tot1, kd1, wh1, ov1, un1, eO1, eU1, dO1, dU1, sO1, sU1, st1, re1, fr1, fs1, dr1, ds1, lu1, bf1, bl1, ba1, sc1, fR1, fS1, se1, zL D, fo1, zI (la n nv A B p : Int), nu1, sz1, mo1, uu1, sl1, mb1, ss1, sb1, of1, be1, bs1, ma1, lO1, lU1, mt1, mk1, mw1, mv1, mn1, ha1, nO1, nU1, me1, fe1, aO1, aU1, bO1, bU1, so1, zL D', row1, rm1, rfl, rfl, hK1, hf1, [] ++ fra (sst nv D f a) D, by show 2 ≤ 8; omega, R1, ?_⟩
        rw [fra_eq a2 b2 (sst_sc a2 b2 (hsc a hin).1)]
        exact R2
      · have tf : (la n nv A B p).testBit a = false := by simpa using t
        rw [if_pos (hbit.mpr tf), if_neg t, if_pos rfl]
        exact ⟨_, way1, wb1, kn1, tot1, kd1, wh1, ov1, un1, eO1, eU1, dO1, dU1, sO1, sU1, st1, re1, fr1, fs1, dr1, ds1, lu1, bf1, bl1, ba1, sc1, fR1, fS1, se, ut, fo, lf, nu, sz, mo1, uu1, sl1, mb1, ss1, sb1, of1, be1, bs1, ma1, lO1, lU1, mt1, mk1, mw1, mv1, mn1, ha1, nO1, nU1, me1, fe1, aO1, aU1, bO1, bU1, so, mun, row, rm, rfl, rfl, hK1, hf1, hR⟩
end OPS23
