/-! WHAT WOULD BE: tunes -/
section OPS35
variable {n : Nat} {nv : Nat → Nat → Int} {A B : Int} {F : Nat} {g c y s u pit o now : Nat → Int32} {cl : Nat → Int}
theorem layAside_z (hF : 40 < F) (now as0 : Nat → Int32) : ∃ as1, f_M_layAside F now as0 = some as1 ∧ ∀ k, k < 35 → as1 k = now k := by
  have loop := iter_for (body := un2 (fb_M_layAside_2 now)) (F := F) (s := ((0 : Int32), as0)) (fun k z => ∃ t : Nat → Int32, z = (zI (k : Int), t) ∧ ∀ i, i < k → t i = now i) (fun t => ∀ i, i < 35 → t i = now i) 35 (by omega) ⟨as0, rfl, fun i hi => absurd hi (Nat.not_lt_zero i)⟩ ?_ ?_
  · obtain ⟨t, e, ht⟩ := loop
    refine ⟨t, ?_, ht⟩
    unfold f_M_layAside
    rw [e, Option.bind_some]
  · rintro k z hk ⟨t, rfl, ht⟩
    dsimp only [un2]
    unfold fb_M_layAside_2
    rw [if_neg (show ¬ (35 : Int32) ≤ zI (k : Int) from fun w => absurd ((zI_le (a := 35) (b := (k : Int)) (by omega) (by omega) (by omega) (by omega)).mp w) (by omega)), ldA_z (f := now) (j := k) (by omega) (by omega), Option.bind_some, stI_z (f := t) (j := k) (by omega) (by omega), Option.bind_some]
    simp only [nm, zI_1]
    refine ⟨_, rfl, _, rfl, fun i hi => ?_⟩
    rw [upd_at]
    by_cases x : i = k
    · rw [if_pos x, x]
    · rw [if_neg x]; exact ht i (by omega)
  · rintro z ⟨t, rfl, ht⟩
    dsimp only [un2]
    unfold fb_M_layAside_2
    rw [if_pos (show (35 : Int32) ≤ zI ((35 : Nat) : Int) by decide)]
    exact ⟨_, rfl, ht⟩
theorem comesBack_z (hF : 40 < F) (now as0 : Nat → Int32) : ∃ now1, f_M_comesBack F now as0 = some now1 ∧ ∀ k, k < 35 → now1 k = as0 k := by
  have loop := iter_for (body := un2 (fb_M_comesBack_2 as0)) (F := F) (s := ((0 : Int32), now)) (fun k z => ∃ t : Nat → Int32, z = (zI (k : Int), t) ∧ ∀ i, i < k → t i = as0 i) (fun t => ∀ i, i < 35 → t i = as0 i) 35 (by omega) ⟨now, rfl, fun i hi => absurd hi (Nat.not_lt_zero i)⟩ ?_ ?_
  · obtain ⟨t, e, ht⟩ := loop
    refine ⟨t, ?_, ht⟩
    unfold f_M_comesBack
    rw [e, Option.bind_some]
  · rintro k z hk ⟨t, rfl, ht⟩
    dsimp only [un2]
    unfold fb_M_comesBack_2
    rw [if_neg (show ¬ (35 : Int32) ≤ zI (k : Int) from fun w => absurd ((zI_le (a := 35) (b := (k : Int)) (by omega) (by omega) (by omega) (by omega)).mp w) (by omega)), ldA_z (f := as0) (j := k) (by omega) (by omega), Option.bind_some, stI_z (f := t) (j := k) (by omega) (by omega), Option.bind_some]
    simp only [nm, zI_1]
    refine ⟨_, rfl, _, rfl, fun i hi => ?_⟩
    rw [upd_at]
    by_cases x : i = k
    · rw [if_pos x, x]
    · rw [if_neg x]; exact ht i (by omega)
  · rintro z ⟨t, rfl, ht⟩
    dsimp only [un2]
    unfold fb_M_comesBack_2
    rw [if_pos (show (35 : Int32) ≤ zI ((35 : Nat) : Int) by decide)]
    exact ⟨_, rfl, ht⟩
/-- other clears -/
def nvC (nv : Nat → Nat → Int) (cl : Nat → Int) : Nat → Nat → Int := fun i q => if q = 1 then cl i else nv i q
theorem nvC_old {i q : Nat} (h : q ≠ 1) : nvC nv cl i q = nv i q := if_neg h
theorem nvC_new {i : Nat} : nvC nv cl i 1 = cl i := if_pos rfl
theorem nvC_ok (hv : NvOk n nv) (hc : ∀ i, i < n → 0 ≤ cl i ∧ cl i ≤ 9) : NvOk n (nvC nv cl) := by
  intro i hi
  have w := hv i hi
  have c := hc i hi
  rw [nvC_old (q := 0) (by omega), nvC_new, nvC_old (q := 2) (by omega), nvC_old (q := 3) (by omega), nvC_old (q := 4) (by omega), nvC_old (q := 5) (by omega), nvC_old (q := 6) (by omega)]
  omega
theorem nvC_J {bn ju jl : Int32} (J : JX n nv A B g c y s u o pit bn ju jl) {c' : Nat → Int32} (hc : ∀ i, i < n → c' i = zI (cl i)) : JX n (nvC nv cl) A B g c' y s u o pit bn ju jl := by
  obtain ⟨⟨j1, j2, j3, j4, j5, j6⟩, j7, j8, j9, j10⟩ := J
  exact ⟨⟨j1, hc, j3, j4, j5, j6⟩, j7, j8, j9, j10⟩
theorem nvC_M {many mu ml : Int32} (hm : many = zI (n : Int)) (h2 : mu = zI A) (h3 : ml = zI B) {now' : Nat → Int32} (h : ∀ i, i < n → ∀ q, q < 7 → q ≠ 1 → now' (7 * i + q) = zI (nv i q)) (h1 : ∀ i, i < n → now' (7 * i + 1) = zI (cl i)) : MX n (nvC nv cl) A B now' many mu ml := by
  refine ⟨fun i hi q hq => ?_, hm, h2, h3⟩
  by_cases z : q = 1
  · rw [z, nvC_new]; exact h1 i hi
  · rw [nvC_old z]; exact h i hi q hq z
/-- the greatest load so far: the class's, the model's -/
def Tr (k : Nat) (cb : Int32) (co cu : Int64) (mb : Int32) (bo bu : Int64) : Prop :=
  (k = 0 ∧ co = zL (-1) ∧ cu = zL 1 ∧ bu = 0) ∨ (0 < k ∧ ∃ O U : Int, mb = cb ∧ co = zL O ∧ bo = zL O ∧ cu = zL U ∧ bu = zL U ∧ (0 ≤ O ∧ O ≤ 400 * 299269) ∧ (0 < U ∧ U ≤ 25 * 299269))
theorem Tr.step {k : Nat} {cb : Int32} {co cu : Int64} {mb : Int32} {bo bu : Int64} (h : Tr k cb co cu mb bo bu) {P Q : Int} (h1 : 0 ≤ P ∧ P ≤ 400 * 299269) (h2 : 0 < Q ∧ Q ≤ 25 * 299269) (x : Int32) :
    ∃ (r rm : Int32) (bo' bu' : Int64), f_G_comparePeak co cu (zL P) (zL Q) = some r ∧ f_M_isGreatest (zL P) (zL Q) bo bu = some (rm, bo', bu') ∧ ((r ≤ 0 ∧ rm = 0 ∧ Tr (k + 1) cb co cu mb bo' bu') ∨ (¬ r ≤ 0 ∧ ¬ rm = 0 ∧ Tr (k + 1) x (zL P) (zL Q) x bo' bu')) := by
  rcases h with ⟨-, rfl, rfl, rfl⟩ | ⟨hk, O, U, rfl, rfl, rfl, rfl, rfl, hO, hU⟩
  · refine ⟨_, _, _, _, cpk_z h1 h2 (by omega) (by omega), by unfold f_M_isGreatest fj_M_isGreatest_26; rw [if_pos rfl], Or.inr ⟨?_, by decide, Or.inr ⟨by omega, P, Q, rfl, rfl, rfl, rfl, rfl, h1, h2⟩⟩⟩
    unfold cmpL
    rw [if_pos (by omega)]
    decide
  · have hne : ¬ zL U = (0 : Int64) := fun z => absurd ((zL_eq (a := U) (b := 0) (by omega) (by omega) (by omega) (by omega)).mp z) (by omega)
    have ea := against_z h1 h2 (show -1 ≤ O ∧ O ≤ 400 * 299269 by omega) hU
    have b := cmpL_bd P Q O U
    by_cases q : 0 < cmpL P Q O U
    · have hp : (0 : Int32) < zI (cmpL P Q O U) := (zI_lt (a := 0) (b := cmpL P Q O U) (by omega) (by omega) (by omega) (by omega)).mpr q
      refine ⟨_, _, _, _, cpk_z h1 h2 (by omega) hU, by unfold f_M_isGreatest fj_M_isGreatest_26; rw [if_neg hne, ea, Option.bind_some, if_pos hp], Or.inr ⟨fun z => absurd ((zI_le (a := cmpL P Q O U) (b := 0) (by omega) (by omega) (by omega) (by omega)).mp z) (by omega), by decide, Or.inr ⟨by omega, P, Q, rfl, rfl, rfl, rfl, rfl, h1, h2⟩⟩⟩
    · have hp : ¬ (0 : Int32) < zI (cmpL P Q O U) := fun z => q ((zI_lt (a := 0) (b := cmpL P Q O U) (by omega) (by omega) (by omega) (by omega)).mp z)
      refine ⟨_, _, _, _, cpk_z h1 h2 (by omega) hU, by unfold f_M_isGreatest; rw [if_neg hne, ea, Option.bind_some, if_neg hp], Or.inl ⟨(zI_le (a := cmpL P Q O U) (b := 0) (by omega) (by omega) (by omega) (by omega)).mpr (by omega), rfl, Or.inr ⟨by omega, O, U, rfl, rfl, rfl, rfl, rfl, hO, hU⟩⟩⟩
theorem tunes_loop (hJt : Jt n nv A B) (hF : 300 < F) {bn ju jl many mu ml : Int32} (J : JX n nv A B g c y s u o pit bn ju jl) (hm1 : many = zI (n : Int)) (hm2 : mu = zI A) (hm3 : ml = zI B) {a : Nat} (ha : a < n) :
    ∀ (j F1 F2 : Nat), j < F1 → j < F2 → ∀ (k : Nat) (cb : Int32) (co cu : Int64) (mb : Int32) (bo bu : Int64) (cc now : Nat → Int32) (way0 wb0 : Nat → Int32) (kn0 tot0 : Int32) (kd0 wh0 : Nat → Int32) (ov0 un0 : Nat → Int64) (eO0 eU0 : Int64) (dO0 dU0 : Nat → Int64) (sO0 sU0 : Int64) (st0 : Nat → Int32) (re0 fr0 fs0 dr0 ds0 : Nat → Int64) (lu0 : Int64) (bf0 bl0 ba0 sc0 : Nat → Int64) (fR0 fS0 : Int64) (mo0 : Nat → Int32) (uu0 : Int64) (sl0 mb0 ss0 sb0 of0 : Nat → Int64) (be0 : Nat → Int32) (bs0 : Int32) (ma0 : Nat → Int64) (lO0 lU0 : Int64) (mt0 : Int32) (mk0 mw0 : Nat → Int32) (mv0 mn0 : Nat → Int64) (ha0 : Nat → Int32) (nO0 nU0 : Int64) (me0 fe0 : Nat → Int32) (aO0 aU0 bO0 bU0 : Nat → Int64), k + j = 10 → Tr k cb co cu mb bo bu → (∀ i, i < n → i ≠ a → cc i = zI (nv i 1)) → (∀ i, i < n → ∀ q, q < 7 → ¬ (i = a ∧ q = 1) → now (7 * i + q) = zI (nv i q)) → (∀ i, i < 5 → fe0 i = 0) →
      ∃ (cb1 : Int32) (co1 cu1 : Int64) (cc1 now1 : Nat → Int32) (way1 wb1 : Nat → Int32) (kn1 tot1 : Int32) (kd1 wh1 : Nat → Int32) (ov1 un1 : Nat → Int64) (eO1 eU1 : Int64) (dO1 dU1 : Nat → Int64) (sO1 sU1 : Int64) (st1 : Nat → Int32) (re1 fr1 fs1 dr1 ds1 : Nat → Int64) (lu1 : Int64) (bf1 bl1 ba1 sc1 : Nat → Int64) (fR1 fS1 : Int64) (mo1 : Nat → Int32) (uu1 : Int64) (sl1 mb1 ss1 sb1 of1 : Nat → Int64) (be1 : Nat → Int32) (bs1 : Int32) (ma1 : Nat → Int64) (lO1 lU1 : Int64) (mt1 : Int32) (mk1 mw1 : Nat → Int32) (mv1 mn1 : Nat → Int64) (ha1 : Nat → Int32) (nO1 nU1 : Int64) (me1 fe1 : Nat → Int32) (aO1 aU1 bO1 bU1 : Nat → Int64) (bo1 bu1 : Int64), iter (un32 (fb_X_tunes_36 F (zI (a : Int)) g y s u o pit bn ju jl)) F1 (cb, co, cu, zI (k : Int), cc, way0, wb0, kn0, tot0, kd0, wh0, ov0, un0, eO0, eU0, dO0, dU0, sO0, sU0, st0, re0, fr0, fs0, dr0, ds0, lu0, bf0, bl0, ba0, sc0, fR0, fS0) = some (cb1, co1, cu1, cc1, way1, wb1, kn1, tot1, kd1, wh1, ov1, un1, eO1, eU1, dO1, dU1, sO1, sU1, st1, re1, fr1, fs1, dr1, ds1, lu1, bf1, bl1, ba1, sc1, fR1, fS1) ∧ iter (un31 (fb_M_tunes_28 F (zI (a : Int)) many mu ml)) F2 (mb, zI (k : Int), now, mo0, uu0, sl0, mb0, ss0, sb0, of0, be0, bs0, ma0, lO0, lU0, mt0, mk0, mw0, mv0, mn0, ha0, nO0, nU0, me0, fe0, aO0, aU0, bO0, bU0, bo, bu) = some (cb1, now1, mo1, uu1, sl1, mb1, ss1, sb1, of1, be1, bs1, ma1, lO1, lU1, mt1, mk1, mw1, mv1, mn1, ha1, nO1, nU1, me1, fe1, aO1, aU1, bO1, bU1, bo1, bu1) ∧ Tr 10 cb1 co1 cu1 cb1 bo1 bu1 ∧ ∀ i, i < 5 → fe1 i = 0 := by
  have hn := hJt.1
  intro j
  induction j with
  | zero =>
    intro F1 F2 h1 h2 k cb co cu mb bo bu cc now way0 wb0 kn0 tot0 kd0 wh0 ov0 un0 eO0 eU0 dO0 dU0 sO0 sU0 st0 re0 fr0 fs0 dr0 ds0 lu0 bf0 bl0 ba0 sc0 fR0 fS0 mo0 uu0 sl0 mb0 ss0 sb0 of0 be0 bs0 ma0 lO0 lU0 mt0 mk0 mw0 mv0 mn0 ha0 nO0 nU0 me0 fe0 aO0 aU0 bO0 bU0 hk hT hcc hnow hf
    obtain ⟨F1, rfl⟩ : ∃ x, F1 = x + 1 := ⟨F1 - 1, by omega⟩
    obtain ⟨F2, rfl⟩ : ∃ x, F2 = x + 1 := ⟨F2 - 1, by omega⟩
    have h9 : (9 : Int32) < zI (k : Int) := (zI_lt (a := 9) (b := (k : Int)) (by omega) (by omega) (by omega) (by omega)).mpr (by omega)
    have hk10 : k = 10 := by omega
    have hmb : mb = cb := by
      rcases hT with ⟨w, -⟩ | ⟨-, O, U, w, -⟩
      · omega
      · exact w
    have e1 : un32 (fb_X_tunes_36 F (zI (a : Int)) g y s u o pit bn ju jl) (cb, co, cu, zI (k : Int), cc, way0, wb0, kn0, tot0, kd0, wh0, ov0, un0, eO0, eU0, dO0, dU0, sO0, sU0, st0, re0, fr0, fs0, dr0, ds0, lu0, bf0, bl0, ba0, sc0, fR0, fS0) = some (.inr (cb, co, cu, cc, way0, wb0, kn0, tot0, kd0, wh0, ov0, un0, eO0, eU0, dO0, dU0, sO0, sU0, st0, re0, fr0, fs0, dr0, ds0, lu0, bf0, bl0, ba0, sc0, fR0, fS0)) := by
      dsimp only [un32]
      unfold fb_X_tunes_36
      rw [if_pos h9]
    have e2 : un31 (fb_M_tunes_28 F (zI (a : Int)) many mu ml) (mb, zI (k : Int), now, mo0, uu0, sl0, mb0, ss0, sb0, of0, be0, bs0, ma0, lO0, lU0, mt0, mk0, mw0, mv0, mn0, ha0, nO0, nU0, me0, fe0, aO0, aU0, bO0, bU0, bo, bu) = some (.inr (mb, now, mo0, uu0, sl0, mb0, ss0, sb0, of0, be0, bs0, ma0, lO0, lU0, mt0, mk0, mw0, mv0, mn0, ha0, nO0, nU0, me0, fe0, aO0, aU0, bO0, bU0, bo, bu)) := by
      dsimp only [un31]
      unfold fb_M_tunes_28
      rw [if_pos h9]
    rw [hmb] at e2 hT ⊢
    exact ⟨cb, co, cu, cc, now, way0, wb0, kn0, tot0, kd0, wh0, ov0, un0, eO0, eU0, dO0, dU0, sO0, sU0, st0, re0, fr0, fs0, dr0, ds0, lu0, bf0, bl0, ba0, sc0, fR0, fS0, mo0, uu0, sl0, mb0, ss0, sb0, of0, be0, bs0, ma0, lO0, lU0, mt0, mk0, mw0, mv0, mn0, ha0, nO0, nU0, me0, fe0, aO0, aU0, bO0, bU0, bo, bu, iter_en e1, iter_en e2, by rw [← hk10]; exact hT, hf⟩
  | succ j ih =>
    intro F1 F2 h1 h2 k cb co cu mb bo bu cc now way0 wb0 kn0 tot0 kd0 wh0 ov0 un0 eO0 eU0 dO0 dU0 sO0 sU0 st0 re0 fr0 fs0 dr0 ds0 lu0 bf0 bl0 ba0 sc0 fR0 fS0 mo0 uu0 sl0 mb0 ss0 sb0 of0 be0 bs0 ma0 lO0 lU0 mt0 mk0 mw0 mv0 mn0 ha0 nO0 nU0 me0 fe0 aO0 aU0 bO0 bU0 hk hT hcc hnow hf
    obtain ⟨F1, rfl⟩ : ∃ x, F1 = x + 1 := ⟨F1 - 1, by omega⟩
    obtain ⟨F2, rfl⟩ : ∃ x, F2 = x + 1 := ⟨F2 - 1, by omega⟩
    have h9 : ¬ (9 : Int32) < zI (k : Int) := fun z => absurd ((zI_lt (a := 9) (b := (k : Int)) (by omega) (by omega) (by omega) (by omega)).mp z) (by omega)
    have e71 : (7 : Int32) * zI (a : Int) + (1 : Int32) = zI ((7 * a + 1 : Nat) : Int) := e7q a 1
    have hJt2 : Jt n (nvC nv (fun i => if i = a then (k : Int) else nv i 1)) A B := ⟨hn, nvC_ok hJt.2.1 fun i hi => by
      have v := hJt.2.1 i hi
      by_cases x : i = a
      · rw [if_pos x]; omega
      · rw [if_neg x]; omega, hJt.2.2⟩
    have hJ2 : JX n (nvC nv (fun i => if i = a then (k : Int) else nv i 1)) A B g (upd cc a (zI (k : Int))) y s u o pit bn ju jl := nvC_J J fun i hi => by
      rw [upd_at]
      by_cases x : i = a
      · rw [if_pos x, if_pos x]
      · rw [if_neg x, if_neg x]; exact hcc i hi x
    have hM2 : MX n (nvC nv (fun i => if i = a then (k : Int) else nv i 1)) A B (upd now (7 * a + 1) (zI (k : Int))) many mu ml := nvC_M hm1 hm2 hm3 (fun i hi q hq z => by rw [upd_at, if_neg (by omega)]; exact hnow i hi q hq (fun w => z w.2)) fun i hi => by
      rw [upd_at]
      by_cases x : i = a
      · rw [if_pos (by omega), if_pos x]
      · rw [if_neg (by omega), if_neg x]; exact hnow i hi 1 (by omega) (fun w => x w.1)
    obtain ⟨way2, wb2, kn2, tot2, kd2, wh2, ov2, un2, eO2, eU2, dO2, dU2, sO2, sU2, st2, re2, fr2, fs2, dr2, ds2, lu2, bf2, bl2, ba2, sc2, fR2, fS2, mo2, uu2, sl2, mb2, ss2, sb2, of2, be2, bs2, ma2, lO2, lU2, mt2, mk2, mw2, mv2, mn2, ha2, nO2, nU2, me2, fe2, aO2, aU2, bO2, bU2, eg, em, k1, k2, k3, k4, hf2⟩ := both_guess hJt2 hF hJ2 hM2 way0 wb0 kn0 tot0 kd0 wh0 ov0 un0 eO0 eU0 dO0 dU0 sO0 sU0 st0 re0 fr0 fs0 dr0 ds0 lu0 bf0 bl0 ba0 sc0 fR0 fS0 mo0 uu0 sl0 mb0 ss0 sb0 of0 be0 bs0 ma0 lO0 lU0 mt0 mk0 mw0 mv0 mn0 ha0 nO0 nU0 me0 fe0 aO0 aU0 bO0 bU0 hf
    obtain ⟨c1, c2, c3⟩ := pk_bd hJt2
    generalize pkO n (nvC nv (fun i => if i = a then (k : Int) else nv i 1)) A B = P at *
    generalize pkU n (nvC nv (fun i => if i = a then (k : Int) else nv i 1)) A B = Q at *
    obtain ⟨r, rm, bo', bu', t1, t2, t3⟩ := hT.step c1 c2 (zI (k : Int))
    have hcc2 : ∀ i, i < n → i ≠ a → upd cc a (zI (k : Int)) i = zI (nv i 1) := fun i hi x => by rw [upd_at, if_neg x]; exact hcc i hi x
    have hnow2 : ∀ i, i < n → ∀ q, q < 7 → ¬ (i = a ∧ q = 1) → upd now (7 * a + 1) (zI (k : Int)) (7 * i + q) = zI (nv i q) := fun i hi q hq z => by rw [upd_at, if_neg (by omega)]; exact hnow i hi q hq z
    have s1 : ∀ cb' co' cu', ((r ≤ 0 ∧ (cb', co', cu') = (cb, co, cu)) ∨ (¬ r ≤ 0 ∧ (cb', co', cu') = (zI (k : Int), zL P, zL Q))) → un32 (fb_X_tunes_36 F (zI (a : Int)) g y s u o pit bn ju jl) (cb, co, cu, zI (k : Int), cc, way0, wb0, kn0, tot0, kd0, wh0, ov0, un0, eO0, eU0, dO0, dU0, sO0, sU0, st0, re0, fr0, fs0, dr0, ds0, lu0, bf0, bl0, ba0, sc0, fR0, fS0) = some (.inl (cb', co', cu', zI ((k + 1 : Nat) : Int), upd cc a (zI (k : Int)), way2, wb2, kn2, tot2, kd2, wh2, ov2, un2, eO2, eU2, dO2, dU2, sO2, sU2, st2, re2, fr2, fs2, dr2, ds2, lu2, bf2, bl2, ba2, sc2, fR2, fS2)) := by
      intro cb' co' cu' hor
      dsimp only [un32]
      unfold fb_X_tunes_36
      rw [if_neg h9, stI_z (f := cc) (j := a) (by omega) (by omega), Option.bind_some, eg]
      simp only [bd27, Option.bind_some]
      rw [k1, k2, t1, Option.bind_some]
      rcases hor with ⟨w, e⟩ | ⟨w, e⟩
      · obtain ⟨rfl, rfl, rfl⟩ : cb' = cb ∧ co' = co ∧ cu' = cu := by simpa using e
        rw [if_pos w]
        simp only [fj_X_tunes_91, nm, zI_1, k1, k2]
      · obtain ⟨rfl, rfl, rfl⟩ : cb' = zI (k : Int) ∧ co' = zL P ∧ cu' = zL Q := by simpa using e
        rw [if_neg w]
        simp only [fj_X_tunes_91, nm, zI_1, k1, k2]
    have s2 : ∀ mb', ((rm = 0 ∧ mb' = mb) ∨ (¬ rm = 0 ∧ mb' = zI (k : Int))) → un31 (fb_M_tunes_28 F (zI (a : Int)) many mu ml) (mb, zI (k : Int), now, mo0, uu0, sl0, mb0, ss0, sb0, of0, be0, bs0, ma0, lO0, lU0, mt0, mk0, mw0, mv0, mn0, ha0, nO0, nU0, me0, fe0, aO0, aU0, bO0, bU0, bo, bu) = some (.inl (mb', zI ((k + 1 : Nat) : Int), upd now (7 * a + 1) (zI (k : Int)), mo2, uu2, sl2, mb2, ss2, sb2, of2, be2, bs2, ma2, lO2, lU2, mt2, mk2, mw2, mv2, mn2, ha2, nO2, nU2, me2, fe2, aO2, aU2, bO2, bU2, bo', bu')) := by
      intro mb' hor
      dsimp only [un31]
      unfold fb_M_tunes_28
      rw [if_neg h9, e71, stI_z (f := now) (j := 7 * a + 1) (by omega) (by omega), Option.bind_some, em]
      simp only [bd26, Option.bind_some]
      rw [k3, k4, t2]
      simp only [bd3, Option.bind_some]
      rcases hor with ⟨w, rfl⟩ | ⟨w, rfl⟩
      · rw [if_pos w]
        simp only [fj_M_tunes_59, nm, zI_1, k3, k4]
      · rw [if_neg w]
        simp only [fj_M_tunes_59, nm, zI_1, k3, k4]
    rcases t3 with ⟨w1, w2, w3⟩ | ⟨w1, w2, w3⟩
    · obtain ⟨cb1, co1, cu1, cc1, now1, way1, wb1, kn1, tot1, kd1, wh1, ov1, un1, eO1, eU1, dO1, dU1, sO1, sU1, st1, re1, fr1, fs1, dr1, ds1, lu1, bf1, bl1, ba1, sc1, fR1, fS1, mo1, uu1, sl1, mb1, ss1, sb1, of1, be1, bs1, ma1, lO1, lU1, mt1, mk1, mw1, mv1, mn1, ha1, nO1, nU1, me1, fe1, aO1, aU1, bO1, bU1, bo1, bu1, z1, z2, z3, z4⟩ := ih F1 F2 (by omega) (by omega) (k + 1) cb co cu mb bo' bu' _ _ way2 wb2 kn2 tot2 kd2 wh2 ov2 un2 eO2 eU2 dO2 dU2 sO2 sU2 st2 re2 fr2 fs2 dr2 ds2 lu2 bf2 bl2 ba2 sc2 fR2 fS2 mo2 uu2 sl2 mb2 ss2 sb2 of2 be2 bs2 ma2 lO2 lU2 mt2 mk2 mw2 mv2 mn2 ha2 nO2 nU2 me2 fe2 aO2 aU2 bO2 bU2 (by omega) w3 hcc2 hnow2 hf2
      exact ⟨cb1, co1, cu1, cc1, now1, way1, wb1, kn1, tot1, kd1, wh1, ov1, un1, eO1, eU1, dO1, dU1, sO1, sU1, st1, re1, fr1, fs1, dr1, ds1, lu1, bf1, bl1, ba1, sc1, fR1, fS1, mo1, uu1, sl1, mb1, ss1, sb1, of1, be1, bs1, ma1, lO1, lU1, mt1, mk1, mw1, mv1, mn1, ha1, nO1, nU1, me1, fe1, aO1, aU1, bO1, bU1, bo1, bu1, iter_st (s1 _ _ _ (Or.inl ⟨w1, rfl⟩)) z1, iter_st (s2 _ (Or.inl ⟨w2, rfl⟩)) z2, z3, z4⟩
    · obtain ⟨cb1, co1, cu1, cc1, now1, way1, wb1, kn1, tot1, kd1, wh1, ov1, un1, eO1, eU1, dO1, dU1, sO1, sU1, st1, re1, fr1, fs1, dr1, ds1, lu1, bf1, bl1, ba1, sc1, fR1, fS1, mo1, uu1, sl1, mb1, ss1, sb1, of1, be1, bs1, ma1, lO1, lU1, mt1, mk1, mw1, mv1, mn1, ha1, nO1, nU1, me1, fe1, aO1, aU1, bO1, bU1, bo1, bu1, z1, z2, z3, z4⟩ := ih F1 F2 (by omega) (by omega) (k + 1) (zI (k : Int)) (zL P) (zL Q) (zI (k : Int)) bo' bu' _ _ way2 wb2 kn2 tot2 kd2 wh2 ov2 un2 eO2 eU2 dO2 dU2 sO2 sU2 st2 re2 fr2 fs2 dr2 ds2 lu2 bf2 bl2 ba2 sc2 fR2 fS2 mo2 uu2 sl2 mb2 ss2 sb2 of2 be2 bs2 ma2 lO2 lU2 mt2 mk2 mw2 mv2 mn2 ha2 nO2 nU2 me2 fe2 aO2 aU2 bO2 bU2 (by omega) w3 hcc2 hnow2 hf2
      exact ⟨cb1, co1, cu1, cc1, now1, way1, wb1, kn1, tot1, kd1, wh1, ov1, un1, eO1, eU1, dO1, dU1, sO1, sU1, st1, re1, fr1, fs1, dr1, ds1, lu1, bf1, bl1, ba1, sc1, fR1, fS1, mo1, uu1, sl1, mb1, ss1, sb1, of1, be1, bs1, ma1, lO1, lU1, mt1, mk1, mw1, mv1, mn1, ha1, nO1, nU1, me1, fe1, aO1, aU1, bO1, bU1, bo1, bu1, iter_st (s1 _ _ _ (Or.inr ⟨w1, rfl⟩)) z1, iter_st (s2 _ (Or.inr ⟨w2, rfl⟩)) z2, z3, z4⟩
theorem op_tunes (hJt : Jt n nv A B) (hF : 300 < F) {bn ju jl many mu ml : Int32} (J : JX n nv A B g c y s u o pit bn ju jl) (X : MX n nv A B now many mu ml) (x1 : Int32) (mo0 : Nat → Int32) (uu0 : Int64) (sl0 mb0 ss0 sb0 of0 : Nat → Int64) (be0 : Nat → Int32) (bs0 : Int32) (ma0 : Nat → Int64) (lO0 lU0 : Int64) (mt0 : Int32) (mk0 mw0 : Nat → Int32) (mv0 mn0 : Nat → Int64) (ha0 : Nat → Int32) (nO0 nU0 : Int64) (me0 fe0 : Nat → Int32) (aO0 aU0 bO0 bU0 : Nat → Int64) (hf : ∀ i, i < 5 → fe0 i = 0) (g2 c2 y2 s2 u2 o2 p2 : Nat → Int32) (b2 a2 l2 : Int32) (wayq0 wbq0 : Nat → Int32) (knq0 totq0 : Int32) (kdq0 whq0 : Nat → Int32) (ovq0 unq0 : Nat → Int64) (eOq0 eUq0 : Int64) (dOq0 dUq0 : Nat → Int64) (sOq0 sUq0 : Int64) (stq0 : Nat → Int32) (req0 frq0 fsq0 drq0 dsq0 : Nat → Int64) (luq0 : Int64) (bfq0 blq0 baq0 scq0 : Nat → Int64) (fRq0 fSq0 : Int64) (as0 : Nat → Int32) (bo0 bu0 : Int64) (nu : Nat → Int64) (sz : Int32) (row : Nat → Int64) (rm th : Int32) (hR : RowEq nu sz row rm) :
    ∃ (r : Int32) (g3 c3 y3 s3 u3 o3 p3 : Nat → Int32) (b3 a3 l3 : Int32) (wayq1 wbq1 : Nat → Int32) (knq1 totq1 : Int32) (kdq1 whq1 : Nat → Int32) (ovq1 unq1 : Nat → Int64) (eOq1 eUq1 : Int64) (dOq1 dUq1 : Nat → Int64) (sOq1 sUq1 : Int64) (stq1 : Nat → Int32) (req1 frq1 fsq1 drq1 dsq1 : Nat → Int64) (luq1 : Int64) (bfq1 blq1 baq1 scq1 : Nat → Int64) (fRq1 fSq1 : Int64) (nu1 : Nat → Int64) (sz1 : Int32) (now1 : Nat → Int32) (mo1 : Nat → Int32) (uu1 : Int64) (sl1 mb1 ss1 sb1 of1 : Nat → Int64) (be1 : Nat → Int32) (bs1 : Int32) (ma1 : Nat → Int64) (lO1 lU1 : Int64) (mt1 : Int32) (mk1 mw1 : Nat → Int32) (mv1 mn1 : Nat → Int64) (ha1 : Nat → Int32) (nO1 nU1 : Int64) (me1 fe1 : Nat → Int32) (aO1 aU1 bO1 bU1 : Nat → Int64) (as1 : Nat → Int32) (bo1 bu1 : Int64) (row1 : Nat → Int64) (rm1 : Int32), f_X_tunes F x1 g c y s u o pit bn ju jl g2 c2 y2 s2 u2 o2 p2 b2 a2 l2 wayq0 wbq0 knq0 totq0 kdq0 whq0 ovq0 unq0 eOq0 eUq0 dOq0 dUq0 sOq0 sUq0 stq0 req0 frq0 fsq0 drq0 dsq0 luq0 bfq0 blq0 baq0 scq0 fRq0 fSq0 nu sz = some (r, g3, c3, y3, s3, u3, o3, p3, b3, a3, l3, wayq1, wbq1, knq1, totq1, kdq1, whq1, ovq1, unq1, eOq1, eUq1, dOq1, dUq1, sOq1, sUq1, stq1, req1, frq1, fsq1, drq1, dsq1, luq1, bfq1, blq1, baq1, scq1, fRq1, fSq1, nu1, sz1) ∧ f_M_tunes F x1 now many mu ml row rm th mo0 uu0 sl0 mb0 ss0 sb0 of0 be0 bs0 ma0 lO0 lU0 mt0 mk0 mw0 mv0 mn0 ha0 nO0 nU0 me0 fe0 aO0 aU0 bO0 bU0 as0 bo0 bu0 = some (r, now1, row1, rm1, (0 : Int32), mo1, uu1, sl1, mb1, ss1, sb1, of1, be1, bs1, ma1, lO1, lU1, mt1, mk1, mw1, mv1, mn1, ha1, nO1, nU1, me1, fe1, aO1, aU1, bO1, bU1, as1, bo1, bu1) ∧
      (∀ i, i < 5 → fe1 i = 0) ∧ MX n nv A B now1 many mu ml ∧ RowEq nu1 sz1 row1 rm1 := by
  obtain ⟨i, rfl, hi1, hi2⟩ := zI_all x1
  have J0 := J
  have X0 := X
  have hn := hJt.1
  obtain ⟨J1, ho, rfl, rfl, rfl⟩ := J
  obtain ⟨h, rfl, rfl, rfl⟩ := X
  have fX := has_z (n := n) hn ⟨hi1, hi2⟩
  have fM := isBolt_z (n := n) hn ⟨hi1, hi2⟩
  by_cases q1 : 0 ≤ i ∧ i < n
  rotate_left
  · have hX : f_X_tunes F (zI i) g c y s u o pit (zI (n : Int)) (zI A) (zI B) g2 c2 y2 s2 u2 o2 p2 b2 a2 l2 wayq0 wbq0 knq0 totq0 kdq0 whq0 ovq0 unq0 eOq0 eUq0 dOq0 dUq0 sOq0 sUq0 stq0 req0 frq0 fsq0 drq0 dsq0 luq0 bfq0 blq0 baq0 scq0 fRq0 fSq0 nu sz = some ((-1 : Int32), g2, c2, y2, s2, u2, o2, p2, b2, a2, l2, wayq0, wbq0, knq0, totq0, kdq0, whq0, ovq0, unq0, eOq0, eUq0, dOq0, dUq0, sOq0, sUq0, stq0, req0, frq0, fsq0, drq0, dsq0, luq0, bfq0, blq0, baq0, scq0, fRq0, fSq0, nu, sz) := by
      unfold f_X_tunes
      rw [fX, Option.bind_some, if_pos (b01_ne0.mpr q1)]
    have hM : f_M_tunes F (zI i) now (zI (n : Int)) (zI A) (zI B) row rm th mo0 uu0 sl0 mb0 ss0 sb0 of0 be0 bs0 ma0 lO0 lU0 mt0 mk0 mw0 mv0 mn0 ha0 nO0 nU0 me0 fe0 aO0 aU0 bO0 bU0 as0 bo0 bu0 = some ((-1 : Int32), now, row, rm, (0 : Int32), mo0, uu0, sl0, mb0, ss0, sb0, of0, be0, bs0, ma0, lO0, lU0, mt0, mk0, mw0, mv0, mn0, ha0, nO0, nU0, me0, fe0, aO0, aU0, bO0, bU0, as0, bo0, bu0) := by
      unfold f_M_tunes
      rw [fM, Option.bind_some, if_pos (b01_ne0.mpr q1)]
    exact ⟨_, g2, c2, y2, s2, u2, o2, p2, b2, a2, l2, wayq0, wbq0, knq0, totq0, kdq0, whq0, ovq0, unq0, eOq0, eUq0, dOq0, dUq0, sOq0, sUq0, stq0, req0, frq0, fsq0, drq0, dsq0, luq0, bfq0, blq0, baq0, scq0, fRq0, fSq0, nu, sz, now, mo0, uu0, sl0, mb0, ss0, sb0, of0, be0, bs0, ma0, lO0, lU0, mt0, mk0, mw0, mv0, mn0, ha0, nO0, nU0, me0, fe0, aO0, aU0, bO0, bU0, as0, bo0, bu0, row, rm, hX, hM, hf, X0, hR⟩
  obtain ⟨a, ha⟩ : ∃ a : Nat, i = (a : Int) := ⟨i.toNat, by omega⟩
  subst ha
  have han : a < n := by omega
  obtain ⟨g3, c3, y3, s3, u3, o3, p3, ec, J3, hall⟩ := copyAll_z (F := F) hJt (by omega) J0 g2 c2 y2 s2 u2 o2 p2 b2 a2 l2
  obtain ⟨as1, ea, has⟩ := layAside_z (F := F) (by omega) now as0
  obtain ⟨cb1, co1, cu1, cc1, nowx, wayq1, wbq1, knq1, totq1, kdq1, whq1, ovq1, unq1, eOq1, eUq1, dOq1, dUq1, sOq1, sUq1, stq1, req1, frq1, fsq1, drq1, dsq1, luq1, bfq1, blq1, baq1, scq1, fRq1, fSq1, mo1, uu1, sl1, mb1, ss1, sb1, of1, be1, bs1, ma1, lO1, lU1, mt1, mk1, mw1, mv1, mn1, ha1, nO1, nU1, me1, fe1, aO1, aU1, bO1, bU1, bo1, bu1, z1, z2, z3, z4⟩ := tunes_loop hJt hF J3 rfl rfl rfl han 10 F F (by omega) (by omega) 0 (0 : Int32) (-1 : Int64) (1 : Int64) (-1 : Int32) bo0 (0 : Int64) c3 now wayq0 wbq0 knq0 totq0 kdq0 whq0 ovq0 unq0 eOq0 eUq0 dOq0 dUq0 sOq0 sUq0 stq0 req0 frq0 fsq0 drq0 dsq0 luq0 bfq0 blq0 baq0 scq0 fRq0 fSq0 mo0 uu0 sl0 mb0 ss0 sb0 of0 be0 bs0 ma0 lO0 lU0 mt0 mk0 mw0 mv0 mn0 ha0 nO0 nU0 me0 fe0 aO0 aU0 bO0 bU0 (by omega) (Or.inl ⟨rfl, rfl, rfl, rfl⟩) (fun i hi _ => J3.1.2.1 i hi) (fun i hi q hq _ => h i hi q hq) hf
  obtain ⟨now1, eb, hnb⟩ := comesBack_z (F := F) (by omega) nowx as1
  have hmx : MX n nv A B now1 (zI (n : Int)) (zI A) (zI B) := ⟨fun i hi q hq => by rw [hnb _ (by omega), has _ (by omega)]; exact h i hi q hq, rfl, rfl, rfl⟩
  rcases z3 with ⟨w, -⟩ | ⟨-, O, U, -, rfl, rfl, rfl, rfl, hO, hU⟩
  · omega
  obtain ⟨nu1, sz1, row1, rm1, t1, t2, t3⟩ := tell_load (F := F) (by omega) hO hU nu row
  have hX : f_X_tunes F (zI (a : Int)) g c y s u o pit (zI (n : Int)) (zI A) (zI B) g2 c2 y2 s2 u2 o2 p2 b2 a2 l2 wayq0 wbq0 knq0 totq0 kdq0 whq0 ovq0 unq0 eOq0 eUq0 dOq0 dUq0 sOq0 sUq0 stq0 req0 frq0 fsq0 drq0 dsq0 luq0 bfq0 blq0 baq0 scq0 fRq0 fSq0 nu sz = some (cb1, g3, cc1, y3, s3, u3, o3, p3, zI (n : Int), zI A, zI B, wayq1, wbq1, knq1, totq1, kdq1, whq1, ovq1, unq1, eOq1, eUq1, dOq1, dUq1, sOq1, sUq1, stq1, req1, frq1, fsq1, drq1, dsq1, luq1, bfq1, blq1, baq1, scq1, fRq1, fSq1, nu1, sz1) := by
    unfold f_X_tunes
    rw [fX, Option.bind_some, if_neg (fun z => (b01_ne0.mp z) q1), ec]
    simp only [bd10, Option.bind_some]
    rw [show iter (un32 (fb_X_tunes_36 F (zI (a : Int)) g3 y3 s3 u3 o3 p3 (zI (n : Int)) (zI A) (zI B))) F ((0 : Int32), (-1 : Int64), (1 : Int64), (0 : Int32), c3, wayq0, wbq0, knq0, totq0, kdq0, whq0, ovq0, unq0, eOq0, eUq0, dOq0, dUq0, sOq0, sUq0, stq0, req0, frq0, fsq0, drq0, dsq0, luq0, bfq0, blq0, baq0, scq0, fRq0, fSq0) = _ from z1]
    simp only [bd31, Option.bind_some]
    rw [t1]
    rfl
  have hM : f_M_tunes F (zI (a : Int)) now (zI (n : Int)) (zI A) (zI B) row rm th mo0 uu0 sl0 mb0 ss0 sb0 of0 be0 bs0 ma0 lO0 lU0 mt0 mk0 mw0 mv0 mn0 ha0 nO0 nU0 me0 fe0 aO0 aU0 bO0 bU0 as0 bo0 bu0 = some (cb1, now1, row1, rm1, (0 : Int32), mo1, uu1, sl1, mb1, ss1, sb1, of1, be1, bs1, ma1, lO1, lU1, mt1, mk1, mw1, mv1, mn1, ha1, nO1, nU1, me1, fe1, aO1, aU1, bO1, bU1, as1, zL O, zL U) := by
    unfold f_M_tunes
    rw [fM, Option.bind_some, if_neg (fun z => (b01_ne0.mp z) q1), ea, Option.bind_some, show iter (un31 (fb_M_tunes_28 F (zI (a : Int)) (zI (n : Int)) (zI A) (zI B))) F ((-1 : Int32), (0 : Int32), now, mo0, uu0, sl0, mb0, ss0, sb0, of0, be0, bs0, ma0, lO0, lU0, mt0, mk0, mw0, mv0, mn0, ha0, nO0, nU0, me0, fe0, aO0, aU0, bO0, bU0, bo0, (0 : Int64)) = _ from z2]
    simp only [bd30, Option.bind_some]
    rw [eb, Option.bind_some, t2]
    rfl
  exact ⟨_, g3, cc1, y3, s3, u3, o3, p3, _, _, _, wayq1, wbq1, knq1, totq1, kdq1, whq1, ovq1, unq1, eOq1, eUq1, dOq1, dUq1, sOq1, sUq1, stq1, req1, frq1, fsq1, drq1, dsq1, luq1, bfq1, blq1, baq1, scq1, fRq1, fSq1, nu1, sz1, now1, mo1, uu1, sl1, mb1, ss1, sb1, of1, be1, bs1, ma1, lO1, lU1, mt1, mk1, mw1, mv1, mn1, ha1, nO1, nU1, me1, fe1, aO1, aU1, bO1, bU1, as1, _, _, row1, rm1, hX, hM, z4, hmx, t3⟩
end OPS35
