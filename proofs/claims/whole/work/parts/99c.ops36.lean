/-! WHAT WOULD BE: fits -/
section OPS36
variable {n : Nat} {nv : Nat → Nat → Int} {A B : Int} {F : Nat} {g c y s u pit o now : Nat → Int32} {cl : Nat → Int}
def mnQ (a b : Int) : Int := if a < b then a else b
theorem mnQ_bd {a b : Int} (ha : 0 ≤ a ∧ a ≤ 9) (hb : 0 ≤ b ∧ b ≤ 9) : 0 ≤ mnQ a b ∧ mnQ a b ≤ 9 := by
  unfold mnQ
  by_cases q : a < b
  · rw [if_pos q]; exact ha
  · rw [if_neg q]; exact hb
theorem xmin_z (hn : n ≤ 5) (hF : 10 < F) (hv : NvOk n nv) {k : Int} (hk : 0 ≤ k ∧ k ≤ 9) (hc : ∀ i, i < n → c i = zI (nv i 1)) (cc : Nat → Int32) : ∃ cc1, iter (un2 (fb_X_fits_39 (zI k) c (zI (n : Int)))) F ((0 : Int32), cc) = some cc1 ∧ ∀ i, i < n → cc1 i = zI (mnQ k (nv i 1)) := by
  have loop := iter_for (body := un2 (fb_X_fits_39 (zI k) c (zI (n : Int)))) (F := F) (s := ((0 : Int32), cc)) (fun j z => ∃ t : Nat → Int32, z = (zI (j : Int), t) ∧ ∀ i, i < j → t i = zI (mnQ k (nv i 1))) (fun t => ∀ i, i < n → t i = zI (mnQ k (nv i 1))) n (by omega) ⟨cc, rfl, fun i hi => absurd hi (Nat.not_lt_zero i)⟩ ?_ ?_
  · obtain ⟨t, e, ht⟩ := loop
    exact ⟨t, e, ht⟩
  · rintro j z hj ⟨t, rfl, ht⟩
    have v := hv j hj
    have emn : (if zI k < zI (nv j 1) then zI k else zI (nv j 1)) = zI (mnQ k (nv j 1)) := by
      unfold mnQ
      by_cases q : k < nv j 1
      · rw [if_pos ((zI_lt (by omega) (by omega) (by omega) (by omega)).mpr q), if_pos q]
      · rw [if_neg (fun z => q ((zI_lt (by omega) (by omega) (by omega) (by omega)).mp z)), if_neg q]
    dsimp only [un2]
    unfold fb_X_fits_39
    rw [if_neg (by rw [zI_le (by omega) (by omega) (by omega) (by omega)]; omega), ldA_z (f := c) (j := j) (by omega) (by omega), Option.bind_some, hc j hj]
    simp only [nm]
    rw [emn, stI_z (f := t) (j := j) (by omega) (by omega), Option.bind_some]
    simp only [zI_1]
    refine ⟨_, rfl, _, rfl, fun i hi => ?_⟩
    rw [upd_at]
    by_cases x : i = j
    · rw [if_pos x, x]
    · rw [if_neg x]; exact ht i (by omega)
  · rintro z ⟨t, rfl, ht⟩
    dsimp only [un2]
    unfold fb_X_fits_39
    rw [if_pos (Int32.le_refl _)]
    exact ⟨_, rfl, ht⟩
theorem mmin_z (hn : n ≤ 5) (hF : 10 < F) (hv : NvOk n nv) {k : Int} (hk : 0 ≤ k ∧ k ≤ 9) {as1 : Nat → Int32} (hc : ∀ i, i < n → as1 (7 * i + 1) = zI (nv i 1)) (hnow : ∀ i, i < n → ∀ q, q < 7 → q ≠ 1 → now (7 * i + q) = zI (nv i q)) : ∃ now1, iter (un2 (fb_M_fits_44 (zI k) (zI (n : Int)) as1)) F ((0 : Int32), now) = some now1 ∧ (∀ i, i < n → now1 (7 * i + 1) = zI (mnQ k (nv i 1))) ∧ ∀ i, i < n → ∀ q, q < 7 → q ≠ 1 → now1 (7 * i + q) = zI (nv i q) := by
  have loop := iter_for (body := un2 (fb_M_fits_44 (zI k) (zI (n : Int)) as1)) (F := F) (s := ((0 : Int32), now)) (fun j z => ∃ t : Nat → Int32, z = (zI (j : Int), t) ∧ (∀ i, i < j → t (7 * i + 1) = zI (mnQ k (nv i 1))) ∧ ∀ i, i < n → ∀ q, q < 7 → q ≠ 1 → t (7 * i + q) = zI (nv i q)) (fun t => (∀ i, i < n → t (7 * i + 1) = zI (mnQ k (nv i 1))) ∧ ∀ i, i < n → ∀ q, q < 7 → q ≠ 1 → t (7 * i + q) = zI (nv i q)) n (by omega) ⟨now, rfl, fun i hi => absurd hi (Nat.not_lt_zero i), hnow⟩ ?_ ?_
  · obtain ⟨t, e, ht⟩ := loop
    exact ⟨t, e, ht.1, ht.2⟩
  · rintro j z hj ⟨t, rfl, ht, hk2⟩
    have v := hv j hj
    have e71 : (7 : Int32) * zI (j : Int) + (1 : Int32) = zI ((7 * j + 1 : Nat) : Int) := e7q j 1
    have emn : (if zI (nv j 1) < zI k then zI (nv j 1) else zI k) = zI (mnQ k (nv j 1)) := by
      unfold mnQ
      by_cases q : nv j 1 < k
      · rw [if_pos ((zI_lt (by omega) (by omega) (by omega) (by omega)).mpr q), if_neg (by omega)]
      · rw [if_neg (fun z => q ((zI_lt (by omega) (by omega) (by omega) (by omega)).mp z))]
        by_cases w : k < nv j 1
        · rw [if_pos w]
        · rw [if_neg w]; congr 1; omega
    dsimp only [un2]
    unfold fb_M_fits_44
    rw [if_neg (by rw [zI_le (by omega) (by omega) (by omega) (by omega)]; omega), e71, ldA_z (f := as1) (j := 7 * j + 1) (by omega) (by omega), Option.bind_some, hc j hj]
    simp only [nm]
    rw [emn, stI_z (f := t) (j := 7 * j + 1) (by omega) (by omega), Option.bind_some]
    simp only [zI_1]
    refine ⟨_, rfl, _, rfl, fun i hi => ?_, fun i hi q hq hq1 => ?_⟩
    · rw [upd_at]
      by_cases x : i = j
      · rw [if_pos (by omega), x]
      · rw [if_neg (by omega)]; exact ht i (by omega)
    · rw [upd_at, if_neg (by omega)]; exact hk2 i hi q hq hq1
  · rintro z ⟨t, rfl, ht⟩
    dsimp only [un2]
    unfold fb_M_fits_44
    rw [if_pos (Int32.le_refl _)]
    exact ⟨_, rfl, ht⟩
theorem cmp_neg (P Q o w : Int) : zI (cmpL P Q o w) < (0 : Int32) ↔ cmpL P Q o w < 0 := by
  have b := cmpL_bd P Q o w
  exact zI_lt (a := cmpL P Q o w) (b := 0) (by omega) (by omega) (by omega) (by omega)
theorem fits_loop (hJt : Jt n nv A B) (hF : 300 < F) {bn ju jl many mu ml : Int32} (J : JX n nv A B g c y s u o pit bn ju jl) (hm1 : many = zI (n : Int)) (hm2 : mu = zI A) (hm3 : ml = zI B) {c0 : Nat → Int32} (hc0 : ∀ i, i < n → c0 i = zI (nv i 1)) {as1 : Nat → Int32} (has : ∀ i, i < n → as1 (7 * i + 1) = zI (nv i 1)) {p : Int} (hp : 0 ≤ p ∧ p ≤ 300) :
    ∀ (j F1 F2 : Nat), j < F1 → j + 1 < F2 → ∀ (k : Int) (cc now : Nat → Int32) (way0 wb0 : Nat → Int32) (kn0 tot0 : Int32) (kd0 wh0 : Nat → Int32) (ov0 un0 : Nat → Int64) (eO0 eU0 : Int64) (dO0 dU0 : Nat → Int64) (sO0 sU0 : Int64) (st0 : Nat → Int32) (re0 fr0 fs0 dr0 ds0 : Nat → Int64) (lu0 : Int64) (bf0 bl0 ba0 sc0 : Nat → Int64) (fR0 fS0 : Int64) (mo0 : Nat → Int32) (uu0 : Int64) (sl0 mb0 ss0 sb0 of0 : Nat → Int64) (be0 : Nat → Int32) (bs0 : Int32) (ma0 : Nat → Int64) (lO0 lU0 : Int64) (mt0 : Int32) (mk0 mw0 : Nat → Int32) (mv0 mn0 : Nat → Int64) (ha0 : Nat → Int32) (nO0 nU0 : Int64) (me0 fe0 : Nat → Int32) (aO0 aU0 bO0 bU0 : Nat → Int64), k = (j : Int) - 1 → j ≤ 10 → (∀ i, i < n → ∀ q, q < 7 → q ≠ 1 → now (7 * i + q) = zI (nv i q)) → (∀ i, i < 5 → fe0 i = 0) →
      ∃ (ch : Nat) (k1 k2 : Int32) (cc1 now1 : Nat → Int32) (way1 wb1 : Nat → Int32) (kn1 tot1 : Int32) (kd1 wh1 : Nat → Int32) (ov1 un1 : Nat → Int64) (eO1 eU1 : Int64) (dO1 dU1 : Nat → Int64) (sO1 sU1 : Int64) (st1 : Nat → Int32) (re1 fr1 fs1 dr1 ds1 : Nat → Int64) (lu1 : Int64) (bf1 bl1 ba1 sc1 : Nat → Int64) (fR1 fS1 : Int64) (mo1 : Nat → Int32) (uu1 : Int64) (sl1 mb1 ss1 sb1 of1 : Nat → Int64) (be1 : Nat → Int32) (bs1 : Int32) (ma1 : Nat → Int64) (lO1 lU1 : Int64) (mt1 : Int32) (mk1 mw1 : Nat → Int32) (mv1 mn1 : Nat → Int64) (ha1 : Nat → Int32) (nO1 nU1 : Int64) (me1 fe1 : Nat → Int32) (aO1 aU1 bO1 bU1 : Nat → Int64), iter (un29 (fb_X_fits_33 F (zI p) c0 bn g y s u o pit bn ju jl)) F1 (zI k, cc, way0, wb0, kn0, tot0, kd0, wh0, ov0, un0, eO0, eU0, dO0, dU0, sO0, sU0, st0, re0, fr0, fs0, dr0, ds0, lu0, bf0, bl0, ba0, sc0, fR0, fS0) = some (ch, k1, cc1, way1, wb1, kn1, tot1, kd1, wh1, ov1, un1, eO1, eU1, dO1, dU1, sO1, sU1, st1, re1, fr1, fs1, dr1, ds1, lu1, bf1, bl1, ba1, sc1, fR1, fS1) ∧ iter (un29 (fb_M_fits_31 F (zI p) many mu ml as1)) F2 ((-2 : Int32), zI k, now, mo0, uu0, sl0, mb0, ss0, sb0, of0, be0, bs0, ma0, lO0, lU0, mt0, mk0, mw0, mv0, mn0, ha0, nO0, nU0, me0, fe0, aO0, aU0, bO0, bU0) = some (k2, now1, mo1, uu1, sl1, mb1, ss1, sb1, of1, be1, bs1, ma1, lO1, lU1, mt1, mk1, mw1, mv1, mn1, ha1, nO1, nU1, me1, fe1, aO1, aU1, bO1, bU1) ∧ (∀ i, i < 5 → fe1 i = 0) ∧
        ((ch = 0 ∧ k1 = k2 ∧ ¬ k2 = (-2 : Int32) ∧ ∃ P Q : Int, eO1 = zL P ∧ eU1 = zL Q ∧ lO1 = zL P ∧ lU1 = zL Q ∧ (0 ≤ P ∧ P ≤ 400 * 299269) ∧ (0 < Q ∧ Q ≤ 25 * 299269)) ∨ (ch = 1 ∧ k2 = (-2 : Int32))) := by
  have hn := hJt.1
  intro j
  induction j with
  | zero =>
    intro F1 F2 h1 h2 k cc now way0 wb0 kn0 tot0 kd0 wh0 ov0 un0 eO0 eU0 dO0 dU0 sO0 sU0 st0 re0 fr0 fs0 dr0 ds0 lu0 bf0 bl0 ba0 sc0 fR0 fS0 mo0 uu0 sl0 mb0 ss0 sb0 of0 be0 bs0 ma0 lO0 lU0 mt0 mk0 mw0 mv0 mn0 ha0 nO0 nU0 me0 fe0 aO0 aU0 bO0 bU0 hk hj hnow hf
    obtain ⟨F1, rfl⟩ : ∃ x, F1 = x + 1 := ⟨F1 - 1, by omega⟩
    obtain ⟨F2, rfl⟩ : ∃ x, F2 = x + 1 := ⟨F2 - 1, by omega⟩
    have hneg : zI k < (0 : Int32) := (zI_lt (a := k) (b := 0) (by omega) (by omega) (by omega) (by omega)).mpr (by omega)
    have e1 : un29 (fb_X_fits_33 F (zI p) c0 bn g y s u o pit bn ju jl) (zI k, cc, way0, wb0, kn0, tot0, kd0, wh0, ov0, un0, eO0, eU0, dO0, dU0, sO0, sU0, st0, re0, fr0, fs0, dr0, ds0, lu0, bf0, bl0, ba0, sc0, fR0, fS0) = some (.inr (1, zI k, cc, way0, wb0, kn0, tot0, kd0, wh0, ov0, un0, eO0, eU0, dO0, dU0, sO0, sU0, st0, re0, fr0, fs0, dr0, ds0, lu0, bf0, bl0, ba0, sc0, fR0, fS0)) := by
      dsimp only [un29]
      unfold fb_X_fits_33
      rw [if_pos hneg]
    have e2 : un29 (fb_M_fits_31 F (zI p) many mu ml as1) ((-2 : Int32), zI k, now, mo0, uu0, sl0, mb0, ss0, sb0, of0, be0, bs0, ma0, lO0, lU0, mt0, mk0, mw0, mv0, mn0, ha0, nO0, nU0, me0, fe0, aO0, aU0, bO0, bU0) = some (.inr ((-2 : Int32), now, mo0, uu0, sl0, mb0, ss0, sb0, of0, be0, bs0, ma0, lO0, lU0, mt0, mk0, mw0, mv0, mn0, ha0, nO0, nU0, me0, fe0, aO0, aU0, bO0, bU0)) := by
      dsimp only [un29]
      unfold fb_M_fits_31
      rw [if_pos hneg]
    exact ⟨1, _, _, cc, now, way0, wb0, kn0, tot0, kd0, wh0, ov0, un0, eO0, eU0, dO0, dU0, sO0, sU0, st0, re0, fr0, fs0, dr0, ds0, lu0, bf0, bl0, ba0, sc0, fR0, fS0, mo0, uu0, sl0, mb0, ss0, sb0, of0, be0, bs0, ma0, lO0, lU0, mt0, mk0, mw0, mv0, mn0, ha0, nO0, nU0, me0, fe0, aO0, aU0, bO0, bU0, iter_en e1, iter_en e2, hf, Or.inr ⟨rfl, rfl⟩⟩
  | succ j ih =>
    intro F1 F2 h1 h2 k cc now way0 wb0 kn0 tot0 kd0 wh0 ov0 un0 eO0 eU0 dO0 dU0 sO0 sU0 st0 re0 fr0 fs0 dr0 ds0 lu0 bf0 bl0 ba0 sc0 fR0 fS0 mo0 uu0 sl0 mb0 ss0 sb0 of0 be0 bs0 ma0 lO0 lU0 mt0 mk0 mw0 mv0 mn0 ha0 nO0 nU0 me0 fe0 aO0 aU0 bO0 bU0 hk hj hnow hf
    obtain ⟨F1, rfl⟩ : ∃ x, F1 = x + 1 := ⟨F1 - 1, by omega⟩
    obtain ⟨F2, rfl⟩ : ∃ x, F2 = x + 1 + 1 := ⟨F2 - 2, by omega⟩
    have hneg : ¬ zI k < (0 : Int32) := fun z => absurd ((zI_lt (a := k) (b := 0) (by omega) (by omega) (by omega) (by omega)).mp z) (by omega)
    have hk9 : 0 ≤ k ∧ k ≤ 9 := by omega
    have ek : zI k + (-1 : Int32) = zI (k - 1) := by rw [im1, zI_add]; rfl
    have hJt2 : Jt n (nvC nv (fun i => mnQ k (nv i 1))) A B := ⟨hn, nvC_ok hJt.2.1 fun i hi => by
      have v := hJt.2.1 i hi
      exact mnQ_bd hk9 (by omega), hJt.2.2⟩
    obtain ⟨cc2, ec, hc2⟩ := xmin_z (F := F) hn (by omega) hJt.2.1 hk9 hc0 cc
    obtain ⟨now2, em2, hn1, hn2⟩ := mmin_z (F := F) hn (by omega) hJt.2.1 hk9 has hnow
    have hJ2 : JX n (nvC nv (fun i => mnQ k (nv i 1))) A B g cc2 y s u o pit bn ju jl := nvC_J J hc2
    have hM2 : MX n (nvC nv (fun i => mnQ k (nv i 1))) A B now2 many mu ml := nvC_M hm1 hm2 hm3 hn2 hn1
    obtain ⟨wayw, wbw, knw, totw, kdw, whw, ovw, unw, eOw, eUw, dOw, dUw, sOw, sUw, stw, rew, frw, fsw, drw, dsw, luw, bfw, blw, baw, scw, fRw, fSw, mow, uuw, slw, mbw, ssw, sbw, ofw, bew, bsw, maw, lOw, lUw, mtw, mkw, mww, mvw, mnw, haw, nOw, nUw, mew, few, aOw, aUw, bOw, bUw, eg, em, k1, k2, k3, k4, hf2⟩ := both_guess hJt2 hF hJ2 hM2 way0 wb0 kn0 tot0 kd0 wh0 ov0 un0 eO0 eU0 dO0 dU0 sO0 sU0 st0 re0 fr0 fs0 dr0 ds0 lu0 bf0 bl0 ba0 sc0 fR0 fS0 mo0 uu0 sl0 mb0 ss0 sb0 of0 be0 bs0 ma0 lO0 lU0 mt0 mk0 mw0 mv0 mn0 ha0 nO0 nU0 me0 fe0 aO0 aU0 bO0 bU0 hf
    obtain ⟨c1, c2, c3⟩ := pk_bd hJt2
    generalize pkO n (nvC nv (fun i => mnQ k (nv i 1))) A B = P at *
    generalize pkU n (nvC nv (fun i => mnQ k (nv i 1))) A B = Q at *
    have t1 : f_G_comparePeak (zL p) (1 : Int64) (zL P) (zL Q) = some (zI (cmpL P Q p 1)) := cpk_z (o := p) (w := 1) c1 c2 (by omega) (by omega)
    have t2 : f_M_against (zL p) (1 : Int64) (zL P) (zL Q) = some (zI (cmpL P Q p 1)) := against_z (o := p) (w := 1) c1 c2 (by omega) (by omega)
    have hbn : bn = zI (n : Int) := J.2.2.1
    have ec : iter (un2 (fb_X_fits_39 (zI k) c0 bn)) F ((0 : Int32), cc) = some cc2 := by rw [hbn]; exact ec
    have em2 : iter (un2 (fb_M_fits_44 (zI k) many as1)) F ((0 : Int32), now) = some now2 := by rw [hm1]; exact em2
    by_cases w : cmpL P Q p 1 < 0
    · have s1 : un29 (fb_X_fits_33 F (zI p) c0 bn g y s u o pit bn ju jl) (zI k, cc, way0, wb0, kn0, tot0, kd0, wh0, ov0, un0, eO0, eU0, dO0, dU0, sO0, sU0, st0, re0, fr0, fs0, dr0, ds0, lu0, bf0, bl0, ba0, sc0, fR0, fS0) = some (.inl (zI (k - 1), cc2, wayw, wbw, knw, totw, kdw, whw, ovw, unw, eOw, eUw, dOw, dUw, sOw, sUw, stw, rew, frw, fsw, drw, dsw, luw, bfw, blw, baw, scw, fRw, fSw)) := by
        dsimp only [un29]
        unfold fb_X_fits_33
        rw [if_neg hneg, ec, Option.bind_some, eg]
        simp only [bd27, Option.bind_some]
        rw [k1, k2, zI_l (a := p) (by omega) (by omega), t1, Option.bind_some, if_pos ((cmp_neg _ _ _ _).mpr w)]
        simp only [nm, ek]
      have s2 : un29 (fb_M_fits_31 F (zI p) many mu ml as1) ((-2 : Int32), zI k, now, mo0, uu0, sl0, mb0, ss0, sb0, of0, be0, bs0, ma0, lO0, lU0, mt0, mk0, mw0, mv0, mn0, ha0, nO0, nU0, me0, fe0, aO0, aU0, bO0, bU0) = some (.inl ((-2 : Int32), zI (k - 1), now2, mow, uuw, slw, mbw, ssw, sbw, ofw, bew, bsw, maw, lOw, lUw, mtw, mkw, mww, mvw, mnw, haw, nOw, nUw, mew, few, aOw, aUw, bOw, bUw)) := by
        dsimp only [un29]
        unfold fb_M_fits_31
        rw [if_neg hneg, if_pos rfl, em2, Option.bind_some, em]
        simp only [bd26, Option.bind_some]
        rw [k3, k4, zI_l (a := p) (by omega) (by omega), t2, Option.bind_some, if_pos ((cmp_neg _ _ _ _).mpr w)]
        simp only [fj_M_fits_103, nm, ek]
      obtain ⟨ch, k1', k2', cc1, now1, way1, wb1, kn1, tot1, kd1, wh1, ov1, un1, eO1, eU1, dO1, dU1, sO1, sU1, st1, re1, fr1, fs1, dr1, ds1, lu1, bf1, bl1, ba1, sc1, fR1, fS1, mo1, uu1, sl1, mb1, ss1, sb1, of1, be1, bs1, ma1, lO1, lU1, mt1, mk1, mw1, mv1, mn1, ha1, nO1, nU1, me1, fe1, aO1, aU1, bO1, bU1, z1, z2, z3, z4⟩ := ih F1 (F2 + 1) (by omega) (by omega) (k - 1) cc2 now2 wayw wbw knw totw kdw whw ovw unw eOw eUw dOw dUw sOw sUw stw rew frw fsw drw dsw luw bfw blw baw scw fRw fSw mow uuw slw mbw ssw sbw ofw bew bsw maw lOw lUw mtw mkw mww mvw mnw haw nOw nUw mew few aOw aUw bOw bUw (by omega) (by omega) hn2 hf2
      exact ⟨ch, k1', k2', cc1, now1, way1, wb1, kn1, tot1, kd1, wh1, ov1, un1, eO1, eU1, dO1, dU1, sO1, sU1, st1, re1, fr1, fs1, dr1, ds1, lu1, bf1, bl1, ba1, sc1, fR1, fS1, mo1, uu1, sl1, mb1, ss1, sb1, of1, be1, bs1, ma1, lO1, lU1, mt1, mk1, mw1, mv1, mn1, ha1, nO1, nU1, me1, fe1, aO1, aU1, bO1, bU1, iter_st s1 z1, iter_st s2 z2, z3, z4⟩
    · have hk2 : ¬ zI k = (-2 : Int32) := fun z => absurd ((zI_eq (a := k) (b := -2) (by omega) (by omega) (by omega) (by omega)).mp (z.trans im2)) (by omega)
      have s1 : un29 (fb_X_fits_33 F (zI p) c0 bn g y s u o pit bn ju jl) (zI k, cc, way0, wb0, kn0, tot0, kd0, wh0, ov0, un0, eO0, eU0, dO0, dU0, sO0, sU0, st0, re0, fr0, fs0, dr0, ds0, lu0, bf0, bl0, ba0, sc0, fR0, fS0) = some (.inr (0, zI k, cc2, wayw, wbw, knw, totw, kdw, whw, ovw, unw, eOw, eUw, dOw, dUw, sOw, sUw, stw, rew, frw, fsw, drw, dsw, luw, bfw, blw, baw, scw, fRw, fSw)) := by
        dsimp only [un29]
        unfold fb_X_fits_33
        rw [if_neg hneg, ec, Option.bind_some, eg]
        simp only [bd27, Option.bind_some]
        rw [k1, k2, zI_l (a := p) (by omega) (by omega), t1, Option.bind_some, if_neg (fun z => w ((cmp_neg _ _ _ _).mp z))]
      have s2 : un29 (fb_M_fits_31 F (zI p) many mu ml as1) ((-2 : Int32), zI k, now, mo0, uu0, sl0, mb0, ss0, sb0, of0, be0, bs0, ma0, lO0, lU0, mt0, mk0, mw0, mv0, mn0, ha0, nO0, nU0, me0, fe0, aO0, aU0, bO0, bU0) = some (.inl (zI k, zI (k - 1), now2, mow, uuw, slw, mbw, ssw, sbw, ofw, bew, bsw, maw, lOw, lUw, mtw, mkw, mww, mvw, mnw, haw, nOw, nUw, mew, few, aOw, aUw, bOw, bUw)) := by
        dsimp only [un29]
        unfold fb_M_fits_31
        rw [if_neg hneg, if_pos rfl, em2, Option.bind_some, em]
        simp only [bd26, Option.bind_some]
        rw [k3, k4, zI_l (a := p) (by omega) (by omega), t2, Option.bind_some, if_neg (fun z => w ((cmp_neg _ _ _ _).mp z))]
        simp only [fj_M_fits_103, nm, ek]
      have s3 : un29 (fb_M_fits_31 F (zI p) many mu ml as1) (zI k, zI (k - 1), now2, mow, uuw, slw, mbw, ssw, sbw, ofw, bew, bsw, maw, lOw, lUw, mtw, mkw, mww, mvw, mnw, haw, nOw, nUw, mew, few, aOw, aUw, bOw, bUw) = some (.inr (zI k, now2, mow, uuw, slw, mbw, ssw, sbw, ofw, bew, bsw, maw, lOw, lUw, mtw, mkw, mww, mvw, mnw, haw, nOw, nUw, mew, few, aOw, aUw, bOw, bUw)) := by
        dsimp only [un29]
        unfold fb_M_fits_31
        by_cases v : zI (k - 1) < (0 : Int32)
        · rw [if_pos v]
        · rw [if_neg v, if_neg hk2]
      exact ⟨0, _, _, cc2, now2, wayw, wbw, knw, totw, kdw, whw, ovw, unw, eOw, eUw, dOw, dUw, sOw, sUw, stw, rew, frw, fsw, drw, dsw, luw, bfw, blw, baw, scw, fRw, fSw, mow, uuw, slw, mbw, ssw, sbw, ofw, bew, bsw, maw, lOw, lUw, mtw, mkw, mww, mvw, mnw, haw, nOw, nUw, mew, few, aOw, aUw, bOw, bUw, iter_en s1, iter_st s2 (iter_en s3), hf2, Or.inl ⟨rfl, rfl, hk2, P, Q, k1, k2, k3, k4, c1, c2⟩⟩
theorem op_fits (hJt : Jt n nv A B) (hF : 300 < F) {bn ju jl many mu ml : Int32} (J : JX n nv A B g c y s u o pit bn ju jl) (X : MX n nv A B now many mu ml) (x1 : Int32) (mo0 : Nat → Int32) (uu0 : Int64) (sl0 mb0 ss0 sb0 of0 : Nat → Int64) (be0 : Nat → Int32) (bs0 : Int32) (ma0 : Nat → Int64) (lO0 lU0 : Int64) (mt0 : Int32) (mk0 mw0 : Nat → Int32) (mv0 mn0 : Nat → Int64) (ha0 : Nat → Int32) (nO0 nU0 : Int64) (me0 fe0 : Nat → Int32) (aO0 aU0 bO0 bU0 : Nat → Int64) (hf : ∀ i, i < 5 → fe0 i = 0) (g2 c2 y2 s2 u2 o2 p2 : Nat → Int32) (b2 a2 l2 : Int32) (wayq0 wbq0 : Nat → Int32) (knq0 totq0 : Int32) (kdq0 whq0 : Nat → Int32) (ovq0 unq0 : Nat → Int64) (eOq0 eUq0 : Int64) (dOq0 dUq0 : Nat → Int64) (sOq0 sUq0 : Int64) (stq0 : Nat → Int32) (req0 frq0 fsq0 drq0 dsq0 : Nat → Int64) (luq0 : Int64) (bfq0 blq0 baq0 scq0 : Nat → Int64) (fRq0 fSq0 : Int64) (as0 : Nat → Int32) (nu : Nat → Int64) (sz : Int32) (row : Nat → Int64) (rm th : Int32) (hR : RowEq nu sz row rm) :
    ∃ (r : Int32) (g3 c3 y3 s3 u3 o3 p3 : Nat → Int32) (b3 a3 l3 : Int32) (wayq1 wbq1 : Nat → Int32) (knq1 totq1 : Int32) (kdq1 whq1 : Nat → Int32) (ovq1 unq1 : Nat → Int64) (eOq1 eUq1 : Int64) (dOq1 dUq1 : Nat → Int64) (sOq1 sUq1 : Int64) (stq1 : Nat → Int32) (req1 frq1 fsq1 drq1 dsq1 : Nat → Int64) (luq1 : Int64) (bfq1 blq1 baq1 scq1 : Nat → Int64) (fRq1 fSq1 : Int64) (nu1 : Nat → Int64) (sz1 : Int32) (now1 : Nat → Int32) (mo1 : Nat → Int32) (uu1 : Int64) (sl1 mb1 ss1 sb1 of1 : Nat → Int64) (be1 : Nat → Int32) (bs1 : Int32) (ma1 : Nat → Int64) (lO1 lU1 : Int64) (mt1 : Int32) (mk1 mw1 : Nat → Int32) (mv1 mn1 : Nat → Int64) (ha1 : Nat → Int32) (nO1 nU1 : Int64) (me1 fe1 : Nat → Int32) (aO1 aU1 bO1 bU1 : Nat → Int64) (as1 : Nat → Int32) (row1 : Nat → Int64) (rm1 : Int32), f_X_fits F x1 g c y s u o pit bn ju jl g2 c2 y2 s2 u2 o2 p2 b2 a2 l2 wayq0 wbq0 knq0 totq0 kdq0 whq0 ovq0 unq0 eOq0 eUq0 dOq0 dUq0 sOq0 sUq0 stq0 req0 frq0 fsq0 drq0 dsq0 luq0 bfq0 blq0 baq0 scq0 fRq0 fSq0 nu sz = some (r, g3, c3, y3, s3, u3, o3, p3, b3, a3, l3, wayq1, wbq1, knq1, totq1, kdq1, whq1, ovq1, unq1, eOq1, eUq1, dOq1, dUq1, sOq1, sUq1, stq1, req1, frq1, fsq1, drq1, dsq1, luq1, bfq1, blq1, baq1, scq1, fRq1, fSq1, nu1, sz1) ∧ f_M_fits F x1 now many mu ml row rm th mo0 uu0 sl0 mb0 ss0 sb0 of0 be0 bs0 ma0 lO0 lU0 mt0 mk0 mw0 mv0 mn0 ha0 nO0 nU0 me0 fe0 aO0 aU0 bO0 bU0 as0 = some (r, now1, row1, rm1, (0 : Int32), mo1, uu1, sl1, mb1, ss1, sb1, of1, be1, bs1, ma1, lO1, lU1, mt1, mk1, mw1, mv1, mn1, ha1, nO1, nU1, me1, fe1, aO1, aU1, bO1, bU1, as1) ∧
      (∀ i, i < 5 → fe1 i = 0) ∧ MX n nv A B now1 many mu ml ∧ RowEq nu1 sz1 row1 rm1 := by
  obtain ⟨p, rfl, hp1, hp2⟩ := zI_all x1
  have J0 := J
  have X0 := X
  have hn := hJt.1
  obtain ⟨J1, ho, rfl, rfl, rfl⟩ := J
  obtain ⟨h, rfl, rfl, rfl⟩ := X
  have fX := isLoad_z (p := p) ⟨hp1, hp2⟩
  have fM := misLoad_z (p := p) ⟨hp1, hp2⟩
  have bad : ∀ (hx : f_X_fits F (zI p) g c y s u o pit (zI (n : Int)) (zI A) (zI B) g2 c2 y2 s2 u2 o2 p2 b2 a2 l2 wayq0 wbq0 knq0 totq0 kdq0 whq0 ovq0 unq0 eOq0 eUq0 dOq0 dUq0 sOq0 sUq0 stq0 req0 frq0 fsq0 drq0 dsq0 luq0 bfq0 blq0 baq0 scq0 fRq0 fSq0 nu sz = some ((-1 : Int32), g2, c2, y2, s2, u2, o2, p2, b2, a2, l2, wayq0, wbq0, knq0, totq0, kdq0, whq0, ovq0, unq0, eOq0, eUq0, dOq0, dUq0, sOq0, sUq0, stq0, req0, frq0, fsq0, drq0, dsq0, luq0, bfq0, blq0, baq0, scq0, fRq0, fSq0, nu, sz)) (hm : f_M_fits F (zI p) now (zI (n : Int)) (zI A) (zI B) row rm th mo0 uu0 sl0 mb0 ss0 sb0 of0 be0 bs0 ma0 lO0 lU0 mt0 mk0 mw0 mv0 mn0 ha0 nO0 nU0 me0 fe0 aO0 aU0 bO0 bU0 as0 = some ((-1 : Int32), now, row, rm, (0 : Int32), mo0, uu0, sl0, mb0, ss0, sb0, of0, be0, bs0, ma0, lO0, lU0, mt0, mk0, mw0, mv0, mn0, ha0, nO0, nU0, me0, fe0, aO0, aU0, bO0, bU0, as0)),
      ∃ (r : Int32) (g3 c3 y3 s3 u3 o3 p3 : Nat → Int32) (b3 a3 l3 : Int32) (wayq1 wbq1 : Nat → Int32) (knq1 totq1 : Int32) (kdq1 whq1 : Nat → Int32) (ovq1 unq1 : Nat → Int64) (eOq1 eUq1 : Int64) (dOq1 dUq1 : Nat → Int64) (sOq1 sUq1 : Int64) (stq1 : Nat → Int32) (req1 frq1 fsq1 drq1 dsq1 : Nat → Int64) (luq1 : Int64) (bfq1 blq1 baq1 scq1 : Nat → Int64) (fRq1 fSq1 : Int64) (nu1 : Nat → Int64) (sz1 : Int32) (now1 : Nat → Int32) (mo1 : Nat → Int32) (uu1 : Int64) (sl1 mb1 ss1 sb1 of1 : Nat → Int64) (be1 : Nat → Int32) (bs1 : Int32) (ma1 : Nat → Int64) (lO1 lU1 : Int64) (mt1 : Int32) (mk1 mw1 : Nat → Int32) (mv1 mn1 : Nat → Int64) (ha1 : Nat → Int32) (nO1 nU1 : Int64) (me1 fe1 : Nat → Int32) (aO1 aU1 bO1 bU1 : Nat → Int64) (as1 : Nat → Int32) (row1 : Nat → Int64) (rm1 : Int32), f_X_fits F (zI p) g c y s u o pit (zI (n : Int)) (zI A) (zI B) g2 c2 y2 s2 u2 o2 p2 b2 a2 l2 wayq0 wbq0 knq0 totq0 kdq0 whq0 ovq0 unq0 eOq0 eUq0 dOq0 dUq0 sOq0 sUq0 stq0 req0 frq0 fsq0 drq0 dsq0 luq0 bfq0 blq0 baq0 scq0 fRq0 fSq0 nu sz = some (r, g3, c3, y3, s3, u3, o3, p3, b3, a3, l3, wayq1, wbq1, knq1, totq1, kdq1, whq1, ovq1, unq1, eOq1, eUq1, dOq1, dUq1, sOq1, sUq1, stq1, req1, frq1, fsq1, drq1, dsq1, luq1, bfq1, blq1, baq1, scq1, fRq1, fSq1, nu1, sz1) ∧ f_M_fits F (zI p) now (zI (n : Int)) (zI A) (zI B) row rm th mo0 uu0 sl0 mb0 ss0 sb0 of0 be0 bs0 ma0 lO0 lU0 mt0 mk0 mw0 mv0 mn0 ha0 nO0 nU0 me0 fe0 aO0 aU0 bO0 bU0 as0 = some (r, now1, row1, rm1, (0 : Int32), mo1, uu1, sl1, mb1, ss1, sb1, of1, be1, bs1, ma1, lO1, lU1, mt1, mk1, mw1, mv1, mn1, ha1, nO1, nU1, me1, fe1, aO1, aU1, bO1, bU1, as1) ∧
      (∀ i, i < 5 → fe1 i = 0) ∧ MX n nv A B now1 (zI (n : Int)) (zI A) (zI B) ∧ RowEq nu1 sz1 row1 rm1 := fun hx hm =>
    ⟨_, g2, c2, y2, s2, u2, o2, p2, b2, a2, l2, wayq0, wbq0, knq0, totq0, kdq0, whq0, ovq0, unq0, eOq0, eUq0, dOq0, dUq0, sOq0, sUq0, stq0, req0, frq0, fsq0, drq0, dsq0, luq0, bfq0, blq0, baq0, scq0, fRq0, fSq0, nu, sz, now, mo0, uu0, sl0, mb0, ss0, sb0, of0, be0, bs0, ma0, lO0, lU0, mt0, mk0, mw0, mv0, mn0, ha0, nO0, nU0, me0, fe0, aO0, aU0, bO0, bU0, as0, row, rm, hx, hm, hf, X0, hR⟩
  by_cases q0 : n = 0
  · have hz : zI (n : Int) = (0 : Int32) := by rw [q0]; rfl
    refine bad ?_ ?_
    · unfold f_X_fits
      rw [fX, Option.bind_some]
      by_cases q1 : 0 ≤ p ∧ p ≤ 300
      · rw [if_neg (fun z => (b01_ne0.mp z) q1), if_pos hz]
      · rw [if_pos (b01_ne0.mpr q1)]
    · unfold f_M_fits
      rw [if_pos hz]
  have hz : ¬ zI (n : Int) = (0 : Int32) := fun z => (if_many hn).mp z (by omega)
  by_cases q1 : 0 ≤ p ∧ p ≤ 300
  rotate_left
  · refine bad ?_ ?_
    · unfold f_X_fits
      rw [fX, Option.bind_some, if_pos (b01_ne0.mpr q1)]
    · unfold f_M_fits
      rw [if_neg hz, fM, Option.bind_some, if_pos (b01_ne0.mpr q1)]
  clear bad
  obtain ⟨g3, c3, y3, s3, u3, o3, p3, ec, J3, hall⟩ := copyAll_z (F := F) hJt (by omega) J0 g2 c2 y2 s2 u2 o2 p2 b2 a2 l2
  obtain ⟨as1, ea, has⟩ := layAside_z (F := F) (by omega) now as0
  obtain ⟨ch, k1, k2, cc1, nowx, wayq1, wbq1, knq1, totq1, kdq1, whq1, ovq1, unq1, eOq1, eUq1, dOq1, dUq1, sOq1, sUq1, stq1, req1, frq1, fsq1, drq1, dsq1, luq1, bfq1, blq1, baq1, scq1, fRq1, fSq1, mo1, uu1, sl1, mb1, ss1, sb1, of1, be1, bs1, ma1, lO1, lU1, mt1, mk1, mw1, mv1, mn1, ha1, nO1, nU1, me1, fe1, aO1, aU1, bO1, bU1, z1, z2, z3, z4⟩ := fits_loop hJt hF J3 rfl rfl rfl (c0 := c) J1.2.1 (as1 := as1) (fun i hi => by rw [has _ (by omega)]; exact h i hi 1 (by omega)) q1 10 F F (by omega) (by omega) 9 c3 now wayq0 wbq0 knq0 totq0 kdq0 whq0 ovq0 unq0 eOq0 eUq0 dOq0 dUq0 sOq0 sUq0 stq0 req0 frq0 fsq0 drq0 dsq0 luq0 bfq0 blq0 baq0 scq0 fRq0 fSq0 mo0 uu0 sl0 mb0 ss0 sb0 of0 be0 bs0 ma0 lO0 lU0 mt0 mk0 mw0 mv0 mn0 ha0 nO0 nU0 me0 fe0 aO0 aU0 bO0 bU0 (by omega) (by omega) (fun i hi q hq _ => h i hi q hq) hf
  obtain ⟨now1, eb, hnb⟩ := comesBack_z (F := F) (by omega) nowx as1
  have hmx : MX n nv A B now1 (zI (n : Int)) (zI A) (zI B) := ⟨fun i hi q hq => by rw [hnb _ (by omega), has _ (by omega)]; exact h i hi q hq, rfl, rfl, rfl⟩
  rcases z4 with ⟨rfl, rfl, hk2, P, Q, rfl, rfl, rfl, rfl, hP, hQ⟩ | ⟨rfl, rfl⟩
  · obtain ⟨nu1, sz1, row1, rm1, t1, t2, t3⟩ := tell_load (F := F) (by omega) hP hQ nu row
    have hX : f_X_fits F (zI p) g c y s u o pit (zI (n : Int)) (zI A) (zI B) g2 c2 y2 s2 u2 o2 p2 b2 a2 l2 wayq0 wbq0 knq0 totq0 kdq0 whq0 ovq0 unq0 eOq0 eUq0 dOq0 dUq0 sOq0 sUq0 stq0 req0 frq0 fsq0 drq0 dsq0 luq0 bfq0 blq0 baq0 scq0 fRq0 fSq0 nu sz = some (k1, g3, cc1, y3, s3, u3, o3, p3, zI (n : Int), zI A, zI B, wayq1, wbq1, knq1, totq1, kdq1, whq1, ovq1, unq1, zL P, zL Q, dOq1, dUq1, sOq1, sUq1, stq1, req1, frq1, fsq1, drq1, dsq1, luq1, bfq1, blq1, baq1, scq1, fRq1, fSq1, nu1, sz1) := by
      unfold f_X_fits
      rw [fX, Option.bind_some, if_neg (fun z => (b01_ne0.mp z) q1), if_neg hz, ec]
      simp only [bd10, Option.bind_some]
      rw [show iter (un29 (fb_X_fits_33 F (zI p) c (zI (n : Int)) g3 y3 s3 u3 o3 p3 (zI (n : Int)) (zI A) (zI B))) F ((9 : Int32), c3, wayq0, wbq0, knq0, totq0, kdq0, whq0, ovq0, unq0, eOq0, eUq0, dOq0, dUq0, sOq0, sUq0, stq0, req0, frq0, fsq0, drq0, dsq0, luq0, bfq0, blq0, baq0, scq0, fRq0, fSq0) = _ from z1]
      simp only [bd30, Option.bind_some]
      rw [if_pos trivial, t1]
      rfl
    have hM : f_M_fits F (zI p) now (zI (n : Int)) (zI A) (zI B) row rm th mo0 uu0 sl0 mb0 ss0 sb0 of0 be0 bs0 ma0 lO0 lU0 mt0 mk0 mw0 mv0 mn0 ha0 nO0 nU0 me0 fe0 aO0 aU0 bO0 bU0 as0 = some (k1, now1, row1, rm1, (0 : Int32), mo1, uu1, sl1, mb1, ss1, sb1, of1, be1, bs1, ma1, zL P, zL Q, mt1, mk1, mw1, mv1, mn1, ha1, nO1, nU1, me1, fe1, aO1, aU1, bO1, bU1, as1) := by
      unfold f_M_fits
      rw [if_neg hz, fM, Option.bind_some, if_neg (fun z => (b01_ne0.mp z) q1), ea, Option.bind_some, show iter (un29 (fb_M_fits_31 F (zI p) (zI (n : Int)) (zI A) (zI B) as1)) F ((-2 : Int32), (9 : Int32), now, mo0, uu0, sl0, mb0, ss0, sb0, of0, be0, bs0, ma0, lO0, lU0, mt0, mk0, mw0, mv0, mn0, ha0, nO0, nU0, me0, fe0, aO0, aU0, bO0, bU0) = _ from z2]
      simp only [bd28, Option.bind_some]
      unfold fj_M_fits_109
      rw [eb, Option.bind_some, if_neg hk2, t2]
      rfl
    exact ⟨_, g3, cc1, y3, s3, u3, o3, p3, _, _, _, wayq1, wbq1, knq1, totq1, kdq1, whq1, ovq1, unq1, _, _, dOq1, dUq1, sOq1, sUq1, stq1, req1, frq1, fsq1, drq1, dsq1, luq1, bfq1, blq1, baq1, scq1, fRq1, fSq1, nu1, sz1, now1, mo1, uu1, sl1, mb1, ss1, sb1, of1, be1, bs1, ma1, _, _, mt1, mk1, mw1, mv1, mn1, ha1, nO1, nU1, me1, fe1, aO1, aU1, bO1, bU1, as1, row1, rm1, hX, hM, z3, hmx, t3⟩
  · have hX : f_X_fits F (zI p) g c y s u o pit (zI (n : Int)) (zI A) (zI B) g2 c2 y2 s2 u2 o2 p2 b2 a2 l2 wayq0 wbq0 knq0 totq0 kdq0 whq0 ovq0 unq0 eOq0 eUq0 dOq0 dUq0 sOq0 sUq0 stq0 req0 frq0 fsq0 drq0 dsq0 luq0 bfq0 blq0 baq0 scq0 fRq0 fSq0 nu sz = some ((-2 : Int32), g3, cc1, y3, s3, u3, o3, p3, zI (n : Int), zI A, zI B, wayq1, wbq1, knq1, totq1, kdq1, whq1, ovq1, unq1, eOq1, eUq1, dOq1, dUq1, sOq1, sUq1, stq1, req1, frq1, fsq1, drq1, dsq1, luq1, bfq1, blq1, baq1, scq1, fRq1, fSq1, nu, sz) := by
      unfold f_X_fits
      rw [fX, Option.bind_some, if_neg (fun z => (b01_ne0.mp z) q1), if_neg hz, ec]
      simp only [bd10, Option.bind_some]
      rw [show iter (un29 (fb_X_fits_33 F (zI p) c (zI (n : Int)) g3 y3 s3 u3 o3 p3 (zI (n : Int)) (zI A) (zI B))) F ((9 : Int32), c3, wayq0, wbq0, knq0, totq0, kdq0, whq0, ovq0, unq0, eOq0, eUq0, dOq0, dUq0, sOq0, sUq0, stq0, req0, frq0, fsq0, drq0, dsq0, luq0, bfq0, blq0, baq0, scq0, fRq0, fSq0) = _ from z1]
      simp only [bd30, Option.bind_some]
      rw [if_neg (by decide)]
    have hM : f_M_fits F (zI p) now (zI (n : Int)) (zI A) (zI B) row rm th mo0 uu0 sl0 mb0 ss0 sb0 of0 be0 bs0 ma0 lO0 lU0 mt0 mk0 mw0 mv0 mn0 ha0 nO0 nU0 me0 fe0 aO0 aU0 bO0 bU0 as0 = some ((-2 : Int32), now1, row, rm, (0 : Int32), mo1, uu1, sl1, mb1, ss1, sb1, of1, be1, bs1, ma1, lO1, lU1, mt1, mk1, mw1, mv1, mn1, ha1, nO1, nU1, me1, fe1, aO1, aU1, bO1, bU1, as1) := by
      unfold f_M_fits
      rw [if_neg hz, fM, Option.bind_some, if_neg (fun z => (b01_ne0.mp z) q1), ea, Option.bind_some, show iter (un29 (fb_M_fits_31 F (zI p) (zI (n : Int)) (zI A) (zI B) as1)) F ((-2 : Int32), (9 : Int32), now, mo0, uu0, sl0, mb0, ss0, sb0, of0, be0, bs0, ma0, lO0, lU0, mt0, mk0, mw0, mv0, mn0, ha0, nO0, nU0, me0, fe0, aO0, aU0, bO0, bU0) = _ from z2]
      simp only [bd28, Option.bind_some]
      unfold fj_M_fits_109
      rw [eb, Option.bind_some, if_pos rfl]
    exact ⟨_, g3, cc1, y3, s3, u3, o3, p3, _, _, _, wayq1, wbq1, knq1, totq1, kdq1, whq1, ovq1, unq1, eOq1, eUq1, dOq1, dUq1, sOq1, sUq1, stq1, req1, frq1, fsq1, drq1, dsq1, luq1, bfq1, blq1, baq1, scq1, fRq1, fSq1, nu, sz, now1, mo1, uu1, sl1, mb1, ss1, sb1, of1, be1, bs1, ma1, lO1, lU1, mt1, mk1, mw1, mv1, mn1, ha1, nO1, nU1, me1, fe1, aO1, aU1, bO1, bU1, as1, row, rm, hX, hM, z3, hmx, hR⟩
end OPS36
