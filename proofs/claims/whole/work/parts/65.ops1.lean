/-! THE CALLS AT A LOAD: slip, bears, stretch -/
section OPS1
variable {n : Nat} {nv : Nat → Nat → Int} {A B : Int} {F : Nat} {g c y s u pit o now : Nat → Int32}
theorem sm_sc {f f' : Nat → Int} {D D' : Int} {n : Nat} (h : ∀ i, i < n → f' i * D = f i * D') {k : Nat} (hk : k ≤ n) : sm f' k * D = sm f k * D' := by
  rw [← sm_mul, ← sm_mul]
  exact sm_congr fun i hi => h i (by omega)
theorem sm_bd {f : Nat → Int} {c : Int} {n : Nat} (h : ∀ i, i < n → 0 ≤ f i ∧ f i ≤ c) {k : Nat} (hk : k ≤ n) : 0 ≤ sm f k ∧ sm f k ≤ (k : Int) * c :=
  ⟨sm_nonneg fun i hi => (h i (by omega)).1, sm_cap fun i hi => (h i (by omega)).2⟩
theorem borne_z (hn : n ≤ 5) (hF : 10 < F) {p : Int} {f : Nat → Int} {fr fs : Nat → Int64} (h : ∀ i, i < n → f_L_forceAt (zI (i : Int)) (zL p) (zL 1) fr fs = some (zL (f i))) {i : Nat} (hi : i < n) : f_L_borneAt F (zI (i : Int)) (zL p) fr fs (zI (n : Int)) = some (zL (sm f (i + 1))) := by
  have loop := iter_for (body := un2 (fb_L_borneAt_6 (zI (i : Int)) (zL p) fr fs (zI (n : Int)))) (F := F) (s := ((0 : Int64), (0 : Int32))) (fun k z => z = (zL (sm f k), zI (k : Int))) (fun q => q = zL (sm f (i + 1))) (i + 1) (by omega) rfl ?_ ?_
  · obtain ⟨q, e, rfl⟩ := loop
    unfold f_L_borneAt
    rw [e, Option.bind_some]
  · rintro k z hk rfl
    dsimp only [un2]
    unfold fb_L_borneAt_6
    rw [if_neg (by rw [zI_lt (by omega) (by omega) (by omega) (by omega)]; omega), if_neg (by rw [zI_le (by omega) (by omega) (by omega) (by omega)]; omega), show (1 : Int64) = zL 1 from rfl, h k (by omega), Option.bind_some]
    simp only [nm, zI_1, zL_add]
    exact ⟨_, rfl, rfl⟩
  · rintro z rfl
    dsimp only [un2]
    unfold fb_L_borneAt_6
    rw [if_pos (by rw [zI_lt (by omega) (by omega) (by omega) (by omega)]; omega)]
    exact ⟨_, rfl, rfl⟩
theorem mborne_z (hn : n ≤ 5) (hF : 10 < F) {f : Nat → Int} {sl mb : Nat → Int64} {lO lU : Int64} (h : ∀ i, i < n → f_M_forceThere (zI (i : Int)) sl mb lO lU = some (zL (f i))) {i : Nat} (hi : i < n) : f_M_borne F (zI (i : Int)) sl mb lO lU = some (zL (sm f (i + 1))) := by
  have loop := iter_for (body := un2 (fb_M_borne_5 (zI (i : Int)) sl mb lO lU)) (F := F) (s := ((0 : Int64), (0 : Int32))) (fun k z => z = (zL (sm f k), zI (k : Int))) (fun q => q = zL (sm f (i + 1))) (i + 1) (by omega) rfl ?_ ?_
  · obtain ⟨q, e, rfl⟩ := loop
    unfold f_M_borne
    rw [e, Option.bind_some]
  · rintro k z hk rfl
    dsimp only [un2]
    unfold fb_M_borne_5
    rw [if_neg (by rw [zI_lt (by omega) (by omega) (by omega) (by omega)]; omega), h k (by omega), Option.bind_some]
    simp only [nm, zI_1, zL_add]
    exact ⟨_, rfl, rfl⟩
  · rintro z rfl
    dsimp only [un2]
    unfold fb_M_borne_5
    rw [if_pos (by rw [zI_lt (by omega) (by omega) (by omega) (by omega)]; omega)]
    exact ⟨_, rfl, rfl⟩
theorem op_slip (hJt : Jt n nv A B) (hF : 300 < F) {bn ju jl many mu ml : Int32} (J : JX n nv A B g c y s u o pit bn ju jl) (X : MX n nv A B now many mu ml) (x1 x2 : Int32) (way0 wb0 : Nat → Int32) (kn0 tot0 : Int32) (kd0 wh0 : Nat → Int32) (ov0 un0 : Nat → Int64) (eO0 eU0 : Int64) (dO0 dU0 : Nat → Int64) (sO0 sU0 : Int64) (st0 : Nat → Int32) (re0 fr0 fs0 dr0 ds0 : Nat → Int64) (lu0 : Int64) (bf0 bl0 ba0 sc0 : Nat → Int64) (fR0 fS0 : Int64) (hK : KnG n nv A B kn0 tot0 kd0 wh0 ov0 un0 eO0 eU0) (mo0 : Nat → Int32) (uu0 : Int64) (sl0 mb0 ss0 sb0 of0 : Nat → Int64) (be0 : Nat → Int32) (bs0 : Int32) (ma0 : Nat → Int64) (lO0 lU0 : Int64) (mt0 : Int32) (mk0 mw0 : Nat → Int32) (mv0 mn0 : Nat → Int64) (ha0 : Nat → Int32) (nO0 nU0 : Int64) (me0 fe0 : Nat → Int32) (aO0 aU0 bO0 bU0 : Nat → Int64) (hf : ∀ i, i < 5 → fe0 i = 0) (nu : Nat → Int64) (sz : Int32) (row : Nat → Int64) (rm th : Int32) (hR : RowEq nu sz row rm) :
    ∃ (r : Int32) (way1 wb1 : Nat → Int32) (kn1 tot1 : Int32) (kd1 wh1 : Nat → Int32) (ov1 un1 : Nat → Int64) (eO1 eU1 : Int64) (dO1 dU1 : Nat → Int64) (sO1 sU1 : Int64) (st1 : Nat → Int32) (re1 fr1 fs1 dr1 ds1 : Nat → Int64) (lu1 : Int64) (bf1 bl1 ba1 sc1 : Nat → Int64) (fR1 fS1 : Int64) (nu1 : Nat → Int64) (sz1 : Int32) (mo1 : Nat → Int32) (uu1 : Int64) (sl1 mb1 ss1 sb1 of1 : Nat → Int64) (be1 : Nat → Int32) (bs1 : Int32) (ma1 : Nat → Int64) (lO1 lU1 : Int64) (mt1 : Int32) (mk1 mw1 : Nat → Int32) (mv1 mn1 : Nat → Int64) (ha1 : Nat → Int32) (nO1 nU1 : Int64) (me1 fe1 : Nat → Int32) (aO1 aU1 bO1 bU1 : Nat → Int64) (row1 : Nat → Int64) (rm1 : Int32), f_X_slip F x1 x2 way0 wb0 kn0 tot0 kd0 wh0 ov0 un0 eO0 eU0 dO0 dU0 sO0 sU0 st0 re0 fr0 fs0 dr0 ds0 lu0 bf0 bl0 ba0 sc0 fR0 fS0 g c y s u o pit bn ju jl nu sz = some (r, way1, wb1, kn1, tot1, kd1, wh1, ov1, un1, eO1, eU1, dO1, dU1, sO1, sU1, st1, re1, fr1, fs1, dr1, ds1, lu1, bf1, bl1, ba1, sc1, fR1, fS1, nu1, sz1) ∧ f_M_slip F x1 x2 now many mu ml row rm th mo0 uu0 sl0 mb0 ss0 sb0 of0 be0 bs0 ma0 lO0 lU0 mt0 mk0 mw0 mv0 mn0 ha0 nO0 nU0 me0 fe0 aO0 aU0 bO0 bU0 = some (r, row1, rm1, (0 : Int32), mo1, uu1, sl1, mb1, ss1, sb1, of1, be1, bs1, ma1, lO1, lU1, mt1, mk1, mw1, mv1, mn1, ha1, nO1, nU1, me1, fe1, aO1, aU1, bO1, bU1) ∧
      KnG n nv A B kn1 tot1 kd1 wh1 ov1 un1 eO1 eU1 ∧ (∀ i, i < 5 → fe1 i = 0) ∧ RowEq nu1 sz1 row1 rm1 := by
  obtain ⟨p, rfl, hp1, hp2⟩ := zI_all x1
  obtain ⟨i, rfl, hi1, hi2⟩ := zI_all x2
  have hJt' := hJt
  obtain ⟨hn, hv, hA, hB⟩ := hJt'
  obtain ⟨J1, ho, rfl, rfl, rfl⟩ := J
  obtain ⟨h, rfl, rfl, rfl⟩ := X
  obtain ⟨r, way1, wb1, kn1, tot1, kd1, wh1, ov1, un1, eO1, eU1, dO1, dU1, sO1, sU1, st1, re1, fr1, fs1, dr1, ds1, lu1, bf1, bl1, ba1, sc1, fR1, fS1, e, hK1, hc⟩ := both_come hJt hF ⟨J1, ho, rfl, rfl, rfl⟩ ⟨h, rfl, rfl, rfl⟩ (p := p) ⟨hp1, hp2⟩ (0 ≤ i ∧ i < n) way0 wb0 kn0 tot0 kd0 wh0 ov0 un0 eO0 eU0 dO0 dU0 sO0 sU0 st0 re0 fr0 fs0 dr0 ds0 lu0 bf0 bl0 ba0 sc0 fR0 fS0 hK mo0 uu0 sl0 mb0 ss0 sb0 of0 be0 bs0 ma0 lO0 lU0 mt0 mk0 mw0 mv0 mn0 ha0 nO0 nU0 me0 fe0 aO0 aU0 bO0 bU0 hf
  unfold f_X_slip f_M_slip
  rw [has_z hn ⟨hi1, hi2⟩, Option.bind_some, isBolt_z hn ⟨hi1, hi2⟩, Option.bind_some, e]
  simp only [bd28, Option.bind_some]
  rcases hc with ⟨hr, hno⟩ | ⟨hyes, hkn, hEv, heO, heU, r', mo1, uu1, sl1, mb1, ss1, sb1, of1, be1, bs1, ma1, lO1, lU1, mt1, mk1, mw1, mv1, mn1, ha1, nO1, nU1, me1, fe1, aO1, aU1, bO1, bU1, em, hf1, hc⟩
  · rw [hr, if_neg (by decide)]
    refine ⟨_, way1, wb1, kn1, tot1, kd1, wh1, ov1, un1, eO1, eU1, dO1, dU1, sO1, sU1, st1, re1, fr1, fs1, dr1, ds1, lu1, bf1, bl1, ba1, sc1, fR1, fS1, nu, sz, mo0, uu0, sl0, mb0, ss0, sb0, of0, be0, bs0, ma0, lO0, lU0, mt0, mk0, mw0, mv0, mn0, ha0, nO0, nU0, me0, fe0, aO0, aU0, bO0, bU0, row, rm, rfl, ?_, hK1, hf, hR⟩
    by_cases w : 0 ≤ i ∧ i < n
    · rw [if_neg (fun z => (b01_ne0.mp z) w), misLoad_z ⟨hp1, hp2⟩, Option.bind_some, if_pos (b01_ne0.mpr (fun z => hno ⟨z.1, z.2, w⟩))]; rfl
    · rw [if_pos (b01_ne0.mpr w)]; rfl
  · rw [if_neg (fun z => (b01_ne0.mp z) hyes.2.2), misLoad_z ⟨hp1, hp2⟩, Option.bind_some, if_neg (fun z => (b01_ne0.mp z) ⟨hyes.1, hyes.2.1⟩), em]
    simp only [bd27, Option.bind_some]
    rcases hc with ⟨hr, hr', hpk, hla, hall⟩ | ⟨hr, hr', hpk, hlO, hlU, D, f, d, D', f', d', md', FA, FM, hsc, hsat, hsat', hmds, hmo, hcl, hml⟩
    · rw [hr, hr', if_neg (by decide), if_pos rfl]
      exact ⟨_, way1, wb1, kn1, tot1, kd1, wh1, ov1, un1, eO1, eU1, dO1, dU1, sO1, sU1, st1, re1, fr1, fs1, dr1, ds1, lu1, bf1, bl1, ba1, sc1, fR1, fS1, nu, sz, mo1, uu1, sl1, mb1, ss1, sb1, of1, be1, bs1, ma1, lO1, lU1, mt1, mk1, mw1, mv1, mn1, ha1, nO1, nU1, me1, fe1, aO1, aU1, bO1, bU1, row, rm, rfl, rfl, hK1, hf1, hR⟩
    · obtain ⟨a1, a2, a3, a4⟩ := FA
      obtain ⟨b1, b2, b3, b4⟩ := FM
      have ei : i = ((i.toNat : Nat) : Int) := by omega
      have hin : i.toNat < n := by omega
      obtain ⟨f1, f2, f3, f4⟩ := a4 i.toNat hin
      obtain ⟨g1, g2, g3, g4⟩ := b4 i.toNat hin
      rw [← ei] at f2 g2
      obtain ⟨nu1, sz1, e1, R1⟩ := fraction_z (F := F) (by omega) (RowC.nil nu) (by show 0 + 2 ≤ 8; omega) (o := d i.toNat) (u := D) (by omega) (by omega) a2 (by omega)
      obtain ⟨row1, rm1, e2, R2⟩ := tellFraction_z (F := F) (by omega) (RowC.nil row) (by show 0 + 2 ≤ 64; omega) (o := d' i.toNat) (u := D') (by omega) (by omega) b2 (by omega)
      rw [hr, hr', if_pos (show zI 0 = 0 from rfl), if_neg (by decide), zI_l (by omega) (by omega), show (1 : Int64) = zL 1 from rfl, f2, Option.bind_some, a1, e1, g2, Option.bind_some, b1, Option.bind_some, e2]
      simp only [bd2, Option.bind_some]
      refine ⟨_, way1, wb1, kn1, tot1, kd1, wh1, ov1, un1, eO1, eU1, dO1, dU1, sO1, sU1, st1, re1, fr1, fs1, dr1, ds1, zL D, bf1, bl1, ba1, sc1, fR1, fS1, nu1, sz1, mo1, uu1, sl1, mb1, ss1, sb1, of1, be1, bs1, ma1, lO1, lU1, mt1, mk1, mw1, mv1, mn1, ha1, nO1, nU1, me1, fe1, aO1, aU1, bO1, bU1, row1, rm1, rfl, rfl, hK1, hf1, [] ++ fra (d i.toNat) D, by show 2 ≤ 8; omega, R1, ?_⟩
      rw [fra_eq a2 b2 (hsc i.toNat hin).2]
      exact R2
theorem op_bears (hJt : Jt n nv A B) (hF : 300 < F) {bn ju jl many mu ml : Int32} (J : JX n nv A B g c y s u o pit bn ju jl) (X : MX n nv A B now many mu ml) (x1 x2 : Int32) (way0 wb0 : Nat → Int32) (kn0 tot0 : Int32) (kd0 wh0 : Nat → Int32) (ov0 un0 : Nat → Int64) (eO0 eU0 : Int64) (dO0 dU0 : Nat → Int64) (sO0 sU0 : Int64) (st0 : Nat → Int32) (re0 fr0 fs0 dr0 ds0 : Nat → Int64) (lu0 : Int64) (bf0 bl0 ba0 sc0 : Nat → Int64) (fR0 fS0 : Int64) (hK : KnG n nv A B kn0 tot0 kd0 wh0 ov0 un0 eO0 eU0) (mo0 : Nat → Int32) (uu0 : Int64) (sl0 mb0 ss0 sb0 of0 : Nat → Int64) (be0 : Nat → Int32) (bs0 : Int32) (ma0 : Nat → Int64) (lO0 lU0 : Int64) (mt0 : Int32) (mk0 mw0 : Nat → Int32) (mv0 mn0 : Nat → Int64) (ha0 : Nat → Int32) (nO0 nU0 : Int64) (me0 fe0 : Nat → Int32) (aO0 aU0 bO0 bU0 : Nat → Int64) (hf : ∀ i, i < 5 → fe0 i = 0) (nu : Nat → Int64) (sz : Int32) (row : Nat → Int64) (rm th : Int32) (hR : RowEq nu sz row rm) :
    ∃ (r : Int32) (way1 wb1 : Nat → Int32) (kn1 tot1 : Int32) (kd1 wh1 : Nat → Int32) (ov1 un1 : Nat → Int64) (eO1 eU1 : Int64) (dO1 dU1 : Nat → Int64) (sO1 sU1 : Int64) (st1 : Nat → Int32) (re1 fr1 fs1 dr1 ds1 : Nat → Int64) (lu1 : Int64) (bf1 bl1 ba1 sc1 : Nat → Int64) (fR1 fS1 : Int64) (nu1 : Nat → Int64) (sz1 : Int32) (mo1 : Nat → Int32) (uu1 : Int64) (sl1 mb1 ss1 sb1 of1 : Nat → Int64) (be1 : Nat → Int32) (bs1 : Int32) (ma1 : Nat → Int64) (lO1 lU1 : Int64) (mt1 : Int32) (mk1 mw1 : Nat → Int32) (mv1 mn1 : Nat → Int64) (ha1 : Nat → Int32) (nO1 nU1 : Int64) (me1 fe1 : Nat → Int32) (aO1 aU1 bO1 bU1 : Nat → Int64) (row1 : Nat → Int64) (rm1 : Int32), f_X_bears F x1 x2 way0 wb0 kn0 tot0 kd0 wh0 ov0 un0 eO0 eU0 dO0 dU0 sO0 sU0 st0 re0 fr0 fs0 dr0 ds0 lu0 bf0 bl0 ba0 sc0 fR0 fS0 g c y s u o pit bn ju jl nu sz = some (r, way1, wb1, kn1, tot1, kd1, wh1, ov1, un1, eO1, eU1, dO1, dU1, sO1, sU1, st1, re1, fr1, fs1, dr1, ds1, lu1, bf1, bl1, ba1, sc1, fR1, fS1, nu1, sz1) ∧ f_M_bears F x1 x2 now many mu ml row rm th mo0 uu0 sl0 mb0 ss0 sb0 of0 be0 bs0 ma0 lO0 lU0 mt0 mk0 mw0 mv0 mn0 ha0 nO0 nU0 me0 fe0 aO0 aU0 bO0 bU0 = some (r, row1, rm1, (0 : Int32), mo1, uu1, sl1, mb1, ss1, sb1, of1, be1, bs1, ma1, lO1, lU1, mt1, mk1, mw1, mv1, mn1, ha1, nO1, nU1, me1, fe1, aO1, aU1, bO1, bU1) ∧
      KnG n nv A B kn1 tot1 kd1 wh1 ov1 un1 eO1 eU1 ∧ (∀ i, i < 5 → fe1 i = 0) ∧ RowEq nu1 sz1 row1 rm1 := by
  obtain ⟨p, rfl, hp1, hp2⟩ := zI_all x1
  obtain ⟨i, rfl, hi1, hi2⟩ := zI_all x2
  have hJt' := hJt
  obtain ⟨hn, hv, hA, hB⟩ := hJt'
  obtain ⟨J1, ho, rfl, rfl, rfl⟩ := J
  obtain ⟨h, rfl, rfl, rfl⟩ := X
  obtain ⟨r, way1, wb1, kn1, tot1, kd1, wh1, ov1, un1, eO1, eU1, dO1, dU1, sO1, sU1, st1, re1, fr1, fs1, dr1, ds1, lu1, bf1, bl1, ba1, sc1, fR1, fS1, e, hK1, hc⟩ := both_come hJt hF ⟨J1, ho, rfl, rfl, rfl⟩ ⟨h, rfl, rfl, rfl⟩ (p := p) ⟨hp1, hp2⟩ (0 ≤ i ∧ i + 1 < n) way0 wb0 kn0 tot0 kd0 wh0 ov0 un0 eO0 eU0 dO0 dU0 sO0 sU0 st0 re0 fr0 fs0 dr0 ds0 lu0 bf0 bl0 ba0 sc0 fR0 fS0 hK mo0 uu0 sl0 mb0 ss0 sb0 of0 be0 bs0 ma0 lO0 lU0 mt0 mk0 mw0 mv0 mn0 ha0 nO0 nU0 me0 fe0 aO0 aU0 bO0 bU0 hf
  unfold f_X_bears f_M_bears
  rw [hasGap_z hn ⟨hi1, hi2⟩, Option.bind_some, e, zI_l hi1 hi2, i2, zI_sub, zI_l (a := (n : Int) - 2) (by omega) (by omega), l0z, in_z (by omega) (by omega) (by omega), Option.bind_some, b01_congr (c := 0 ≤ i ∧ i ≤ (n : Int) - 2) (d := 0 ≤ i ∧ i + 1 < n) (by omega)]
  simp only [bd28, Option.bind_some]
  rcases hc with ⟨hr, hno⟩ | ⟨hyes, hkn, hEv, heO, heU, r', mo1, uu1, sl1, mb1, ss1, sb1, of1, be1, bs1, ma1, lO1, lU1, mt1, mk1, mw1, mv1, mn1, ha1, nO1, nU1, me1, fe1, aO1, aU1, bO1, bU1, em, hf1, hc⟩
  · rw [hr, if_neg (by decide)]
    refine ⟨_, way1, wb1, kn1, tot1, kd1, wh1, ov1, un1, eO1, eU1, dO1, dU1, sO1, sU1, st1, re1, fr1, fs1, dr1, ds1, lu1, bf1, bl1, ba1, sc1, fR1, fS1, nu, sz, mo0, uu0, sl0, mb0, ss0, sb0, of0, be0, bs0, ma0, lO0, lU0, mt0, mk0, mw0, mv0, mn0, ha0, nO0, nU0, me0, fe0, aO0, aU0, bO0, bU0, row, rm, rfl, ?_, hK1, hf, hR⟩
    by_cases w : 0 ≤ i ∧ i + 1 < n
    · rw [if_neg (fun z => (b01_ne0.mp z) w), misLoad_z ⟨hp1, hp2⟩, Option.bind_some, if_pos (b01_ne0.mpr (fun z => hno ⟨z.1, z.2, w⟩))]; rfl
    · rw [if_pos (b01_ne0.mpr w)]; rfl
  · rw [if_neg (fun z => (b01_ne0.mp z) hyes.2.2), misLoad_z ⟨hp1, hp2⟩, Option.bind_some, if_neg (fun z => (b01_ne0.mp z) ⟨hyes.1, hyes.2.1⟩), em]
    simp only [bd27, Option.bind_some]
    rcases hc with ⟨hr, hr', hpk, hla, hall⟩ | ⟨hr, hr', hpk, hlO, hlU, D, f, d, D', f', d', md', FA, FM, hsc, hsat, hsat', hmds, hmo, hcl, hml⟩
    · rw [hr, hr', if_neg (by decide), if_pos rfl]
      exact ⟨_, way1, wb1, kn1, tot1, kd1, wh1, ov1, un1, eO1, eU1, dO1, dU1, sO1, sU1, st1, re1, fr1, fs1, dr1, ds1, lu1, bf1, bl1, ba1, sc1, fR1, fS1, nu, sz, mo1, uu1, sl1, mb1, ss1, sb1, of1, be1, bs1, ma1, lO1, lU1, mt1, mk1, mw1, mv1, mn1, ha1, nO1, nU1, me1, fe1, aO1, aU1, bO1, bU1, row, rm, rfl, rfl, hK1, hf1, hR⟩
    · obtain ⟨a1, a2, a3, a4⟩ := FA
      obtain ⟨b1, b2, b3, b4⟩ := FM
      have ei : i = ((i.toNat : Nat) : Int) := by omega
      have hin : i.toNat < n := by omega
      have f1 := borne_z (F := F) hn (by omega) (fun k hk => (a4 k hk).1) hin
      have g1 := mborne_z (F := F) hn (by omega) (fun k hk => (b4 k hk).1) hin
      rw [← ei] at f1 g1
      have q1 := mul_bd (show 0 ≤ D by omega) hyes.1 a3 hyes.2.1
      have q2 := mul_bd (show 0 ≤ D' by omega) hyes.1 b3 hyes.2.1
      have s1 := sm_bd (f := f) (c := 299269 * 300) (n := n) (fun k hk => by have := (a4 k hk).2.2.1; omega) (show i.toNat + 1 ≤ n by omega)
      have s2 := sm_bd (f := f') (c := 299269 * 300) (n := n) (fun k hk => by have := (b4 k hk).2.2.1; omega) (show i.toNat + 1 ≤ n by omega)
      have hs := sm_sc (k := i.toNat + 1) (fun k hk => (hsc k hk).1) (show i.toNat + 1 ≤ n by omega)
      generalize sm f (i.toNat + 1) = a at *
      generalize sm f' (i.toNat + 1) = b at *
      rw [Int.mul_comm D] at q1
      rw [Int.mul_comm D'] at q2
      obtain ⟨nu1, sz1, e1, R1⟩ := fraction_z (F := F) (by omega) (RowC.nil nu) (by show 0 + 2 ≤ 8; omega) (o := p * D - a) (u := D) (by omega) (by omega) a2 (by omega)
      obtain ⟨nu2, sz2, e2, R2⟩ := fraction_z (F := F) (by omega) R1 (by show 2 + 2 ≤ 8; omega) (o := a) (u := D) (by omega) (by omega) a2 (by omega)
      obtain ⟨row1, rm1, e3, R3⟩ := tellFraction_z (F := F) (by omega) (RowC.nil row) (by show 0 + 2 ≤ 64; omega) (o := p * D' - b) (u := D') (by omega) (by omega) b2 (by omega)
      obtain ⟨row2, rm2, e4, R4⟩ := tellFraction_z (F := F) (by omega) R3 (by show 2 + 2 ≤ 64; omega) (o := b) (u := D') (by omega) (by omega) b2 (by omega)
      rw [hr, hr', if_pos (show zI 0 = 0 from rfl), if_neg (by decide), zI_l (by omega) (by omega), f1, Option.bind_some, a1, zL_mul, zL_sub, e1, b1, Option.bind_some, g1, Option.bind_some, Option.bind_some, zL_mul, zL_sub, e3]
      simp only [bd2, Option.bind_some]
      rw [e2, e4]
      simp only [Option.bind_some]
      refine ⟨_, way1, wb1, kn1, tot1, kd1, wh1, ov1, un1, eO1, eU1, dO1, dU1, sO1, sU1, st1, re1, fr1, fs1, dr1, ds1, zL D, bf1, bl1, ba1, sc1, fR1, fS1, nu2, sz2, mo1, uu1, sl1, mb1, ss1, sb1, of1, be1, bs1, ma1, lO1, lU1, mt1, mk1, mw1, mv1, mn1, ha1, nO1, nU1, me1, fe1, aO1, aU1, bO1, bU1, row2, rm2, rfl, rfl, hK1, hf1, [] ++ fra (p * D - a) D ++ fra a D, by show 4 ≤ 8; omega, R2, ?_⟩
      rw [fra_eq a2 b2 hs, fra_eq (o := p * D - a) (o' := p * D' - b) a2 b2 (by rw [Int.sub_mul, Int.sub_mul, hs, Int.mul_right_comm])]
      exact R4
theorem far_z (hn : n ≤ 5) (hF : 20 < F) (hv : NvOk n nv) (hB : 0 ≤ B ∧ B ≤ 2) {p : Int} {f : Nat → Int} {fr fs : Nat → Int64} (h : ∀ i, i < n → f_L_forceAt (zI (i : Int)) (zL p) (zL 1) fr fs = some (zL (f i))) (hpit : ∀ i, i + 1 < n → pit i = zI (nv i 6)) (hp : -2147483648 ≤ p ∧ p ≤ 2147483647) (x : Int) (hn1 : 1 ≤ n) :
    iter (un2 (fb_X_stretch_43 F (zI p) fr fs pit (zI (n : Int)) (zI B))) F (zL x, (0 : Int32)) = some (zL (x + sm (fun i => B * nv i 6 * sm f (i + 1)) (n - 1))) := by
  have loop := iter_for (body := un2 (fb_X_stretch_43 F (zI p) fr fs pit (zI (n : Int)) (zI B))) (F := F) (s := (zL x, (0 : Int32))) (fun k z => z = (zL (x + sm (fun i => B * nv i 6 * sm f (i + 1)) k), zI (k : Int))) (fun q => q = zL (x + sm (fun i => B * nv i 6 * sm f (i + 1)) (n - 1))) (n - 1) (by omega) (by rw [sm_0, Int.add_zero]; rfl) ?_ ?_
  · obtain ⟨q, e, rfl⟩ := loop
    exact e
  · rintro k z hk rfl
    have v := hv k (by omega)
    have m1 := mul_bd hB.1 (show 0 ≤ nv k 6 by omega) hB.2 (show nv k 6 ≤ 2 by omega)
    dsimp only [un2]
    unfold fb_X_stretch_43
    rw [zI_1, if_neg (by rw [zI_le (by omega) (by omega) (by omega) (by omega)]; omega), ldA_z (by omega) (by omega), Option.bind_some, hpit k (by omega), zI_l hp.1 hp.2, borne_z (F := F) hn (by omega) h (show k < n by omega), Option.bind_some]
    simp only [nm]
    rw [zI_mul, zI_l (by omega) (by omega), zL_mul, zL_add]
    refine ⟨_, rfl, ?_⟩
    have es : sm (fun i => B * nv i 6 * sm f (i + 1)) (k + 1) = sm (fun i => B * nv i 6 * sm f (i + 1)) k + B * nv k 6 * sm f (k + 1) := rfl
    rw [es, Int.add_assoc]
  · rintro z rfl
    dsimp only [un2]
    unfold fb_X_stretch_43
    rw [zI_1, if_pos (by rw [zI_le (by omega) (by omega) (by omega) (by omega)]; omega)]
    exact ⟨_, rfl, rfl⟩
theorem mfar_z (hn : n ≤ 5) (hF : 20 < F) (hv : NvOk n nv) (hB : 0 ≤ B ∧ B ≤ 2) (hnow : ∀ i, i < n → ∀ q, q < 7 → now (7 * i + q) = zI (nv i q)) {f : Nat → Int} {sl mb : Nat → Int64} {lO lU : Int64} (h : ∀ i, i < n → f_M_forceThere (zI (i : Int)) sl mb lO lU = some (zL (f i))) (x : Int) (hn1 : 1 ≤ n) :
    iter (un2 (fb_M_stretch_41 F now (zI (n : Int)) (zI B) sl mb lO lU)) F (zL x, (0 : Int32)) = some (zL (x + sm (fun i => B * nv i 6 * sm f (i + 1)) (n - 1))) := by
  have loop := iter_for (body := un2 (fb_M_stretch_41 F now (zI (n : Int)) (zI B) sl mb lO lU)) (F := F) (s := (zL x, (0 : Int32))) (fun k z => z = (zL (x + sm (fun i => B * nv i 6 * sm f (i + 1)) k), zI (k : Int))) (fun q => q = zL (x + sm (fun i => B * nv i 6 * sm f (i + 1)) (n - 1))) (n - 1) (by omega) (by rw [sm_0, Int.add_zero]; rfl) ?_ ?_
  · obtain ⟨q, e, rfl⟩ := loop
    exact e
  · rintro k z hk rfl
    have v := hv k (by omega)
    dsimp only [un2]
    unfold fb_M_stretch_41
    rw [i1, zI_sub, if_neg (by rw [zI_le (by omega) (by omega) (by omega) (by omega)]; omega), show (6 : Int32) = zI ((6 : Nat) : Int) from rfl, of_z hn hnow (show k < n by omega) (by omega), Option.bind_some, mborne_z (F := F) hn (by omega) h (show k < n by omega), Option.bind_some]
    simp only [nm]
    rw [zI_l (by omega) (by omega), zI_l (by omega) (by omega), zL_mul, zL_mul, zL_add, ← i1, zI_1]
    refine ⟨_, rfl, ?_⟩
    have es : sm (fun i => B * nv i 6 * sm f (i + 1)) (k + 1) = sm (fun i => B * nv i 6 * sm f (i + 1)) k + B * nv k 6 * sm f (k + 1) := rfl
    rw [es, Int.add_assoc]
  · rintro z rfl
    dsimp only [un2]
    unfold fb_M_stretch_41
    rw [i1, zI_sub, if_pos (by rw [zI_le (by omega) (by omega) (by omega) (by omega)]; omega)]
    exact ⟨_, rfl, rfl⟩
theorem far_bd (hv : NvOk n nv) (hB : 0 ≤ B ∧ B ≤ 2) (hn : n ≤ 5) {f : Nat → Int} {c : Int} (hc : 0 ≤ c) (h : ∀ i, i < n → 0 ≤ f i ∧ f i ≤ c) : ∀ k, k + 1 ≤ n → 0 ≤ sm (fun i => B * nv i 6 * sm f (i + 1)) k ∧ sm (fun i => B * nv i 6 * sm f (i + 1)) k ≤ (k : Int) * (4 * (5 * c)) := by
  intro k hk
  refine sm_bd (n := n) (fun i hi => ?_) (by omega)
  have v := hv i hi
  have m1 := mul_bd hB.1 (show 0 ≤ nv i 6 by omega) hB.2 (show nv i 6 ≤ 2 by omega)
  have s1 := sm_bd h (show i + 1 ≤ n by omega)
  have s2 : ((i + 1 : Nat) : Int) * c ≤ 5 * c := Int.mul_le_mul_of_nonneg_right (by omega) hc
  exact mul_bd m1.1 s1.1 (by omega) (by omega)
theorem if_bolts (hn : n ≤ 5) {α : Type} (f : Int32 → α) : (if zI (n : Int) ≤ (0 : Int32) then f 0 else f 1) = f (zI (b01 (0 < n))) := by
  by_cases w : 0 < n
  · rw [if_neg (by rw [i0, zI_le (by omega) (by omega) (by omega) (by omega)]; omega), b01_t w]; rfl
  · rw [if_pos (by rw [i0, zI_le (by omega) (by omega) (by omega) (by omega)]; omega), b01_f w]; rfl
theorem if_many (hn : n ≤ 5) : zI (n : Int) = (0 : Int32) ↔ ¬ 0 < n := by
  rw [i0, zI_eq (by omega) (by omega) (by omega) (by omega)]; omega
theorem op_stretch (hJt : Jt n nv A B) (hF : 300 < F) {bn ju jl many mu ml : Int32} (J : JX n nv A B g c y s u o pit bn ju jl) (X : MX n nv A B now many mu ml) (x1 : Int32) (way0 wb0 : Nat → Int32) (kn0 tot0 : Int32) (kd0 wh0 : Nat → Int32) (ov0 un0 : Nat → Int64) (eO0 eU0 : Int64) (dO0 dU0 : Nat → Int64) (sO0 sU0 : Int64) (st0 : Nat → Int32) (re0 fr0 fs0 dr0 ds0 : Nat → Int64) (lu0 : Int64) (bf0 bl0 ba0 sc0 : Nat → Int64) (fR0 fS0 : Int64) (hK : KnG n nv A B kn0 tot0 kd0 wh0 ov0 un0 eO0 eU0) (mo0 : Nat → Int32) (uu0 : Int64) (sl0 mb0 ss0 sb0 of0 : Nat → Int64) (be0 : Nat → Int32) (bs0 : Int32) (ma0 : Nat → Int64) (lO0 lU0 : Int64) (mt0 : Int32) (mk0 mw0 : Nat → Int32) (mv0 mn0 : Nat → Int64) (ha0 : Nat → Int32) (nO0 nU0 : Int64) (me0 fe0 : Nat → Int32) (aO0 aU0 bO0 bU0 : Nat → Int64) (hf : ∀ i, i < 5 → fe0 i = 0) (nu : Nat → Int64) (sz : Int32) (row : Nat → Int64) (rm th : Int32) (hR : RowEq nu sz row rm) :
    ∃ (r : Int32) (way1 wb1 : Nat → Int32) (kn1 tot1 : Int32) (kd1 wh1 : Nat → Int32) (ov1 un1 : Nat → Int64) (eO1 eU1 : Int64) (dO1 dU1 : Nat → Int64) (sO1 sU1 : Int64) (st1 : Nat → Int32) (re1 fr1 fs1 dr1 ds1 : Nat → Int64) (lu1 : Int64) (bf1 bl1 ba1 sc1 : Nat → Int64) (fR1 fS1 : Int64) (nu1 : Nat → Int64) (sz1 : Int32) (mo1 : Nat → Int32) (uu1 : Int64) (sl1 mb1 ss1 sb1 of1 : Nat → Int64) (be1 : Nat → Int32) (bs1 : Int32) (ma1 : Nat → Int64) (lO1 lU1 : Int64) (mt1 : Int32) (mk1 mw1 : Nat → Int32) (mv1 mn1 : Nat → Int64) (ha1 : Nat → Int32) (nO1 nU1 : Int64) (me1 fe1 : Nat → Int32) (aO1 aU1 bO1 bU1 : Nat → Int64) (row1 : Nat → Int64) (rm1 : Int32), f_X_stretch F x1 way0 wb0 kn0 tot0 kd0 wh0 ov0 un0 eO0 eU0 dO0 dU0 sO0 sU0 st0 re0 fr0 fs0 dr0 ds0 lu0 bf0 bl0 ba0 sc0 fR0 fS0 g c y s u o pit bn ju jl nu sz = some (r, way1, wb1, kn1, tot1, kd1, wh1, ov1, un1, eO1, eU1, dO1, dU1, sO1, sU1, st1, re1, fr1, fs1, dr1, ds1, lu1, bf1, bl1, ba1, sc1, fR1, fS1, nu1, sz1) ∧ f_M_stretch F x1 now many mu ml row rm th mo0 uu0 sl0 mb0 ss0 sb0 of0 be0 bs0 ma0 lO0 lU0 mt0 mk0 mw0 mv0 mn0 ha0 nO0 nU0 me0 fe0 aO0 aU0 bO0 bU0 = some (r, row1, rm1, (0 : Int32), mo1, uu1, sl1, mb1, ss1, sb1, of1, be1, bs1, ma1, lO1, lU1, mt1, mk1, mw1, mv1, mn1, ha1, nO1, nU1, me1, fe1, aO1, aU1, bO1, bU1) ∧
      KnG n nv A B kn1 tot1 kd1 wh1 ov1 un1 eO1 eU1 ∧ (∀ i, i < 5 → fe1 i = 0) ∧ RowEq nu1 sz1 row1 rm1 := by
  obtain ⟨p, rfl, hp1, hp2⟩ := zI_all x1
  have hJt' := hJt
  obtain ⟨hn, hv, hA, hB⟩ := hJt'
  obtain ⟨J1, ho, rfl, rfl, rfl⟩ := J
  obtain ⟨h, rfl, rfl, rfl⟩ := X
  obtain ⟨r, way1, wb1, kn1, tot1, kd1, wh1, ov1, un1, eO1, eU1, dO1, dU1, sO1, sU1, st1, re1, fr1, fs1, dr1, ds1, lu1, bf1, bl1, ba1, sc1, fR1, fS1, e, hK1, hc⟩ := both_come hJt hF ⟨J1, ho, rfl, rfl, rfl⟩ ⟨h, rfl, rfl, rfl⟩ (p := p) ⟨hp1, hp2⟩ (0 < n) way0 wb0 kn0 tot0 kd0 wh0 ov0 un0 eO0 eU0 dO0 dU0 sO0 sU0 st0 re0 fr0 fs0 dr0 ds0 lu0 bf0 bl0 ba0 sc0 fR0 fS0 hK mo0 uu0 sl0 mb0 ss0 sb0 of0 be0 bs0 ma0 lO0 lU0 mt0 mk0 mw0 mv0 mn0 ha0 nO0 nU0 me0 fe0 aO0 aU0 bO0 bU0 hf
  unfold f_X_stretch f_M_stretch
  rw [if_bolts hn (fun q => fj_X_stretch_17 F (zI p) (zI p) q way0 wb0 kn0 tot0 kd0 wh0 ov0 un0 eO0 eU0 dO0 dU0 sO0 sU0 st0 re0 fr0 fs0 dr0 ds0 lu0 bf0 bl0 ba0 sc0 fR0 fS0 g c y s u o pit (zI (n : Int)) (zI A) (zI B) nu sz)]
  unfold fj_X_stretch_17
  rw [e]
  simp only [bd28, Option.bind_some]
  rcases hc with ⟨hr, hno⟩ | ⟨hyes, hkn, hEv, heO, heU, r', mo1, uu1, sl1, mb1, ss1, sb1, of1, be1, bs1, ma1, lO1, lU1, mt1, mk1, mw1, mv1, mn1, ha1, nO1, nU1, me1, fe1, aO1, aU1, bO1, bU1, em, hf1, hc⟩
  · rw [hr, if_neg (by decide)]
    refine ⟨_, way1, wb1, kn1, tot1, kd1, wh1, ov1, un1, eO1, eU1, dO1, dU1, sO1, sU1, st1, re1, fr1, fs1, dr1, ds1, lu1, bf1, bl1, ba1, sc1, fR1, fS1, nu, sz, mo0, uu0, sl0, mb0, ss0, sb0, of0, be0, bs0, ma0, lO0, lU0, mt0, mk0, mw0, mv0, mn0, ha0, nO0, nU0, me0, fe0, aO0, aU0, bO0, bU0, row, rm, rfl, ?_, hK1, hf, hR⟩
    by_cases w : 0 < n
    · rw [if_neg (fun z => (if_many hn).mp z w), misLoad_z ⟨hp1, hp2⟩, Option.bind_some, if_pos (b01_ne0.mpr (fun z => hno ⟨z.1, z.2, w⟩))]; rfl
    · rw [if_pos ((if_many hn).mpr w)]; rfl
  · rw [if_neg (fun z => (if_many hn).mp z hyes.2.2), misLoad_z ⟨hp1, hp2⟩, Option.bind_some, if_neg (fun z => (b01_ne0.mp z) ⟨hyes.1, hyes.2.1⟩), em]
    simp only [bd27, Option.bind_some]
    rcases hc with ⟨hr, hr', hpk, hla, hall⟩ | ⟨hr, hr', hpk, hlO, hlU, D, f, d, D', f', d', md', FA, FM, hsc, hsat, hsat', hmds, hmo, hcl, hml⟩
    · rw [hr, hr', if_neg (by decide), if_pos rfl]
      exact ⟨_, way1, wb1, kn1, tot1, kd1, wh1, ov1, un1, eO1, eU1, dO1, dU1, sO1, sU1, st1, re1, fr1, fs1, dr1, ds1, lu1, bf1, bl1, ba1, sc1, fR1, fS1, nu, sz, mo1, uu1, sl1, mb1, ss1, sb1, of1, be1, bs1, ma1, lO1, lU1, mt1, mk1, mw1, mv1, mn1, ha1, nO1, nU1, me1, fe1, aO1, aU1, bO1, bU1, row, rm, rfl, rfl, hK1, hf1, hR⟩
    · obtain ⟨a1, a2, a3, a4⟩ := FA
      obtain ⟨b1, b2, b3, b4⟩ := FM
      have h0n := hyes.2.2
      have q1 := mul_bd (show 0 ≤ D by omega) hyes.1 a3 hyes.2.1
      have q2 := mul_bd (show 0 ≤ D' by omega) hyes.1 b3 hyes.2.1
      have f1 := far_z (F := F) hn (by omega) hv hB (fun k hk => (a4 k hk).1) J1.2.2.2.2.2 ⟨hp1, hp2⟩ (d 0) h0n
      have g1 := mfar_z (F := F) hn (by omega) hv hB h (fun k hk => (b4 k hk).1) (d' 0) h0n
      have s1 := far_bd (f := f) hv hB hn (c := 299269 * 300) (by omega) (fun k hk => by have := (a4 k hk).2.2.1; omega) (n - 1) (by omega)
      have s2 := far_bd (f := f') hv hB hn (c := 299269 * 300) (by omega) (fun k hk => by have := (b4 k hk).2.2.1; omega) (n - 1) (by omega)
      have hs := sm_sc (n := n) (k := n - 1) (f := fun i => B * nv i 6 * sm f (i + 1)) (f' := fun i => B * nv i 6 * sm f' (i + 1)) (D := D) (D' := D') (fun k hk => by
        rw [Int.mul_assoc, sm_sc (k := k + 1) (fun k hk => (hsc k hk).1) (show k + 1 ≤ n by omega)]; ac_rfl) (by omega)
      have d0 := (a4 0 h0n).2.2.2
      have d0' := (b4 0 h0n).2.2.2
      have c1 := (a4 0 h0n).2.1
      have c2 := (b4 0 h0n).2.1
      have hsd := (hsc 0 h0n).2
      have hnn : ((n - 1 : Nat) : Int) ≤ 4 := by omega
      have s3 : ((n - 1 : Nat) : Int) * (4 * (5 * (299269 * 300))) ≤ 4 * (4 * (5 * (299269 * 300))) := Int.mul_le_mul_of_nonneg_right hnn (by omega)
      generalize sm (fun i => B * nv i 6 * sm f (i + 1)) (n - 1) = a at *
      generalize sm (fun i => B * nv i 6 * sm f' (i + 1)) (n - 1) = b at *
      obtain ⟨nu1, sz1, e1, R1⟩ := fraction_z (F := F) (by omega) (RowC.nil nu) (by show 0 + 2 ≤ 8; omega) (o := d 0 + a) (u := D) (by omega) (by omega) a2 (by omega)
      obtain ⟨row1, rm1, e3, R3⟩ := tellFraction_z (F := F) (by omega) (RowC.nil row) (by show 0 + 2 ≤ 64; omega) (o := d' 0 + b) (u := D') (by omega) (by omega) b2 (by omega)
      rw [hr, hr', if_pos (show zI 0 = 0 from rfl), if_neg (by decide), zI_l (by omega) (by omega), show (0 : Int32) = zI ((0 : Nat) : Int) from rfl, show (1 : Int64) = zL 1 from rfl, c1, Option.bind_some, c2, Option.bind_some]
      rw [show (zI ((0 : Nat) : Int)) = (0 : Int32) from rfl, f1, Option.bind_some, a1, e1, g1, Option.bind_some, b1, Option.bind_some, e3]
      simp only [bd2, Option.bind_some]
      refine ⟨_, way1, wb1, kn1, tot1, kd1, wh1, ov1, un1, eO1, eU1, dO1, dU1, sO1, sU1, st1, re1, fr1, fs1, dr1, ds1, zL D, bf1, bl1, ba1, sc1, fR1, fS1, nu1, sz1, mo1, uu1, sl1, mb1, ss1, sb1, of1, be1, bs1, ma1, lO1, lU1, mt1, mk1, mw1, mv1, mn1, ha1, nO1, nU1, me1, fe1, aO1, aU1, bO1, bU1, row1, rm1, rfl, rfl, hK1, hf1, [] ++ fra (d 0 + a) D, by show 2 ≤ 8; omega, R1, ?_⟩
      rw [fra_eq (o := d 0 + a) (o' := d' 0 + b) a2 b2 (by rw [Int.add_mul, Int.add_mul, hs, hsd])]
      exact R3
end OPS1
