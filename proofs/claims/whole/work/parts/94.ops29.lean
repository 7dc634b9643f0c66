/-! AS LOAD FALLS: opens -/
section OPS29
variable {n : Nat} {nv : Nat → Nat → Int} {A B : Int} {F : Nat} {g c y s u pit o now : Nat → Int32} {m : Nat} {σ σ' : Nat → Int}
theorem opn_lt (H : Nat) (fr fs : Nat → Int) {j k : Nat} (e : opn H fr fs k = (j : Int)) : opn H fr fs (k + 1) = if H.testBit k = true then (if fs k * fr j < fs j * fr k then (k : Int) else (j : Int)) else (j : Int) := by
  have ne : ¬ (j : Int) = -1 := by omega
  rw [opn_s, e, if_neg ne, Int.toNat_natCast]
theorem seekL_z (hn : n ≤ 5) (hF : 10 < F) {H : Nat} {fr fs f : Nat → Int} {fr1 fo : Nat → Int64} {K x : Int} (hK : 0 < K) (hfr : ∀ i, i < n → fr1 i = zL (fr i)) (hfo : ∀ i, i < n → fo i = zL (f i)) (hb : ∀ i, i < n → (0 ≤ fr i ∧ fr i ≤ 299269) ∧ (H.testBit i = true ↔ 0 < fr i) ∧ (0 ≤ f i ∧ f i ≤ 90000000)) (hrel : ∀ i, i < n → f i * K = fr i * x + fs i) :
    ∃ v : Int, iter (un3 (fb_F_seekOpening_13 fo fr1 (zI (n : Int)))) F ((-1 : Int32), (1 : Int64), (0 : Int32)) = some (zI (opn H fr fs n), zL v) ∧ ∀ j : Nat, opn H fr fs n = (j : Int) → v = fr j := by
  have loop := iter_for (body := un3 (fb_F_seekOpening_13 fo fr1 (zI (n : Int)))) (F := F) (s := ((-1 : Int32), (1 : Int64), (0 : Int32)))
    (fun k z => ∃ v : Int, z = (zI (opn H fr fs k), zL v, zI (k : Int)) ∧ ∀ j : Nat, opn H fr fs k = (j : Int) → v = fr j)
    (fun z => ∃ v : Int, z = (zI (opn H fr fs n), zL v) ∧ ∀ j : Nat, opn H fr fs n = (j : Int) → v = fr j) n (by omega) ⟨1, rfl, fun j hj => absurd hj (by show ¬ (-1 : Int) = (j : Int); omega)⟩ ?_ ?_
  · obtain ⟨z, e, v, rfl, hv⟩ := loop
    exact ⟨v, e, hv⟩
  · rintro k z hk ⟨v, rfl, hv⟩
    obtain ⟨b1, b2, b3⟩ := hb k hk
    dsimp only [un3]
    unfold fb_F_seekOpening_13
    rw [if_neg (by rw [zI_le (by omega) (by omega) (by omega) (by omega)]; omega), ldA_z (f := fr1) (j := k) (by omega) (by omega), Option.bind_some, hfr k hk]
    have set : opn H fr fs (k + 1) = (k : Int) → ∃ s', fj_F_seekOpening_74 (zI (k : Int)) (zL (fr k)) = some (.inl s') ∧ ∃ v : Int, s' = (zI (opn H fr fs (k + 1)), zL v, zI ((k + 1 : Nat) : Int)) ∧ ∀ j : Nat, opn H fr fs (k + 1) = (j : Int) → v = fr j := by
      intro e
      unfold fj_F_seekOpening_74
      simp only [fj_F_seekOpening_81, nm, zI_1]
      refine ⟨_, rfl, fr k, by rw [e], fun j hj => ?_⟩
      rw [e] at hj
      rw [show j = k by omega]
    have keep : opn H fr fs (k + 1) = opn H fr fs k → ∃ s', fj_F_seekOpening_81 (zI (opn H fr fs k)) (zL v) (zI (k : Int)) = some (.inl s') ∧ ∃ v : Int, s' = (zI (opn H fr fs (k + 1)), zL v, zI ((k + 1 : Nat) : Int)) ∧ ∀ j : Nat, opn H fr fs (k + 1) = (j : Int) → v = fr j := by
      intro e
      simp only [fj_F_seekOpening_81, nm, zI_1]
      exact ⟨_, rfl, v, by rw [e], fun j hj => hv j (by rw [← e]; exact hj)⟩
    by_cases w : 0 < fr k
    · have hbit := b2.mpr w
      rw [if_neg (show ¬ zL (fr k) ≤ (0 : Int64) from fun z => absurd ((zL_le (a := fr k) (b := 0) (by omega) (by omega) (by omega) (by omega)).mp z) (by omega))]
      rcases opn_cs H fr fs k with ⟨e, -⟩ | ⟨j, j1, j2, j3⟩
      · rw [e, if_pos (show zI (-1) < (0 : Int32) by decide)]
        exact set (by rw [opn_s, if_pos hbit, if_pos e])
      · obtain ⟨c1, c2, c3⟩ := hb j (by omega)
        have hvj := hv j j3
        have e1 := opn_lt H fr fs j3
        rw [if_pos hbit] at e1
        rw [j3] at keep ⊢
        have x1 := mul_bd c3.1 b1.1 c3.2 b1.2
        have x2 := mul_bd b3.1 c1.1 b3.2 c1.2
        rw [if_neg (show ¬ zI (j : Int) < (0 : Int32) from fun z => absurd ((zI_lt (a := (j : Int)) (b := 0) (by omega) (by omega) (by omega) (by omega)).mp z) (by omega)), ldA_z (f := fo) (j := k) (by omega) (by omega), Option.bind_some, ldA_z (f := fo) (j := j) (by omega) (by omega), Option.bind_some, hfo k hk, hfo j (by omega), zL_mul, zL_mul, hvj]
        have key : f k * fr j < f j * fr k ↔ fs k * fr j < fs j * fr k := by
          have r1 := hrel k hk
          have r2 := hrel j (by omega)
          have m1 : f k * fr j * K = fr k * fr j * x + fs k * fr j := by
            have : f k * fr j * K = (f k * K) * fr j := by ac_rfl
            rw [this, r1]; grind
          have m2 : f j * fr k * K = fr k * fr j * x + fs j * fr k := by
            have : f j * fr k * K = (f j * K) * fr k := by ac_rfl
            rw [this, r2]; grind
          constructor
          · intro h
            have := Int.mul_lt_mul_of_pos_right h hK
            omega
          · intro h
            refine Int.lt_of_mul_lt_mul_right (a := K) ?_ (by omega)
            omega
        by_cases q : fs k * fr j < fs j * fr k
        · have := key.mpr q
          rw [if_pos q] at e1
          rw [if_neg (fun z => absurd ((zL_le (by omega) (by omega) (by omega) (by omega)).mp z) (by omega))]
          exact set e1
        · rw [if_neg q] at e1
          rw [if_pos ((zL_le (by omega) (by omega) (by omega) (by omega)).mpr (Int.not_lt.mp fun z => q (key.mp z)))]
          rw [← hvj]
          exact keep e1
    · rw [if_pos (show zL (fr k) ≤ (0 : Int64) from (zL_le (a := fr k) (b := 0) (by omega) (by omega) (by omega) (by omega)).mpr (by omega))]
      exact keep (by rw [opn_s, if_neg (fun z => w (b2.mp z))])
  · rintro z ⟨v, rfl, hv⟩
    dsimp only [un3]
    unfold fb_F_seekOpening_13
    rw [if_pos (Int32.le_refl _)]
    exact ⟨_, rfl, v, rfl, hv⟩
theorem mbear_z (hn : n ≤ 5) (hF : 10 < F) {p : Int} {D : Int} {f d : Nat → Int} {uu : Int64} {sl mb ss sb : Nat → Int64} {lO lU : Int64} (hp : 0 ≤ p ∧ p ≤ 300) (FM : FMt n p D f d uu sl mb ss sb lO lU) : iter (un2 (fb_M_opens_36 (zI (n : Int)) sl mb lO lU)) F ((0 : Int32), (0 : Int32)) = some (zI (msk (fun i => decide (0 < f i)) n : Int)) := by
  obtain ⟨a1, a2, a3, a4⟩ := FM
  have q1 := mul_bd (show 0 ≤ D by omega) hp.1 a3 hp.2
  have loop := iter_for (body := un2 (fb_M_opens_36 (zI (n : Int)) sl mb lO lU)) (F := F) (s := ((0 : Int32), (0 : Int32))) (fun k z => z = (zI (msk (fun i => decide (0 < f i)) k : Int), zI (k : Int))) (fun r => r = zI (msk (fun i => decide (0 < f i)) n : Int)) n (by omega) rfl ?_ ?_
  · obtain ⟨r, e, rfl⟩ := loop
    exact e
  · rintro k z hk rfl
    obtain ⟨f1, -, f3, -⟩ := a4 k hk
    have hm : msk (fun i => decide (0 < f i)) k < 32 := msk_32 _ (by omega)
    dsimp only [un2]
    unfold fb_M_opens_36
    rw [if_neg (by rw [zI_le (by omega) (by omega) (by omega) (by omega)]; omega), f1, Option.bind_some]
    by_cases w : 0 < f k
    · rw [if_neg (show ¬ zL (f k) ≤ (0 : Int64) from fun z => absurd ((zL_le (a := f k) (b := 0) (by omega) (by omega) (by omega) (by omega)).mp z) (by omega))]
      simp only [fj_M_opens_62, nm, zI_1]
      rw [bit_or _ hm k (by omega)]
      have e : msk (fun i => decide (0 < f i)) (k + 1) = msk (fun i => decide (0 < f i)) k ||| 2 ^ k := if_pos (by simp [w])
      exact ⟨_, rfl, by rw [e]⟩
    · rw [if_pos (show zL (f k) ≤ (0 : Int64) from (zL_le (a := f k) (b := 0) (by omega) (by omega) (by omega) (by omega)).mpr (by omega))]
      simp only [fj_M_opens_62, nm, zI_1]
      rw [bit_or0 _ hm]
      have e : msk (fun i => decide (0 < f i)) (k + 1) = msk (fun i => decide (0 < f i)) k := if_neg (by simp [w])
      exact ⟨_, rfl, by rw [e]⟩
  · rintro z rfl
    dsimp only [un2]
    unfold fb_M_opens_36
    rw [if_pos (Int32.le_refl _)]
    exact ⟨_, rfl, rfl⟩
theorem mopen_z (hn : n ≤ 5) (hF : 10 < F) {H : Nat} (hH : H < 32) {fr fs : Nat → Int} {sl mb : Nat → Int64} (hsl : ∀ i, i < n → sl i = zL (fr i)) (hmb : ∀ i, i < n → mb i = zL (fs i)) (hb : ∀ i, i < n → H.testBit i = true → (0 < fr i ∧ fr i ≤ 299269) ∧ (-50000000000000 ≤ fs i ∧ fs i ≤ 50000000000000)) :
    iter (un2 (fb_M_opens_91 (zI (H : Int)) (zI (n : Int)) sl mb)) F ((-1 : Int32), (0 : Int32)) = some (zI (opn H fr fs n)) := by
  have loop := iter_for (body := un2 (fb_M_opens_91 (zI (H : Int)) (zI (n : Int)) sl mb)) (F := F) (s := ((-1 : Int32), (0 : Int32))) (fun k z => z = (zI (opn H fr fs k), zI (k : Int))) (fun r => r = zI (opn H fr fs n)) n (by omega) rfl ?_ ?_
  · obtain ⟨r, e, rfl⟩ := loop
    exact e
  · rintro k z hk rfl
    have hno := bit_no H hH k (by omega)
    dsimp only [un2]
    unfold fb_M_opens_91
    rw [if_neg (by rw [zI_le (by omega) (by omega) (by omega) (by omega)]; omega)]
    by_cases w : H.testBit k = true
    · obtain ⟨b1, b2⟩ := hb k hk w
      rw [if_neg (fun z => by have := hno.mp z; rw [w] at this; cases this)]
      rcases opn_cs H fr fs k with ⟨e, -⟩ | ⟨j, j1, j2, j3⟩
      · rw [e, if_pos (show zI (-1) = (-1 : Int32) from rfl)]
        simp only [fj_M_opens_151, fj_M_opens_154, nm, zI_1]
        exact ⟨_, rfl, by rw [opn_s, if_pos w, if_pos e]⟩
      · obtain ⟨c1, c2⟩ := hb j (by omega) j2
        have e1 := opn_lt H fr fs j3
        rw [if_pos w] at e1
        rw [j3, if_neg (show ¬ zI (j : Int) = (-1 : Int32) from fun z => absurd ((zI_eq (a := (j : Int)) (b := -1) (by omega) (by omega) (by omega) (by omega)).mp (z.trans im1)) (by omega)), ldA_z (f := mb) (j := k) (by omega) (by omega), Option.bind_some, ldA_z (f := sl) (j := k) (by omega) (by omega), Option.bind_some, ldA_z (f := mb) (j := j) (by omega) (by omega), Option.bind_some, ldA_z (f := sl) (j := j) (by omega) (by omega), Option.bind_some, hmb k hk, hsl k hk, hmb j (by omega), hsl j (by omega), zL_neg, zL_neg, isGreater_z (by omega) (by omega) b1 c1, Option.bind_some]
        have key : -fs j * fr k < -fs k * fr j ↔ fs k * fr j < fs j * fr k := by
          rw [Int.neg_mul, Int.neg_mul]; omega
        by_cases q : fs k * fr j < fs j * fr k
        · rw [if_pos q] at e1
          rw [if_pos (key.mpr q), if_neg (show ¬ (1 : Int32) = 0 by decide)]
          simp only [fj_M_opens_151, fj_M_opens_154, nm, zI_1]
          exact ⟨_, rfl, by rw [e1]⟩
        · rw [if_neg q] at e1
          rw [if_neg (fun z => q (key.mp z)), if_pos rfl]
          simp only [fj_M_opens_154, nm, zI_1]
          exact ⟨_, rfl, by rw [e1]⟩
    · rw [if_pos (hno.mpr (by simpa using w))]
      simp only [fj_M_opens_154, nm, zI_1]
      exact ⟨_, rfl, by rw [opn_s, if_neg w]⟩
  · rintro z rfl
    dsimp only [un2]
    unfold fb_M_opens_91
    rw [if_pos (Int32.le_refl _)]
    exact ⟨_, rfl, rfl⟩
/-- the lines of those that bear go through the state at the load itself -/
theorem bear_line (hv : NvOk n nv) (hA : 0 ≤ A ∧ A ≤ 2) (hB : 0 ≤ B ∧ B ≤ 2) {p D : Int} {f d : Nat → Int} (hsat : SAt n nv A B m p 1 D f d) {H : Nat} (hH : ∀ i, i < n → (H.testBit i = true ↔ 0 < f i)) (hne : ∃ i, i < n ∧ H.testBit i = true) {K : Int} {fr fs dr ds : Nat → Int} (hL : LnF n nv A B H (sst nv D f) K fr fs dr ds) : ∀ i, i < n → f i * K = fr i * (p * D) + fs i := by
  have hnn := (sat_nn hv rfl hsat).1
  obtain ⟨⟨N, hN, hE, hrow, hl, ho⟩, -⟩ := hsat
  rw [Int.mul_one] at hN
  have r1 := hrow.scale (t := K)
  have r2 := hL.row (p * D) 1
  have eN : N * K = K * (p * D) := by rw [hN, Int.mul_comm]
  rw [eN] at r1
  have all := row_lin hv hA hB hne r1 r2 (fun i hi w => by
    have h0 : f i = 0 := by
      have := (hnn i hi).1
      refine Classical.byContradiction fun z => w ((hH i hi).mpr (by omega))
    exact ⟨by rw [h0, Int.zero_mul], (lnF_on hv hL (p * D) hi).2 w⟩) (fun i hi w => by
    have hf := (hH i hi).mp w
    have on := (lnF_on hv hL (p * D) hi).1 w
    have hm : m.testBit i = true := Classical.byContradiction fun z => by have := ho i hi z; omega
    have hd : d i = sst nv D f i + nv i 0 * f i := by
      unfold sst
      rcases hl i hi hm with ⟨a, b⟩ | ⟨a, b, e⟩ | ⟨a, e⟩
      · omega
      · rw [if_neg (by omega), e]; omega
      · rw [if_pos a, e]; grind
    rw [on, hd]
    grind)
  intro i hi
  have := (all i hi).1
  omega
theorem op_opens (hJt : Jt n nv A B) (hF : 300 < F) {bn ju jl many mu ml : Int32} (J : JX n nv A B g c y s u o pit bn ju jl) (X : MX n nv A B now many mu ml) (x1 : Int32) (way0 wb0 : Nat → Int32) (kn0 tot0 : Int32) (kd0 wh0 : Nat → Int32) (ov0 un0 : Nat → Int64) (eO0 eU0 : Int64) (dO0 dU0 : Nat → Int64) (sO0 sU0 : Int64) (st0 : Nat → Int32) (re0 fr0 fs0 dr0 ds0 : Nat → Int64) (lu0 : Int64) (bf0 bl0 ba0 sc0 : Nat → Int64) (fR0 fS0 : Int64) (hK : KnG n nv A B kn0 tot0 kd0 wh0 ov0 un0 eO0 eU0) (mo0 : Nat → Int32) (uu0 : Int64) (sl0 mb0 ss0 sb0 of0 : Nat → Int64) (be0 : Nat → Int32) (bs0 : Int32) (ma0 : Nat → Int64) (lO0 lU0 : Int64) (mt0 : Int32) (mk0 mw0 : Nat → Int32) (mv0 mn0 : Nat → Int64) (ha0 : Nat → Int32) (nO0 nU0 : Int64) (me0 fe0 : Nat → Int32) (aO0 aU0 bO0 bU0 : Nat → Int64) (hf : ∀ i, i < 5 → fe0 i = 0) (se : Nat → Int64) (ut oO oU : Int64) (fo : Nat → Int64) (lf : Int32) (so : Nat → Int64) (mun : Int64) (nu : Nat → Int64) (sz : Int32) (row : Nat → Int64) (rm th : Int32) (hR : RowEq nu sz row rm) :
    ∃ (r : Int32) (way1 wb1 : Nat → Int32) (kn1 tot1 : Int32) (kd1 wh1 : Nat → Int32) (ov1 un1 : Nat → Int64) (eO1 eU1 : Int64) (dO1 dU1 : Nat → Int64) (sO1 sU1 : Int64) (st1 : Nat → Int32) (re1 fr1 fs1 dr1 ds1 : Nat → Int64) (lu1 : Int64) (bf1 bl1 ba1 sc1 : Nat → Int64) (fR1 fS1 : Int64) (se1 : Nat → Int64) (ut1 oO1 oU1 : Int64) (fo1 : Nat → Int64) (lf1 : Int32) (nu1 : Nat → Int64) (sz1 : Int32) (mo1 : Nat → Int32) (uu1 : Int64) (sl1 mb1 ss1 sb1 of1 : Nat → Int64) (be1 : Nat → Int32) (bs1 : Int32) (ma1 : Nat → Int64) (lO1 lU1 : Int64) (mt1 : Int32) (mk1 mw1 : Nat → Int32) (mv1 mn1 : Nat → Int64) (ha1 : Nat → Int32) (nO1 nU1 : Int64) (me1 fe1 : Nat → Int32) (aO1 aU1 bO1 bU1 : Nat → Int64) (so1 : Nat → Int64) (mun1 : Int64) (row1 : Nat → Int64) (rm1 : Int32), f_X_opens F x1 se ut oO oU fo lf way0 wb0 kn0 tot0 kd0 wh0 ov0 un0 eO0 eU0 dO0 dU0 sO0 sU0 st0 re0 fr0 fs0 dr0 ds0 lu0 bf0 bl0 ba0 sc0 fR0 fS0 g c y s u o pit bn ju jl nu sz = some (r, se1, ut1, oO1, oU1, fo1, lf1, way1, wb1, kn1, tot1, kd1, wh1, ov1, un1, eO1, eU1, dO1, dU1, sO1, sU1, st1, re1, fr1, fs1, dr1, ds1, lu1, bf1, bl1, ba1, sc1, fR1, fS1, nu1, sz1) ∧ f_M_opens F x1 now many mu ml row rm th mo0 uu0 sl0 mb0 ss0 sb0 of0 be0 bs0 ma0 lO0 lU0 mt0 mk0 mw0 mv0 mn0 ha0 nO0 nU0 me0 fe0 aO0 aU0 bO0 bU0 so mun = some (r, row1, rm1, (0 : Int32), mo1, uu1, sl1, mb1, ss1, sb1, of1, be1, bs1, ma1, lO1, lU1, mt1, mk1, mw1, mv1, mn1, ha1, nO1, nU1, me1, fe1, aO1, aU1, bO1, bU1, so1, mun1) ∧
      KnG n nv A B kn1 tot1 kd1 wh1 ov1 un1 eO1 eU1 ∧ (∀ i, i < 5 → fe1 i = 0) ∧ RowEq nu1 sz1 row1 rm1 := by
  obtain ⟨p, rfl, hp1, hp2⟩ := zI_all x1
  have hJt' := hJt
  obtain ⟨hn, hv, hA, hB⟩ := hJt'
  obtain ⟨J1, ho, rfl, rfl, rfl⟩ := J
  obtain ⟨h, rfl, rfl, rfl⟩ := X
  obtain ⟨r, way1, wb1, kn1, tot1, kd1, wh1, ov1, un1, eO1, eU1, dO1, dU1, sO1, sU1, st1, re1, fr1, fs1, dr1, ds1, lu1, bf1, bl1, ba1, sc1, fR1, fS1, e, hK1, hc⟩ := both_come hJt hF ⟨J1, ho, rfl, rfl, rfl⟩ ⟨h, rfl, rfl, rfl⟩ (p := p) ⟨hp1, hp2⟩ (0 < n) way0 wb0 kn0 tot0 kd0 wh0 ov0 un0 eO0 eU0 dO0 dU0 sO0 sU0 st0 re0 fr0 fs0 dr0 ds0 lu0 bf0 bl0 ba0 sc0 fR0 fS0 hK mo0 uu0 sl0 mb0 ss0 sb0 of0 be0 bs0 ma0 lO0 lU0 mt0 mk0 mw0 mv0 mn0 ha0 nO0 nU0 me0 fe0 aO0 aU0 bO0 bU0 hf
  unfold f_X_opens f_M_opens
  rw [if_bolts hn (fun q => fj_X_opens_17 F (zI p) (zI p) q se ut oO oU fo lf way0 wb0 kn0 tot0 kd0 wh0 ov0 un0 eO0 eU0 dO0 dU0 sO0 sU0 st0 re0 fr0 fs0 dr0 ds0 lu0 bf0 bl0 ba0 sc0 fR0 fS0 g c y s u o pit (zI (n : Int)) (zI A) (zI B) nu sz)]
  unfold fj_X_opens_17
  rw [e]
  simp only [bd28, Option.bind_some]
  rcases hc with ⟨hr, hno⟩ | ⟨hyes, hkn, hEv, heO, heU, r', mo1, uu1, sl1, mb1, ss1, sb1, of1, be1, bs1, ma1, lO1, lU1, mt1, mk1, mw1, mv1, mn1, ha1, nO1, nU1, me1, fe1, aO1, aU1, bO1, bU1, em, hf1, hc⟩
  · rw [hr, if_neg (by decide)]
    refine ⟨_, way1, wb1, kn1, tot1, kd1, wh1, ov1, un1, eO1, eU1, dO1, dU1, sO1, sU1, st1, re1, fr1, fs1, dr1, ds1, lu1, bf1, bl1, ba1, sc1, fR1, fS1, se, ut, oO, oU, fo, lf, nu, sz, mo0, uu0, sl0, mb0, ss0, sb0, of0, be0, bs0, ma0, lO0, lU0, mt0, mk0, mw0, mv0, mn0, ha0, nO0, nU0, me0, fe0, aO0, aU0, bO0, bU0, so, mun, row, rm, rfl, ?_, hK1, hf, hR⟩
    by_cases w : 0 < n
    · rw [if_neg (fun z => (if_many hn).mp z w), misLoad_z ⟨hp1, hp2⟩, Option.bind_some, if_pos (b01_ne0.mpr (fun z => hno ⟨z.1, z.2, w⟩))]; rfl
    · rw [if_pos ((if_many hn).mpr w)]; rfl
  · rw [if_neg (fun z => (if_many hn).mp z hyes.2.2), misLoad_z ⟨hp1, hp2⟩, Option.bind_some, if_neg (fun z => (b01_ne0.mp z) ⟨hyes.1, hyes.2.1⟩), em]
    simp only [bd27, Option.bind_some]
    rcases hc with ⟨hr, hr', hpk, hla, hall⟩ | ⟨hr, hr', hpk, hlO, hlU, D, f, d, D', f', d', md', FA, FM, hsc, hsat, hsat', hmds, hmo, hcl, hml⟩
    · rw [hr, hr', if_neg (by decide), if_pos rfl]
      exact ⟨_, way1, wb1, kn1, tot1, kd1, wh1, ov1, un1, eO1, eU1, dO1, dU1, sO1, sU1, st1, re1, fr1, fs1, dr1, ds1, lu1, bf1, bl1, ba1, sc1, fR1, fS1, se, ut, oO, oU, fo, lf, nu, sz, mo1, uu1, sl1, mb1, ss1, sb1, of1, be1, bs1, ma1, lO1, lU1, mt1, mk1, mw1, mv1, mn1, ha1, nO1, nU1, me1, fe1, aO1, aU1, bO1, bU1, so, mun, row, rm, rfl, rfl, hK1, hf1, hR⟩
    · have hp : 0 ≤ p ∧ p ≤ 300 := ⟨hyes.1, hyes.2.1⟩
      have hEO := (gs_ok (n := n) (nv := nv) (A := A) (B := B) hn hv hA hB 15).1
      have hla := leftAfter_z (F := F) hn (by omega) hv ho hEO hEv hp
      have hla : f_G_leftAfter F (zI p) tot1 kd1 wh1 ov1 un1 o (zI (n : Int)) = some (zI (la n nv A B p : Int)) := hla
      have hbk := at_brk hn hv hA hB hp hpk hsat
      have hbk' := at_brk hn hv hA hB hp hpk hsat'
      have hLv := mds_lvm hmds hmo
      have ebe := bear_z (F := F) hn (by omega) hp FA
      have emb := mbear_z (F := F) hn (by omega) hp FM
      obtain ⟨se1, fo1, es, hs⟩ := startFrom_z (F := F) hn (by omega) hv J1 hp FA (zI (la n nv A B p : Int)) se ut fo lf
      obtain ⟨so1, em1, hm1⟩ := laySets_z (F := F) hn (by omega) hv h hp FM so mun
      have hnn := (sat_nn hv rfl hsat).1
      have hnn' := (sat_nn hv rfl hsat').1
      obtain ⟨a1, a2, a3, a4⟩ := FA
      obtain ⟨b1, b2, b3, b4⟩ := FM
      have hσ : ∀ i, i < n → 0 ≤ sst nv D f i ∧ sst nv D f i ≤ 150000000 := fun i hi => sst_bd hv ⟨a2, a3⟩ hi (hbk i hi)
      have hσ' : ∀ i, i < n → 0 ≤ sst nv D' f' i ∧ sst nv D' f' i ≤ 150000000 := fun i hi => sst_bd hv ⟨b2, b3⟩ hi (hbk' i hi)
      have hss : ∀ i, i < n → sst nv D' f' i * D = sst nv D f i * D' := fun i hi => sst_sc a2 b2 (hsc i hi).1
      have hH := fun i (hi : i < n) => (show (msk (fun i => decide (0 < f i)) n).testBit i = true ↔ 0 < f i by rw [msk_test]; simp [hi])
      have hsame : msk (fun i => decide (0 < f' i)) n = msk (fun i => decide (0 < f i)) n := by
        refine bits_ext (msk_32 _ hn) (msk_32 _ hn) fun i _ => ?_
        rw [msk_test, msk_test]
        by_cases hi : i < n
        · have := sc_pos a2 b2 (hsc i hi).1
          by_cases w : 0 < f i
          · have := this.mp w
            simp [w, this]
          · have w' : ¬ 0 < f' i := fun z => w (this.mpr z)
            simp [w, w']
        · simp [hi]
      have h32 : msk (fun i => decide (0 < f i)) n < 32 := msk_32 _ hn
      have hlt2 : msk (fun i => decide (0 < f i)) n < 2 ^ n := msk_lt _ n
      have hfb : ∀ i, i < n → 0 ≤ f i ∧ f i ≤ 90000000 := fun i hi => by
        have a := hnn i hi
        have q1 := mul_bd (show 0 ≤ D by omega) hp.1 a3 hp.2
        omega
      rw [hr, hr', if_pos (show (0 : Int32) ≤ zI 0 by decide), if_neg (show ¬ (1 : Int32) = 0 by decide), hla, Option.bind_some, es]
      simp only [bd4, Option.bind_some]
      rw [ebe, emb, Option.bind_some, Option.bind_some, hsame]
      generalize msk (fun i => decide (0 < f i)) n = H at *
      unfold f_F_seekOpening
      by_cases hz : H = 0
      · subst hz
        obtain ⟨st2, re2, fr2, fs2, dr2, ds2, lu2, bf2, bl2, ba2, sc2, fR2, fS2, ec, hfr0⟩ := layNone_z (F := F) hn (by omega) hv hA hB J1 (fun i hi => (hs i hi).1) st1 re1 fr1 fs1 dr1 ds1 lu1 bf1 bl1 ba1 sc1 fR1 fS1
        obtain ⟨v, esk, -⟩ := seekL_z (F := F) (H := 0) (fr := fun _ => 0) (fs := f) (f := f) (K := 1) (x := 0) hn (by omega) (by omega) hfr0 (fun i hi => (hs i hi).2) (fun i hi => ⟨by omega, ⟨fun w => (by rw [Nat.zero_testBit] at w; cases w), fun w => absurd w (by omega)⟩, hfb i hi⟩) (fun i hi => by omega)
        have eo : opn 0 (fun _ => 0) f n = -1 := by
          rcases opn_cs 0 (fun _ => 0) f n with ⟨e, -⟩ | ⟨j, j1, j2, j3⟩
          · exact e
          · rw [Nat.zero_testBit] at j2; cases j2
        rw [eo] at esk
        rw [show f_F_layLines F (zI ((0 : Nat) : Int)) se1 st1 re1 fr1 fs1 dr1 ds1 lu1 bf1 bl1 ba1 sc1 fR1 fS1 g pit (zI (n : Int)) (zI A) (zI B) = _ from ec]
        simp only [bd13, Option.bind_some]
        rw [esk]
        simp only [bd2, Option.bind_some]
        rw [if_pos (show zI (-1) < (0 : Int32) by decide)]
        simp only [bd16, Option.bind_some]
        rw [if_neg (show ¬ (0 : Int32) ≤ zI (-1) by decide), if_pos (show zI ((0 : Nat) : Int) = (0 : Int32) from rfl)]
        exact ⟨_, way1, wb1, kn1, tot1, kd1, wh1, ov1, un1, eO1, eU1, dO1, dU1, sO1, sU1, st2, re2, fr2, fs2, dr2, ds2, lu2, bf2, bl2, ba2, sc2, fR2, fS2, se1, zL D, oO, oU, fo1, zI (la n nv A B p : Int), nu, sz, mo1, uu1, sl1, mb1, ss1, sb1, of1, be1, bs1, ma1, lO1, lU1, mt1, mk1, mw1, mv1, mn1, ha1, nO1, nU1, me1, fe1, aO1, aU1, bO1, bU1, so, mun, row, rm, rfl, rfl, hK1, hf1, hR⟩
      · have hne : ∃ i, i < n ∧ H.testBit i = true := bit_in hz hlt2
        have hHm : ∀ i, i < n → H.testBit i = true → (la n nv A B p).testBit i = true := fun i hi w => by
          have hf0 := (hH i hi).mp w
          obtain ⟨⟨N, hN, hE, hrow, hl, ho'⟩, -⟩ := hsat
          exact Classical.byContradiction fun z => by have := ho' i hi z; omega
        obtain ⟨K, kr, ks, lr, ls, st2, re2, fr2, fs2, dr2, ds2, lu2, bf2, bl2, ba2, sc2, fR2, fS2, ec, hL, hK2, hO⟩ := layLines_z (F := F) hn (by omega) hv hA hB J1 h32 hne hσ (fun i hi => (hs i hi).1) st1 re1 fr1 fs1 dr1 ds1 lu1 bf1 bl1 ba1 sc1 fR1 fS1
        obtain ⟨mo3, uu3, sl3, mb3, ss3, sb3, of3, be3, bs3, ma3, K', kr', ks', lr', ls', eL, hmo3, hLv3, hL', hK2', hO'⟩ := solveFalling_z (F := F) (m := la n nv A B p) hn (by omega) hv hA hB h h32 hHm hne hσ' hm1 hLv uu1 sl1 mb1 ss1 sb1 of1 be1 bs1 ma1
        have hKp := hL.1
        have hKp' := hL'.1
        have bd := lnF_bd hn hv hA hB hσ hL
        have bd' := lnF_bd hn hv hA hB hσ' hL'
        have hline := bear_line hv hA hB hsat hH hne hL
        have hoff : ∀ i, i < n → ¬ H.testBit i = true → kr i = 0 := fun i hi w => (hL.2.1 i hi (kF_off w)).1
        obtain ⟨v, esk, hvv⟩ := seekL_z (F := F) (H := H) (fr := kr) (fs := ks) (f := f) (K := K) (x := p * D) hn (by omega) hKp hO.2.1 (fun i hi => (hs i hi).2) (fun i hi => ⟨⟨(bd i hi).1, by have := (bd i hi).2.1; omega⟩, ⟨(bd i hi).2.2.2.2.2.2.2.2, fun w => Classical.byContradiction fun z => by have := hoff i hi z; omega⟩, hfb i hi⟩) hline
        have emo := mopen_z (F := F) (H := H) (fr := kr') (fs := ks') hn (by omega) h32 hO'.2.1 hO'.2.2.1 (fun i hi w => by
          have b := bd' i hi
          have := b.2.2.2.2.2.2.2.2 w
          omega)
        have hscale : ∀ i, i < n → kr' i * K = kr i * K' ∧ ks' i * (D * K) = ks i * (D' * K') := by
          have s1 : Sol n (fun i => nv i 6) A B (kF nv H) (fun i => sst nv D f i * D') K kr (fun i => ks i * D') lr (fun i => ls i * D') := by
            obtain ⟨z1, z2, z3, z4, z5, z6, z7⟩ := hL
            refine ⟨z1, fun i hi w => ⟨(z2 i hi w).1, by dsimp only; rw [(z2 i hi w).2, Int.zero_mul]⟩, fun i hi w => ⟨(z3 i hi w).1, ?_⟩, z4, by rw [sm_mul, z5, Int.zero_mul], z6, fun i hi => ?_⟩
            · dsimp only; rw [(z3 i hi w).2]; grind
            · dsimp only; rw [z7 i hi, sm_mul]; grind
          have s2 : Sol n (fun i => nv i 6) A B (kF nv H) (fun i => sst nv D f i * D') K' kr' (fun i => ks' i * D) lr' (fun i => ls' i * D) := by
            obtain ⟨z1, z2, z3, z4, z5, z6, z7⟩ := hL'
            refine ⟨z1, fun i hi w => ⟨(z2 i hi w).1, by dsimp only; rw [(z2 i hi w).2, Int.zero_mul]⟩, fun i hi w => ⟨(z3 i hi w).1, ?_⟩, z4, by rw [sm_mul, z5, Int.zero_mul], z6, fun i hi => ?_⟩
            · dsimp only; rw [(z3 i hi w).2, ← hss i hi]; grind
            · dsimp only; rw [z7 i hi, sm_mul]; grind
          intro i hi
          obtain ⟨u1, u2, u3, u4⟩ := s1.unique (geo_nv hv hA hB) (kF_nn hv H) s2 i hi
          refine ⟨u1, ?_⟩
          rw [← Int.mul_assoc, ← Int.mul_assoc]
          exact u3
        have hop := opn_sc (H := H) (fr := kr) (fs := ks) (fr' := kr') (fs' := ks') hKp hKp' (Int.mul_pos a2 hKp) (Int.mul_pos b2 hKp') (fun i hi => (hscale i hi).1) (fun i hi => (hscale i hi).2) n (Nat.le_refl n)
        obtain ⟨j, j1, j2, j3⟩ : ∃ j : Nat, j < n ∧ H.testBit j = true ∧ opn H kr ks n = (j : Int) := by
          rcases opn_cs H kr ks n with ⟨e, hno⟩ | hj
          · obtain ⟨i, hi, w⟩ := hne
            exact absurd w (hno i hi)
          · exact hj
        have bj := bd j j1
        have bj' := bd' j j1
        have pj := bj.2.2.2.2.2.2.2.2 j2
        have pj' := bj'.2.2.2.2.2.2.2.2 j2
        rw [ec]
        simp only [bd13, Option.bind_some]
        rw [esk, j3]
        simp only [bd2, Option.bind_some]
        rw [if_neg (show ¬ zI (j : Int) < (0 : Int32) from fun z => absurd ((zI_lt (a := (j : Int)) (b := 0) (by omega) (by omega) (by omega) (by omega)).mp z) (by omega)), hvv j j3]
        have eU : zL D * zL (kr j) = zL (D * kr j) := zL_mul _ _
        have x1 := mul_bd (show 0 ≤ D by omega) bj.1 a3 (show kr j ≤ 299269 by omega)
        have eO : Int32.toInt64 (zI p) * zL (D * kr j) - zL (f j) * lu2 = zL (-ks j) := by
          rw [zI_l (a := p) hp1 hp2, hO.1, zL_mul, zL_mul, zL_sub]
          congr 1
          have := hline j j1
          have e1 : p * (D * kr j) = kr j * (p * D) := by ac_rfl
          omega
        simp only [nm]
        rw [eU, ldA_z (f := fo1) (j := j) (by omega) (by omega), Option.bind_some, (hs j j1).2, eO]
        simp only [bd16, Option.bind_some]
        rw [if_pos (show (0 : Int32) ≤ zI (j : Int) from (zI_le (a := 0) (b := (j : Int)) (by omega) (by omega) (by omega) (by omega)).mpr (by omega))]
        have x2 := mul_bd bj'.1 (show 0 ≤ D' by omega) (show kr' j ≤ 299269 by omega) b3
        have p1 : 0 < D * kr j := Int.mul_pos a2 pj
        have p2 : 0 < kr' j * D' := Int.mul_pos pj' b2
        obtain ⟨nu1, sz1, e1, R1⟩ := fraction_z (F := F) (by omega) (RowC.nil nu) (by show 0 + 2 ≤ 8; omega) (o := -ks j) (u := D * kr j) (by omega) (by omega) p1 (by omega)
        obtain ⟨row1, rm1, e2, R2⟩ := tellFraction_z (F := F) (by omega) (RowC.nil row) (by show 0 + 2 ≤ 64; omega) (o := -ks' j) (u := kr' j * D') (by omega) (by omega) p2 (by omega)
        rw [e1, if_neg (show ¬ zI (H : Int) = (0 : Int32) from fun z => hz (by have := (zI_eq (a := (H : Int)) (b := 0) (by omega) (by omega) (by omega) (by omega)).mp z; omega)), em1]
        simp only [Option.bind_some]
        rw [eL]
        simp only [bd10, Option.bind_some]
        rw [emo, Option.bind_some, hop, j3, ldA_z (f := mb3) (j := j) (by omega) (by omega), Option.bind_some, ldA_z (f := sl3) (j := j) (by omega) (by omega), Option.bind_some, hO'.2.1 j j1, hO'.2.2.1 j j1, zL_neg, zL_mul, e2]
        simp only [Option.bind_some]
        refine ⟨_, way1, wb1, kn1, tot1, kd1, wh1, ov1, un1, eO1, eU1, dO1, dU1, sO1, sU1, st2, re2, fr2, fs2, dr2, ds2, lu2, bf2, bl2, ba2, sc2, fR2, fS2, se1, zL D, zL (-ks j), zL (D * kr j), fo1, zI (la n nv A B p : Int), nu1, sz1, mo3, uu3, sl3, mb3, ss3, sb3, of3, be3, bs3, ma3, lO1, lU1, mt1, mk1, mw1, mv1, mn1, ha1, nO1, nU1, me1, fe1, aO1, aU1, bO1, bU1, so1, zL D', row1, rm1, rfl, rfl, hK1, hf1, [] ++ fra (-ks j) (D * kr j), by show 2 ≤ 8; omega, R1, ?_⟩
        rw [fra_eq p1 p2 (by
          obtain ⟨u1, u2⟩ := hscale j j1
          have pk : 0 < K * K' := Int.mul_pos hKp hKp'
          refine Int.eq_of_mul_eq_mul_right (a := K * K') (by omega) ?_
          have e1 : -ks' j * (D * kr j) * (K * K') = -(ks' j * (D * K) * (kr j * K')) := by grind
          have e2 : -ks j * (kr' j * D') * (K * K') = -(ks j * (D' * K') * (kr' j * K)) := by grind
          rw [e1, e2, u1, u2])]
        exact R2
end OPS29
