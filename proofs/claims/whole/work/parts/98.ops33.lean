/-! WHO SHEDS: sheds -/
section OPS33
variable {n : Nat} {nv : Nat → Nat → Int} {A B : Int} {F : Nat} {g c y s u pit o now : Nat → Int32} {m1 m2 : Nat}
/-- what each of those that are left gets -/
def gain (m2 : Nat) (D1 D2 : Int) (f1 f2 : Nat → Int) (k : Nat) : Int := if m2.testBit k = true then f2 k * D1 - f1 k * D2 else 0
theorem lines_at {D : Int} {fr fs : Nat → Int} {fr1 fs1 : Nat → Int64} (hn : n ≤ 5) (h1 : ∀ i, i < n → fr1 i = zL (fr i)) (h2 : ∀ i, i < n → fs1 i = zL (fs i)) (P Q : Int) {i : Nat} (hi : i < n) : f_L_forceAt (zI (i : Int)) (zL P) (zL Q) fr1 fs1 = some (zL (fr i * P + fs i * Q)) := by
  unfold f_L_forceAt
  rw [ldA_z (by omega) (by omega), Option.bind_some, ldA_z (by omega) (by omega), Option.bind_some, h1 i hi, h2 i hi, zL_mul, zL_mul, zL_add]
theorem compare_z' (hn : n ≤ 5) (hF : 20 < F) (hv : NvOk n nv) (hA : 0 ≤ A ∧ A ≤ 2) (hB : 0 ≤ B ∧ B ≤ 2) (J : JOk n nv g c y s u pit) (ho : ∀ i, i < n → o i = zI (nv i 5)) (h1 : m1 < 32) (h2 : m2 < 32) (e1 : ∃ i, i < n ∧ m1.testBit i = true) (e2 : ∃ i, i < n ∧ m2.testBit i = true) {P Q : Int} (hP : 0 ≤ P ∧ P ≤ 40000000000) (hQ : 0 < Q ∧ Q ≤ 40000000000)
    (way0 : Nat → Int32) (dO0 dU0 : Nat → Int64) (sO0 sU0 : Int64) (ga : Nat → Int64) (gu : Int64) (st0 : Nat → Int32) (re0 fr0 fs0 dr0 ds0 : Nat → Int64) (lu0 : Int64) (bf0 bl0 ba0 sc0 : Nat → Int64) (fR0 fS0 : Int64) :
    ∃ (D1 D2 : Int) (f1 d1 f2 d2 : Nat → Int) (way1 : Nat → Int32) (dO1 dU1 : Nat → Int64) (sO1 sU1 : Int64) (ga1 : Nat → Int64) (st1 : Nat → Int32) (re1 fr1 fs1 dr1 ds1 : Nat → Int64) (lu1 : Int64) (bf1 bl1 ba1 sc1 : Nat → Int64) (fR1 fS1 : Int64),
      f_G_compareForces F (zI (m1 : Int)) (zI (m2 : Int)) (zL P) (zL Q) way0 dO0 dU0 sO0 sU0 ga gu st0 re0 fr0 fs0 dr0 ds0 lu0 bf0 bl0 ba0 sc0 fR0 fS0 g c y s u o pit (zI (n : Int)) (zI A) (zI B) = some (way1, dO1, dU1, sO1, sU1, ga1, zL (D1 * D2 * Q), st1, re1, fr1, fs1, dr1, ds1, lu1, bf1, bl1, ba1, sc1, fR1, fS1) ∧
      (0 < D1 ∧ D1 ≤ 299269) ∧ (0 < D2 ∧ D2 ≤ 299269) ∧ SAt n nv A B m1 P Q (D1 * Q) f1 d1 ∧ SAt n nv A B m2 P Q (D2 * Q) f2 d2 ∧ ∀ k, k < n → ga1 k = zL (gain m2 D1 D2 f1 f2 k) := by
  obtain ⟨way2, dO2, dU2, sO2, sU2, st2, re2, fr2, fs2, dr2, ds2, lu2, bf2, bl2, ba2, sc2, fR2, fS2, md, D1, fr, fs, dr, ds, es1, hat1, hway1, hun1, hfr1, hfs1, hdr1, hds1⟩ := settle_z (F := F) (m := m1) (lO := P) (lU := Q) hn hF hv hA hB J ho h1 e1 hP.1 hP.2 hQ.1 hQ.2 way0 dO0 dU0 sO0 sU0 st0 re0 fr0 fs0 dr0 ds0 lu0 bf0 bl0 ba0 sc0 fR0 fS0
  obtain ⟨way3, dO3, dU3, sO3, sU3, st3, re3, fr3, fs3, dr3, ds3, lu3, bf3, bl3, ba3, sc3, fR3, fS3, md', D2, fr', fs', dr', ds', es2, hat2, hway2, hun2, hfr2, hfs2, hdr2, hds2⟩ := settle_z (F := F) (m := m2) (lO := P) (lU := Q) hn hF hv hA hB J ho h2 e2 hP.1 hP.2 hQ.1 hQ.2 way2 dO2 dU2 sO2 sU2 st2 re2 fr2 fs2 dr2 ds2 lu2 bf2 bl2 ba2 sc2 fR2 fS2
  have loop := iter_for (body := un2 (fb_G_compareForces_20 (zL P) (zL Q) fr2 fs2 (zI (n : Int)))) (F := F) (s := ((0 : Int32), ga)) (fun k z => ∃ ga1 : Nat → Int64, z = (zI (k : Int), ga1) ∧ ∀ i, i < k → ga1 i = zL (fr i * P + fs i * Q)) (fun z => ∀ i, i < n → z i = zL (fr i * P + fs i * Q)) n (by omega) ⟨ga, rfl, fun i hi => absurd hi (Nat.not_lt_zero i)⟩ ?_ ?_
  · obtain ⟨ga2, eg2, hg2⟩ := loop
    have loop2 := iter_for (body := un2 (fb_G_compareForces_68 (zI (m2 : Int)) (zL P) (zL Q) lu2 fr3 fs3 lu3 (zI (n : Int)))) (F := F) (s := ((0 : Int32), ga2)) (fun k z => ∃ ga1 : Nat → Int64, z = (zI (k : Int), ga1) ∧ (∀ i, i < k → ga1 i = zL (gain m2 D1 D2 (fun i => fr i * P + fs i * Q) (fun i => fr' i * P + fs' i * Q) i)) ∧ ∀ i, k ≤ i → ga1 i = ga2 i) (fun z => ∀ i, i < n → z i = zL (gain m2 D1 D2 (fun i => fr i * P + fs i * Q) (fun i => fr' i * P + fs' i * Q) i)) n (by omega) ⟨ga2, rfl, fun i hi => absurd hi (Nat.not_lt_zero i), fun _ _ => rfl⟩ ?_ ?_
    · obtain ⟨ga3, eg3, hg3⟩ := loop2
      refine ⟨D1, D2, fun i => fr i * P + fs i * Q, fun i => dr i * P + ds i * Q, fun i => fr' i * P + fs' i * Q, fun i => dr' i * P + ds' i * Q, way3, dO3, dU3, sO3, sU3, ga3, st3, re3, fr3, fs3, dr3, ds3, lu3, bf3, bl3, ba3, sc3, fR3, fS3, ?_, ⟨hat1.1.1, hat1.2.1⟩, ⟨hat2.1.1, hat2.2.1⟩, hat1.sat hv hA hB hQ.1, hat2.sat hv hA hB hQ.1, hg3⟩
      unfold f_G_compareForces
      rw [es1]
      simp only [bd18, Option.bind_some]
      rw [eg2, Option.bind_some, es2]
      simp only [Option.bind_some]
      rw [eg3, Option.bind_some]
      simp only [nm]
      rw [hun1, hun2, zL_mul, zL_mul]
    · rintro k z hk ⟨ga1, rfl, hz, hz2⟩
      have fin : ∀ a : Int, a = gain m2 D1 D2 (fun i => fr i * P + fs i * Q) (fun i => fr' i * P + fs' i * Q) k → ∃ s', fj_G_compareForces_143 (zI (k : Int)) (zI (k : Int)) (zL a) ga1 = some (.inl s') ∧ ∃ ga1 : Nat → Int64, s' = (zI ((k + 1 : Nat) : Int), ga1) ∧ (∀ i, i < k + 1 → ga1 i = zL (gain m2 D1 D2 (fun i => fr i * P + fs i * Q) (fun i => fr' i * P + fs' i * Q) i)) ∧ ∀ i, k + 1 ≤ i → ga1 i = ga2 i := by
        intro a ha
        unfold fj_G_compareForces_143
        rw [stL_z (f := ga1) (j := k) (by omega) (by omega), Option.bind_some]
        simp only [nm, zI_1]
        refine ⟨_, rfl, _, rfl, fun i hi => ?_, fun i hi => ?_⟩
        · rw [updL_at]
          by_cases x : i = k
          · rw [if_pos x, x, ha]
          · rw [if_neg x]; exact hz i (by omega)
        · rw [updL_at, if_neg (by omega)]; exact hz2 i (by omega)
      have hb := bit_one m2 h2 k (by omega)
      dsimp only [un2]
      unfold fb_G_compareForces_68
      rw [if_neg (by rw [zI_le (by omega) (by omega) (by omega) (by omega)]; omega)]
      by_cases q : m2.testBit k = true
      · rw [if_pos (hb.mpr q)]
        unfold fj_G_compareForces_95
        rw [if_neg (show ¬ (1 : Int32) = 0 by decide), lines_at (D := D2) hn hfr2 hfs2 P Q hk, Option.bind_some, ldA_z (f := ga1) (j := k) (by omega) (by omega), Option.bind_some, hz2 k (Nat.le_refl k), hg2 k hk, hun1, hun2, zL_mul, zL_mul, zL_sub]
        exact fin _ (by unfold gain; rw [if_pos q])
      · rw [if_neg (fun z => q (hb.mp z))]
        unfold fj_G_compareForces_95
        rw [if_pos rfl]
        exact fin 0 (by unfold gain; rw [if_neg q])
    · rintro z ⟨ga1, rfl, hz, -⟩
      dsimp only [un2]
      unfold fb_G_compareForces_68
      rw [if_pos (Int32.le_refl _)]
      exact ⟨_, rfl, hz⟩
  · rintro k z hk ⟨ga1, rfl, hz⟩
    dsimp only [un2]
    unfold fb_G_compareForces_20
    rw [if_neg (by rw [zI_le (by omega) (by omega) (by omega) (by omega)]; omega), lines_at (D := D1) hn hfr1 hfs1 P Q hk, Option.bind_some, stL_z (f := ga1) (j := k) (by omega) (by omega), Option.bind_some]
    simp only [nm, zI_1]
    refine ⟨_, rfl, _, rfl, fun i hi => ?_⟩
    rw [updL_at]
    by_cases x : i = k
    · rw [if_pos x, x]
    · rw [if_neg x]; exact hz i (by omega)
  · rintro z ⟨ga1, rfl, hz⟩
    dsimp only [un2]
    unfold fb_G_compareForces_20
    rw [if_pos (Int32.le_refl _)]
    exact ⟨_, rfl, hz⟩
/-- some gain is above 0 -/
theorem gain_pos {P D1 D2 : Int} (hD1 : 0 < D1) (hD2 : 0 < D2) {f1 f2 : Nat → Int} {a : Nat} (ha : a < n) (hf : 0 < f1 a) (s1 : sm f1 n = D1 * P) (s2 : sm f2 n = D2 * P) (z1 : ∀ i, i < n → ¬ m1.testBit i = true → f1 i = 0) (z2 : ∀ i, i < n → ¬ m2.testBit i = true → f2 i = 0) (hm : ∀ i, i < n → (m2.testBit i = true ↔ m1.testBit i = true ∧ i ≠ a)) : ∃ k, k < n ∧ m2.testBit k = true ∧ 0 < gain m2 D1 D2 f1 f2 k := by
  refine Classical.byContradiction fun hno => ?_
  have hH : ∀ i, i < n → 0 ≤ -(f2 i * D1 - f1 i * D2) := by
    intro i hi
    by_cases q : m2.testBit i = true
    · have : ¬ 0 < gain m2 D1 D2 f1 f2 i := fun w => hno ⟨i, hi, q, w⟩
      unfold gain at this
      rw [if_pos q] at this
      omega
    · rw [z2 i hi q]
      by_cases w : i = a
      · have := Int.mul_pos (show 0 < f1 i by rw [w]; exact hf) hD2
        omega
      · have : ¬ m1.testBit i = true := fun x => q ((hm i hi).mpr ⟨x, w⟩)
        rw [z1 i hi this]; omega
  have t := sm_term (g := fun i => -(f2 i * D1 - f1 i * D2)) ha hH
  have e : sm (fun i => -(f2 i * D1 - f1 i * D2)) n = 0 := by
    rw [sm_neg, sm_sub, sm_mul, sm_mul, s1, s2]
    have : D2 * P * D1 = D1 * P * D2 := by ac_rfl
    omega
  rw [e] at t
  have q : ¬ m2.testBit a = true := fun w => ((hm a ha).mp w).2 rfl
  have := z2 a ha q
  have h3 := Int.mul_pos hf hD2
  have t : -(f2 a * D1 - f1 a * D2) ≤ 0 := t
  rw [this] at t
  omega
theorem op_sheds (hJt : Jt n nv A B) (hF : 300 < F) {bn ju jl many mu ml : Int32} (J : JX n nv A B g c y s u o pit bn ju jl) (X : MX n nv A B now many mu ml) (x1 : Int32) (way0 wb0 : Nat → Int32) (kn0 tot0 : Int32) (kd0 wh0 : Nat → Int32) (ov0 un0 : Nat → Int64) (eO0 eU0 : Int64) (dO0 dU0 : Nat → Int64) (sO0 sU0 : Int64) (st0 : Nat → Int32) (re0 fr0 fs0 dr0 ds0 : Nat → Int64) (lu0 : Int64) (bf0 bl0 ba0 sc0 : Nat → Int64) (fR0 fS0 : Int64) (hK : KnG n nv A B kn0 tot0 kd0 wh0 ov0 un0 eO0 eU0) (mo0 : Nat → Int32) (uu0 : Int64) (sl0 mb0 ss0 sb0 of0 : Nat → Int64) (be0 : Nat → Int32) (bs0 : Int32) (ma0 : Nat → Int64) (lO0 lU0 : Int64) (mt0 : Int32) (mk0 mw0 : Nat → Int32) (mv0 mn0 : Nat → Int64) (ha0 : Nat → Int32) (nO0 nU0 : Int64) (me0 fe0 : Nat → Int32) (aO0 aU0 bO0 bU0 : Nat → Int64) (hf : ∀ i, i < 5 → fe0 i = 0) (ga : Nat → Int64) (gu : Int64) (mO mU : Nat → Int64) (nu : Nat → Int64) (sz : Int32) (row : Nat → Int64) (rm th : Int32) (hR : RowEq nu sz row rm) :
    ∃ (r : Int32) (way1 wb1 : Nat → Int32) (kn1 tot1 : Int32) (kd1 wh1 : Nat → Int32) (ov1 un1 : Nat → Int64) (eO1 eU1 : Int64) (dO1 dU1 : Nat → Int64) (sO1 sU1 : Int64) (st1 : Nat → Int32) (re1 fr1 fs1 dr1 ds1 : Nat → Int64) (lu1 : Int64) (bf1 bl1 ba1 sc1 : Nat → Int64) (fR1 fS1 : Int64) (ga1 : Nat → Int64) (gu1 : Int64) (nu1 : Nat → Int64) (sz1 : Int32) (mo1 : Nat → Int32) (uu1 : Int64) (sl1 mb1 ss1 sb1 of1 : Nat → Int64) (be1 : Nat → Int32) (bs1 : Int32) (ma1 : Nat → Int64) (lO1 lU1 : Int64) (mt1 : Int32) (mk1 mw1 : Nat → Int32) (mv1 mn1 : Nat → Int64) (ha1 : Nat → Int32) (nO1 nU1 : Int64) (me1 fe1 : Nat → Int32) (aO1 aU1 bO1 bU1 : Nat → Int64) (mO1 mU1 : Nat → Int64) (row1 : Nat → Int64) (rm1 : Int32), f_X_sheds F x1 way0 wb0 kn0 tot0 kd0 wh0 ov0 un0 eO0 eU0 dO0 dU0 sO0 sU0 ga gu st0 re0 fr0 fs0 dr0 ds0 lu0 bf0 bl0 ba0 sc0 fR0 fS0 g c y s u o pit bn ju jl nu sz = some (r, way1, wb1, kn1, tot1, kd1, wh1, ov1, un1, eO1, eU1, dO1, dU1, sO1, sU1, ga1, gu1, st1, re1, fr1, fs1, dr1, ds1, lu1, bf1, bl1, ba1, sc1, fR1, fS1, nu1, sz1) ∧ f_M_sheds F x1 now many mu ml row rm th mo0 uu0 sl0 mb0 ss0 sb0 of0 be0 bs0 ma0 lO0 lU0 mt0 mk0 mw0 mv0 mn0 ha0 nO0 nU0 me0 fe0 aO0 aU0 bO0 bU0 mO mU = some (r, row1, rm1, (0 : Int32), mo1, uu1, sl1, mb1, ss1, sb1, of1, be1, bs1, ma1, lO1, lU1, mt1, mk1, mw1, mv1, mn1, ha1, nO1, nU1, me1, fe1, aO1, aU1, bO1, bU1, mO1, mU1) ∧
      KnG n nv A B kn1 tot1 kd1 wh1 ov1 un1 eO1 eU1 ∧ (∀ i, i < 5 → fe1 i = 0) ∧ RowEq nu1 sz1 row1 rm1 := by
  obtain ⟨i, rfl, hi1, hi2⟩ := zI_all x1
  have hJt' := hJt
  obtain ⟨hn, hv, hA, hB⟩ := hJt'
  obtain ⟨J1, ho, rfl, rfl, rfl⟩ := J
  obtain ⟨h, rfl, rfl, rfl⟩ := X
  obtain ⟨way1, wb1, kn1, tot1, kd1, wh1, ov1, un1, eO1, eU1, dO1, dU1, sO1, sU1, st1, re1, fr1, fs1, dr1, ds1, lu1, bf1, bl1, ba1, sc1, fR1, fS1, mo1, uu1, sl1, mb1, ss1, sb1, of1, be1, bs1, ma1, lO1, lU1, mt1, mk1, mw1, mv1, mn1, ha1, nO1, nU1, me1, fe1, aO1, aU1, bO1, bU1, e, em, hK1, hEv, hEm, heO, heU, hlO, hlU, hrec, hf1⟩ := both_grow hJt hF ⟨J1, ho, rfl, rfl, rfl⟩ ⟨h, rfl, rfl, rfl⟩ way0 wb0 kn0 tot0 kd0 wh0 ov0 un0 eO0 eU0 dO0 dU0 sO0 sU0 st0 re0 fr0 fs0 dr0 ds0 lu0 bf0 bl0 ba0 sc0 fR0 fS0 hK mo0 uu0 sl0 mb0 ss0 sb0 of0 be0 bs0 ma0 lO0 lU0 mt0 mk0 mw0 mv0 mn0 ha0 nO0 nU0 me0 fe0 aO0 aU0 bO0 bU0 hf
  unfold f_X_sheds f_M_sheds
  rw [has_z hn ⟨hi1, hi2⟩, Option.bind_some, isBolt_z hn ⟨hi1, hi2⟩, Option.bind_some]
  by_cases q1 : 0 ≤ i ∧ i < n
  rotate_left
  · rw [if_pos (b01_ne0.mpr q1), if_pos (b01_ne0.mpr q1)]
    exact ⟨_, way0, wb0, kn0, tot0, kd0, wh0, ov0, un0, eO0, eU0, dO0, dU0, sO0, sU0, st0, re0, fr0, fs0, dr0, ds0, lu0, bf0, bl0, ba0, sc0, fR0, fS0, ga, gu, nu, sz, mo0, uu0, sl0, mb0, ss0, sb0, of0, be0, bs0, ma0, lO0, lU0, mt0, mk0, mw0, mv0, mn0, ha0, nO0, nU0, me0, fe0, aO0, aU0, bO0, bU0, mO, mU, row, rm, rfl, rfl, hK, hf, hR⟩
  rw [if_neg (fun z => (b01_ne0.mp z) q1), if_neg (fun z => (b01_ne0.mp z) q1), e, em]
  simp only [bd27, bd26, Option.bind_some]
  obtain ⟨a, ha⟩ : ∃ a : Nat, i = (a : Int) := ⟨i.toNat, by omega⟩
  subst ha
  have han : a < n := by omega
  obtain ⟨l15, hall⟩ := evL_all (n := n) (nv := nv) (A := A) (B := B) hn hv hA hB
  have hEO := (gs_ok (n := n) (nv := nv) (A := A) (B := B) hn hv hA hB 15).1
  have hfp := gs_fp (n := n) (nv := nv) (A := A) (B := B) hn hv hA hB 15
  have hend : lft (snd0 n nv) (evL n nv A B) = 0 := hEO.2.2.2.1.trans (gs_end hn hv hA hB)
  have hev := hEO.2.2.2.2.2.1
  have hbr := hEO.2.2.2.2.2.2
  obtain ⟨L, hL⟩ : ∃ L, L = evL n nv A B := ⟨_, rfl⟩
  have hEv : EvZ L tot1 kd1 wh1 ov1 un1 := by rw [hL]; exact hEv
  have hEm : EvZ L mt1 mk1 mw1 mv1 mn1 := by rw [hL]; exact hEm
  have l15 : L.length ≤ 15 := by rw [hL]; exact l15
  have hall : ∀ e ∈ L, (0 ≤ e.1 ∧ e.1 ≤ 2) ∧ e.2.1 < n ∧ LOk e.2.2.1 e.2.2.2 := by rw [hL]; exact hall
  have hrec : RecOk n nv A B L aO1 aU1 bO1 bU1 := by rw [hL]; exact hrec
  have hfp : Brk (Fp n nv A B) L := by rw [hL]; exact hfp
  have hend : lft (snd0 n nv) L = 0 := by rw [hL]; exact hend
  have hev : ∀ e ∈ L, EvOk n (pkO n nv A B) (pkU n nv A B) e := by rw [hL]; exact hev
  have hbr : ∀ L1 e L2, L = L1 ++ e :: L2 → e.1 = 2 → (lft (snd0 n nv) L1).testBit e.2.1 = true := by rw [hL]; exact hbr
  clear hEO hL heO heU hlO hlU
  have h32 : snd0 n nv < 32 := msk_32 _ hn
  have hall5 : ∀ e ∈ L, e.2.1 < 5 := fun e he => by have := (hall e he).2.1; omega
  have efi : f_G_find F (2 : Int32) (zI (a : Int)) tot1 kd1 wh1 = some (zI (fnd L 2 (a : Int))) := find_z (F := F) (a := 2) (b := (a : Int)) (by omega) l15 hn hall hEv (by omega) (by omega)
  have eev : ∀ k : Nat, k < n → f_M_eventOf F (2 : Int32) (zI (k : Int)) mt1 mk1 mw1 = some (zI (fnd L 2 (k : Int))) := fun k hk => eventOf_z (F := F) (a := 2) (b := (k : Int)) (by omega) l15 hn hall hEm (by omega) (by omega)
  rw [efi, Option.bind_some, eev a han, Option.bind_some]
  rcases fnd_br (L := L) (b := a) with ⟨f0, -⟩ | ⟨j, ej, f0, f1, f2, f3, f4⟩
  · rw [f0, if_neg (show ¬ (0 : Int32) ≤ zI (-1) by decide), if_pos (show zI (-1) = (-1 : Int32) from rfl)]
    exact ⟨_, way1, wb1, kn1, tot1, kd1, wh1, ov1, un1, eO1, eU1, dO1, dU1, sO1, sU1, st1, re1, fr1, fs1, dr1, ds1, lu1, bf1, bl1, ba1, sc1, fR1, fS1, ga, gu, nu, sz, mo1, uu1, sl1, mb1, ss1, sb1, of1, be1, bs1, ma1, lO1, lU1, mt1, mk1, mw1, mv1, mn1, ha1, nO1, nU1, me1, fe1, aO1, aU1, bO1, bU1, mO, mU, row, rm, rfl, rfl, hK1, hf1, hR⟩
  have hjl : j < L.length := (List.getElem?_eq_some_iff.mp f1).1
  have hsplit : L = L.take j ++ ej :: L.drop (j + 1) := by
    have h1 := (List.take_append_drop (j + 1) L).symm
    rw [take_s f1] at h1
    simpa using h1
  have hbit := hbr _ _ _ hsplit f2
  have hrc := hrec _ _ _ hsplit f2
  have hfpe : ∀ E f d, SAt n nv A B (lft (snd0 n nv) (L.take j)) ej.2.2.1 ej.2.2.2 E f d → 0 < f ej.2.1 := hfp _ _ _ hsplit f2
  obtain ⟨c1, c2, c3, c4, c5⟩ := hev ej (List.mem_of_getElem? f1)
  obtain ⟨k1, k2⟩ := c5 f2
  obtain ⟨z1, z2, z3, z4⟩ := hEv.2 j ej f1
  have hb1 := lft_bit (L.take j) (snd0 n nv) h32 (fun x hx => hall5 x (List.mem_of_mem_take hx))
  have hts : lft (snd0 n nv) (L.take (j + 1)) = clr (lft (snd0 n nv) (L.take j)) a := by
    rw [take_s f1, lft_app]
    show (if ej.1 = 2 then clr _ ej.2.1 else _) = _
    rw [if_pos f2, f3]
  have hb2 := lft_bit (L.take (j + 1)) (snd0 n nv) h32 (fun x hx => hall5 x (List.mem_of_mem_take hx))
  rw [hts] at hb2
  have hclr := testBit_clr _ hb1.1 a (by omega)
  have ela := leftAhead_z (F := F) hn (by omega) hv ho l15 hall hEv (show j ≤ L.length by omega)
  have elb := lastBreak_z (F := F) (by omega) l15 hall hEm
  rw [f3] at hbit hrc hfpe
  rw [f0, if_pos (show (0 : Int32) ≤ zI (j : Int) from (zI_le (a := 0) (b := (j : Int)) (by omega) (by omega) (by omega) (by omega)).mpr (by omega)), if_neg (show ¬ zI (j : Int) = (-1 : Int32) from fun z => absurd ((zI_eq (a := (j : Int)) (b := -1) (by omega) (by omega) (by omega) (by omega)).mp (z.trans im1)) (by omega)), ela, Option.bind_some, elb, Option.bind_some, bit_clr0 _ hb1.1 a (by omega)]
  simp only [nm]
  have hlast : clr (lft (snd0 n nv) (L.take j)) a = 0 ↔ lbk L L.length = (j : Int) := by
    rcases lbk_cs L L.length with ⟨g1, g2⟩ | ⟨j', g1, g2, g3, g4⟩
    · exact absurd (by rw [(evk_at f1).1]; exact f2) (g2 j hjl)
    · have hjj : j ≤ j' := Nat.le_of_not_lt fun w => g4 j w hjl (by rw [(evk_at f1).1]; exact f2)
      constructor
      · intro hz
        refine Classical.byContradiction fun w => ?_
        have hlt : j < j' := by omega
        obtain ⟨e', he'⟩ := getElem_of_lt g1
        have he2 : e'.1 = 2 := by rw [← (evk_at he').1]; exact g3
        have hsp : L = L.take j' ++ e' :: L.drop (j' + 1) := by
          have h1 := (List.take_append_drop (j' + 1) L).symm
          rw [take_s he'] at h1
          simpa using h1
        have ht := hbr _ _ _ hsp he2
        have hk5 := hall5 e' (List.mem_of_getElem? he')
        have ht2 := ((lft_bit (L.take j') (snd0 n nv) h32 (fun x hx => hall5 x (List.mem_of_mem_take hx))).2 e'.2.1 hk5).mp ht
        have ht3 := (hb2.2 e'.2.1 hk5).mpr ⟨ht2.1, fun x hx => ht2.2 x (by
          obtain ⟨i', hi', hx'⟩ := take_mem.mp hx
          exact take_mem.mpr ⟨i', by omega, hx'⟩)⟩
        rw [hz, Nat.zero_testBit] at ht3
        cases ht3
      · intro hl
        have hjeq : j' = j := by omega
        refine Classical.byContradiction fun w => ?_
        obtain ⟨k, hk⟩ := some_bit w
        have hk5 : k < 5 := Nat.lt_of_not_le fun x => by
          have : clr (lft (snd0 n nv) (L.take j)) a < 2 ^ k := Nat.lt_of_lt_of_le hb2.1 (Nat.pow_le_pow_right (n := 2) (by omega) x)
          rw [Nat.testBit_lt_two_pow this] at hk; cases hk
        obtain ⟨w1, w2⟩ := (hb2.2 k hk5).mp hk
        have w3 := ((lft_bit L (snd0 n nv) h32 hall5).2 k hk5).mpr ⟨w1, fun x hx hx2 => by
          obtain ⟨i', hi'⟩ := List.getElem?_of_mem hx
          have hil : i' < L.length := (List.getElem?_eq_some_iff.mp hi').1
          by_cases y : i' < j + 1
          · exact w2 x (take_mem.mpr ⟨i', y, hi'⟩) hx2
          · exact absurd (by rw [(evk_at hi').1]; exact hx2) (g4 i' (by omega) hil)⟩
        rw [hend, Nat.zero_testBit] at w3
        cases w3
  by_cases hz : clr (lft (snd0 n nv) (L.take j)) a = 0
  · rw [hz, if_pos (show zI ((0 : Nat) : Int) = (0 : Int32) from rfl), hlast.mp hz, if_pos rfl]
    exact ⟨_, way1, wb1, kn1, tot1, kd1, wh1, ov1, un1, eO1, eU1, dO1, dU1, sO1, sU1, st1, re1, fr1, fs1, dr1, ds1, lu1, bf1, bl1, ba1, sc1, fR1, fS1, ga, gu, nu, sz, mo1, uu1, sl1, mb1, ss1, sb1, of1, be1, bs1, ma1, lO1, lU1, mt1, mk1, mw1, mv1, mn1, ha1, nO1, nU1, me1, fe1, aO1, aU1, bO1, bU1, mO, mU, row, rm, rfl, rfl, hK1, hf1, hR⟩
  have hlb : ¬ zI (j : Int) = zI (lbk L L.length) := by
    intro w
    refine hz (hlast.mpr ?_)
    rcases lbk_cs L L.length with ⟨g1, g2⟩ | ⟨j', g1, g2, -⟩
    · rw [g1] at w
      have := (zI_eq (by omega) (by omega) (by omega) (by omega)).mp w
      omega
    · rw [g2] at w
      have := (zI_eq (by omega) (by omega) (by omega) (by omega)).mp w
      omega
  have hgets : ∀ k, k < n → ((clr (lft (snd0 n nv) (L.take j)) a).testBit k = true ↔ nv k 5 = 0 ∧ k ≠ a ∧ (j : Int) < fnd L 2 (k : Int)) := by
    intro k hk
    rw [hb2.2 k (by omega), snd0_test]
    constructor
    · rintro ⟨⟨w0, w1⟩, w2⟩
      refine ⟨w1, fun x => w2 ej (take_mem.mpr ⟨j, by omega, f1⟩) f2 (by rw [x]; exact f3), ?_⟩
      rcases fnd_br (L := L) (b := k) with ⟨x1, x2⟩ | ⟨j', e', x1, x2, x3, x4, x5⟩
      · have := ((lft_bit L (snd0 n nv) h32 hall5).2 k (by omega)).mpr ⟨(snd0_test k).mpr ⟨hk, w1⟩, x2⟩
        rw [hend, Nat.zero_testBit] at this
        cases this
      · rw [x1]
        have : ¬ j' < j + 1 := fun x => w2 e' (take_mem.mpr ⟨j', x, x2⟩) x3 x4
        omega
    · rintro ⟨w1, w2, w3⟩
      refine ⟨⟨hk, w1⟩, fun x hx hx2 hx3 => ?_⟩
      obtain ⟨i', hi', hx'⟩ := take_mem.mp hx
      rcases fnd_br (L := L) (b := k) with ⟨x1, x2⟩ | ⟨j', e', x1, x2, x3, x4, x5⟩
      · omega
      · rw [x1] at w3
        exact x5 i' x (by omega) hx' hx2 hx3
  have hm12 : ∀ i, i < n → ((clr (lft (snd0 n nv) (L.take j)) a).testBit i = true ↔ (lft (snd0 n nv) (L.take j)).testBit i = true ∧ i ≠ a) := by
    intro i hi
    rw [hclr i (by omega)]
    simp
  have hne2 : ∃ i, i < n ∧ (clr (lft (snd0 n nv) (L.take j)) a).testBit i = true := by
    obtain ⟨k, hk⟩ := some_bit hz
    have hk5 : k < 5 := Nat.lt_of_not_le fun x => by
      have : clr (lft (snd0 n nv) (L.take j)) a < 2 ^ k := Nat.lt_of_lt_of_le hb2.1 (Nat.pow_le_pow_right (n := 2) (by omega) x)
      rw [Nat.testBit_lt_two_pow this] at hk; cases hk
    exact ⟨k, ((snd0_test k).mp ((hb2.2 k hk5).mp hk).1).1, hk⟩
  have hb1l := hb1.1
  have hb2l := hb2.1
  have hrc2 := hrc.2 hz
  have hrc1 := hrc.1
  have hzI : ¬ zI ((clr (lft (snd0 n nv) (L.take j)) a : Nat) : Int) = (0 : Int32) := fun z => hz (by have := (zI_eq (b := 0) (by omega) (by omega) (by omega) (by omega)).mp z; omega)
  clear hrc hb1 hb2 hts hclr hlast hbr hfp hrec hz hsplit ela elb
  generalize clr (lft (snd0 n nv) (L.take j)) a = m2 at *
  generalize lft (snd0 n nv) (L.take j) = m1 at *
  generalize ej.2.2.1 = P at *
  generalize ej.2.2.2 = Q at *
  obtain ⟨o1, o2, o3, o4, -⟩ := c3
  obtain ⟨D1, D2, f1', d1', f2', d2', way2, dO2, dU2, sO2, sU2, ga2, st2, re2, fr2, fs2, dr2, ds2, lu2, bf2, bl2, ba2, sc2, fR2, fS2, ecf, hD1, hD2, hs1, hs2, hga⟩ := compare_z' (F := F) hn (by omega) hv hA hB J1 ho hb1l hb2l ⟨a, han, hbit⟩ hne2 (P := P) (Q := Q) ⟨o1, by omega⟩ ⟨o3, by omega⟩ way1 dO1 dU1 sO1 sU1 ga gu st1 re1 fr1 fs1 dr1 ds1 lu1 bf1 bl1 ba1 sc1 fR1 fS1
  obtain ⟨t1, t2, t3⟩ := sat_nnQ hv o3 hs1
  obtain ⟨u1, u2, u3⟩ := sat_nnQ hv o3 hs2
  have hfa := hfpe _ _ _ hs1
  have p0 := mul_bd (show 0 ≤ D1 by omega) (show 0 ≤ D2 by omega) hD1.2 hD2.2
  have p1 := mul_bd p0.1 (show 0 ≤ Q by omega) p0.2 k1
  have p2 : 0 < D1 * D2 * Q := Int.mul_pos (Int.mul_pos hD1.1 hD2.1) o3
  have p3 : 0 ≤ P ∧ P ≤ 300 * 299269 := by omega
  have p4 := mul_bd p0.1 p3.1 p0.2 p3.2
  have hG : ∀ i, i < n → -8100000000000000000 ≤ gain m2 D1 D2 f1' f2' i ∧ gain m2 D1 D2 f1' f2' i ≤ 8100000000000000000 := by
    intro i hi
    have a1 := Int.mul_le_mul_of_nonneg_right (u1 i hi).2 (show 0 ≤ D1 by omega)
    have a2 := Int.mul_le_mul_of_nonneg_right (t1 i hi).2 (show 0 ≤ D2 by omega)
    have a3 := Int.mul_nonneg (u1 i hi).1 (show 0 ≤ D1 by omega)
    have a4 := Int.mul_nonneg (t1 i hi).1 (show 0 ≤ D2 by omega)
    have e1 : D2 * P * D1 = D1 * D2 * P := by ac_rfl
    have e2 : D1 * P * D2 = D1 * D2 * P := by ac_rfl
    rw [e1] at a1
    rw [e2] at a2
    unfold gain
    by_cases q : m2.testBit i = true
    · rw [if_pos q]; omega
    · rw [if_neg q]; omega
  have h0 : ∀ i, i < n → ¬ m2.testBit i = true → gain m2 D1 D2 f1' f2' i = 0 := fun i _ q => if_neg q
  obtain ⟨U, hU⟩ : ∃ U : Nat, D1 * D2 * Q = (U : Int) := ⟨(D1 * D2 * Q).toNat, by omega⟩
  have hU0 : 0 < U := by omega
  have hU2 : U ≤ 27000000000000000 := by omega
  obtain ⟨kp, hkp1, hkp2, hkp3⟩ := gain_pos hD1.1 hD2.1 han hfa t2 u2 t3 u3 hm12
  obtain ⟨nu1, sz1, etg, R1⟩ := tellGains_z (F := F) hn (by omega) hb2l hU0 hU2 hG h0 hga nu sz
  obtain ⟨E1, q1f, q1d, q11, q12, q13, q14, q15⟩ := hrc1
  obtain ⟨E2, q2f, q2d, q21, q22, q23, q24, q25⟩ := hrc2
  obtain ⟨v1, -, -⟩ := sat_nnQ hv o3 q13
  obtain ⟨v2, -, -⟩ := sat_nnQ hv o3 q23
  have hun1 := hs1.unique hv hA hB o1 o3 q13
  have hun2 := hs2.unique hv hA hB o1 o3 q23
  obtain ⟨mO1, mU1, ems, hms⟩ := msheds_z (F := F) (now := now) (G := gain m2 D1 D2 f1' f2') (i := a) (j := j) (aO := aO1) (aU := aU1) (bO := bO1) (bU := bU1) (kd := mk1) (wh := mw1) (mt := mt1) (gets := fun k => m2.testBit k = true) hn (by omega) hU0 hU2 (fun k hk l4 mO mU => by
    have o5 : f_M_of (zI (k : Int)) (5 : Int32) now = some (zI (nv k 5)) := of_z hn h (i := k) (q := 5) hk (by omega)
    have vk := hv k hk
    have hfl : fnd L 2 (k : Int) = -1 ∨ 0 ≤ fnd L 2 (k : Int) ∧ fnd L 2 (k : Int) < 15 := by
      rcases fnd_cs L 2 (k : Int) with w | ⟨w1, w2⟩
      · exact Or.inl w
      · exact Or.inr ⟨w1, by omega⟩
    refine ⟨fun w => ?_, fun w => ⟨?_, h0 k hk w⟩⟩
    · obtain ⟨w1, w2, w3⟩ := (hgets k hk).mp w
      dsimp only [un4]
      unfold fb_M_sheds_50
      rw [if_neg (by rw [zI_le (by omega) (by omega) (by omega) (by omega)]; omega), o5, Option.bind_some, if_pos (show zI (nv k 5) = (0 : Int32) by rw [w1]; rfl), if_neg (fun z => w2 (by have := (zI_eq (by omega) (by omega) (by omega) (by omega)).mp z; omega)), eev k hk, Option.bind_some, if_neg (fun z => absurd ((zI_le (by omega) (by omega) (by omega) (by omega)).mp z) (by omega))]
    · dsimp only [un4]
      unfold fb_M_sheds_50
      rw [if_neg (by rw [zI_le (by omega) (by omega) (by omega) (by omega)]; omega), o5, Option.bind_some]
      by_cases w1 : nv k 5 = 0
      · rw [if_pos (show zI (nv k 5) = (0 : Int32) by rw [w1]; rfl)]
        by_cases w2 : k = a
        · rw [if_pos (by rw [w2])]; rfl
        · rw [if_neg (fun z => w2 (by have := (zI_eq (by omega) (by omega) (by omega) (by omega)).mp z; omega)), eev k hk, Option.bind_some, if_pos ((zI_le (by omega) (by omega) (by omega) (by omega)).mpr (Int.not_lt.mp fun z => w ((hgets k hk).mpr ⟨w1, w2, z⟩)))]; rfl
      · rw [if_neg (show ¬ zI (nv k 5) = (0 : Int32) from fun z => w1 ((zI_eq (a := nv k 5) (b := 0) (by omega) (by omega) (by omega) (by omega)).mp z))]; rfl) (fun k hk w mO mU => by
    have w : m2.testBit k = true := w
    refine layMore_z (F := F) hn (by omega) han hk ⟨o3, k1⟩ ⟨o1, k2⟩ ⟨q11, q12⟩ ⟨q21, q22⟩ (v1 k hk) (v2 k hk) q14 (q15 k hk) q24 (q25 k hk) (by omega) ?_ mO mU
    have x1 := (hun1 k hk).1
    have x2 := (hun2 k hk).1
    have y1 : q1f k * D1 = f1' k * E1 := by
      refine Int.eq_of_mul_eq_mul_right (a := Q) (by omega) ?_
      rw [Int.mul_assoc, Int.mul_assoc]; exact x1
    have y2 : q2f k * D2 = f2' k * E2 := by
      refine Int.eq_of_mul_eq_mul_right (a := Q) (by omega) ?_
      rw [Int.mul_assoc, Int.mul_assoc]; exact x2
    unfold gain
    rw [if_pos w, ← hU]
    have a1 : (q2f k * E1 - q1f k * E2) * (D1 * D2 * Q) = (q2f k * D2) * (E1 * D1 * Q) - (q1f k * D1) * (E2 * D2 * Q) := by grind
    rw [a1, y1, y2]
    grind) mO mU
  obtain ⟨row0, rm0, w1, w2⟩ := tell_z (RowC.nil row) (by show 0 < 64; omega) (al U (gain m2 D1 D2 f1' f2') n : Int)
  obtain ⟨etb, row1, rm1, ett, R2⟩ := mtell_z (F := F) hn (by omega) hU0 hU2 hG hms w2
  rw [if_neg hzI, if_neg hlb, ldA_z (f := ov1) (j := j) (by omega) (by omega), Option.bind_some, ldA_z (f := un1) (j := j) (by omega) (by omega), Option.bind_some, z3, z4, ecf]
  simp only [bd20, Option.bind_some]
  rw [hU, etg]
  simp only [bd3, Option.bind_some]
  rw [show iter (un4 (fb_M_sheds_50 F (zI (a : Int)) (zI (j : Int)) now (zI (n : Int)) mt1 mk1 mw1 aO1 aU1 bO1 bU1)) F ((1 : Int64), (0 : Int32), mO, mU) = _ from ems]
  simp only [Option.bind_some]
  rw [etb, Option.bind_some, w1]
  simp only [bd2, Option.bind_some]
  rw [ett]
  simp only [Option.bind_some]
  have hsame : bst9 m2 (gain m2 D1 D2 f1' f2') n = bpos (gain m2 D1 D2 f1' f2') n := by
    rcases bst9_cs m2 (gain m2 D1 D2 f1' f2') n with ⟨-, b2⟩ | ⟨jb, b1, b2, b3, b4⟩
    · exact absurd hkp2 (b2 kp hkp1)
    · rcases bpos_eq n h0 with ⟨c1, -⟩ | ⟨jc, c1, c2⟩
      · omega
      · have hjc : jc = jb := by omega
        have := b4 kp hkp1 hkp2
        rw [c1, c2, hjc, if_pos (by omega)]
  rw [hsame]
  refine ⟨_, way2, wb1, kn1, tot1, kd1, wh1, ov1, un1, eO1, eU1, dO2, dU2, sO2, sU2, st2, re2, fr2, fs2, dr2, ds2, lu2, bf2, bl2, ba2, sc2, fR2, fS2, ga2, zL (U : Int), nu1, sz1, mo1, uu1, sl1, mb1, ss1, sb1, of1, be1, bs1, ma1, lO1, lU1, mt1, mk1, mw1, mv1, mn1, ha1, nO1, nU1, me1, fe1, aO1, aU1, bO1, bU1, mO1, mU1, row1, rm1, rfl, rfl, hK1, hf1, _, ?_, R1, R2⟩
  simp
  omega
end OPS33
