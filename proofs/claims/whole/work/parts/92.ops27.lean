/-! AS LOAD FALLS: falls -/
section OPS27
variable {n : Nat} {nv : Nat → Nat → Int} {A B : Int} {F : Nat} {g c y s u pit o now : Nat → Int32} {m : Nat} {σ σ' : Nat → Int}
theorem mds_lvm {md : Nat → Int} {mo : Nat → Int32} (hm : Mds n nv m md) (hmo : ∀ i, i < n → mo i = zI (m3 md i)) : Lvm n m mo := by
  intro i hi
  have hb := hm.bd i hi
  refine ⟨m3 md i, hmo i hi, ?_⟩
  unfold m3
  by_cases q : m.testBit i = true
  · have := hm.1 i hi q
    rw [if_pos (by omega), q]
    exact ⟨by omega, by omega, fun w => by omega, fun w => by cases w⟩
  · have q' : m.testBit i = false := by simpa using q
    have := hm.2 i hi q'
    have h3 : ¬ md i ≤ 2 := by
      by_cases w : nv i 5 = 0
      · rw [if_pos w] at this; omega
      · rw [if_neg w] at this; omega
    rw [if_neg h3]
    exact ⟨by omega, by omega, fun _ => q', fun _ => rfl⟩
/-- the state that the class has come to, in other units, tells who bears -/
theorem good_of (hn : n ≤ 5) (hv : NvOk n nv) (hA : 0 ≤ A ∧ A ≤ 2) (hB : 0 ≤ B ∧ B ≤ 2) {D D' q K : Int} (hD : 0 < D) (hD' : 0 < D') (hq : 0 < q) (hK : 0 < K) (hσ : ∀ i, i < n → σ' i * D = σ i * D') {f d : Nat → Int} (hS : FSt n nv A B m (fun i => σ i * K) (K * (q * D)) f d) : GoodF n nv A B m σ' (q * D') (msk (fun i => decide (0 < f i)) n) ∧ ¬ msk (fun i => decide (0 < f i)) n = 0 := by
  have htest : ∀ i, i < n → ((msk (fun i => decide (0 < f i)) n).testBit i = true ↔ 0 < f i) := by
    intro i hi
    rw [msk_test]
    simp [hi]
  have hnn := hS.nn
  have hex : ∃ i, i < n ∧ 0 < f i := by
    refine Classical.byContradiction fun hno => ?_
    have h0 : sm f n = 0 := sm_zero fun i hi => by
      have := hnn i hi
      refine Classical.byContradiction fun w => hno ⟨i, hi, by omega⟩
    rw [hS.1.1] at h0
    have := Int.mul_pos hK (Int.mul_pos hq hD)
    omega
  have hm : ∀ i, i < n → 0 < f i → m.testBit i = true := fun i hi w => Classical.byContradiction fun z => by have := hS.2.2 i hi z; omega
  generalize msk (fun i => decide (0 < f i)) n = H at *
  refine ⟨⟨fun i hi w => hm i hi ((htest i hi).mp w), fun D2 fr fs dr ds hL => ?_⟩, ?_⟩
  · have hD2 := hL.1
    have r1 := hS.1.scale (t := D2 * D')
    have r2 := (hL.row (q * D') 1).scale (t := K * D)
    have eN : K * (q * D) * (D2 * D') = D2 * (q * D') * (K * D) := by ac_rfl
    rw [eN] at r1
    have es : ∀ i, i < n → σ' i * D2 * (K * D) = σ i * K * (D2 * D') := fun i hi => by
      have a := hσ i hi
      have e1 : σ' i * D2 * (K * D) = σ' i * D * (D2 * K) := by ac_rfl
      have e2 : σ i * K * (D2 * D') = σ i * D' * (D2 * K) := by ac_rfl
      rw [e1, e2, a]
    have hp1 : 0 < D2 * D' := Int.mul_pos hD2 hD'
    have hp2 : 0 < K * D := Int.mul_pos hK hD
    have all := row_lin hv hA hB (h := H) (by
      obtain ⟨i, hi, w⟩ := hex
      exact ⟨i, hi, (htest i hi).mpr w⟩) r1 r2 (fun i hi w => by
      have h0 : f i = 0 := by
        have := hnn i hi
        refine Classical.byContradiction fun z => w ((htest i hi).mpr (by omega))
      exact ⟨by rw [h0, Int.zero_mul], by rw [(lnF_on hv hL (q * D') hi).2 w, Int.zero_mul]⟩) (fun i hi w => by
      have hf := (htest i hi).mp w
      have on := (lnF_on hv hL (q * D') hi).1 w
      have e := es i hi
      rcases hS.2.1 i hi (hm i hi hf) with ⟨a, b⟩ | ⟨a, b⟩
      · rw [on, b]
        have e1 : (σ' i * D2 + nv i 0 * (fr i * (q * D') + fs i * 1)) * (K * D) = σ' i * D2 * (K * D) + nv i 0 * ((fr i * (q * D') + fs i * 1) * (K * D)) := by grind
        have e2 : (σ i * K + nv i 0 * f i) * (D2 * D') = σ i * K * (D2 * D') + nv i 0 * (f i * (D2 * D')) := by grind
        rw [e1, e2, e, Int.mul_sub]
        omega
      · omega)
    intro i hi hmi
    obtain ⟨a1, a2⟩ := all i hi
    refine ⟨fun w => ?_, fun w => ?_⟩
    · have hf := Int.mul_pos ((htest i hi).mp w) hp1
      rw [← a1] at hf
      rw [Int.mul_comm] at hf
      exact Int.pos_of_mul_pos_right hf hp2
    · have hle : d i ≤ σ i * K := by
        rcases hS.2.1 i hi hmi with ⟨a, b⟩ | ⟨a, b⟩
        · exact absurd ((htest i hi).mpr a) w
        · exact b
      have := Int.mul_le_mul_of_nonneg_right hle (show 0 ≤ D2 * D' by omega)
      refine Int.le_of_mul_le_mul_right (a := K * D) ?_ hp2
      rw [a2, es i hi]
      exact this
  · intro h0
    obtain ⟨i, hi, w⟩ := hex
    have := (htest i hi).mpr w
    rw [h0, Nat.zero_testBit] at this
    cases this
/-- both tell one state -/
theorem fst_one (hv : NvOk n nv) (hA : 0 ≤ A ∧ A ≤ 2) (hB : 0 ≤ B ∧ B ≤ 2) {D D' q K K' : Int} (hD : 0 < D) (hD' : 0 < D') (hq : 0 < q) (hK : 0 < K) (hK' : 0 < K') (hσ : ∀ i, i < n → σ' i * D = σ i * D') {f d f' d' : Nat → Int} (hS : FSt n nv A B m (fun i => σ i * K) (K * (q * D)) f d) (hS' : FSt n nv A B m (fun i => σ' i * K') (K' * (q * D')) f' d') : ∀ i, i < n → f' i * (K * D) = f i * (K' * D') ∧ d' i * (K * D) = d i * (K' * D') := by
  have p1 : 0 < K' * D' := Int.mul_pos hK' hD'
  have p2 : 0 < K * D := Int.mul_pos hK hD
  have s1 := hS.scale p1
  have s2 := hS'.scale p2
  have eN : K * (q * D) * (K' * D') = K' * (q * D') * (K * D) := by ac_rfl
  rw [eN] at s1
  have s2' := s2.congr (σ' := fun i => σ i * K * (K' * D')) (fun i hi => by
    have a := hσ i hi
    have e1 : σ' i * K' * (K * D) = σ' i * D * (K' * K) := by ac_rfl
    have e2 : σ i * K * (K' * D') = σ i * D' * (K' * K) := by ac_rfl
    rw [e1, e2, a])
  exact s1.unique hv hA hB (Int.mul_pos (Int.mul_pos hK' (Int.mul_pos hq hD')) p2) s2'
theorem op_falls (hJt : Jt n nv A B) (hF : 300 < F) {bn ju jl many mu ml : Int32} (J : JX n nv A B g c y s u o pit bn ju jl) (X : MX n nv A B now many mu ml) (x1 x2 x3 : Int32) (way0 wb0 : Nat → Int32) (kn0 tot0 : Int32) (kd0 wh0 : Nat → Int32) (ov0 un0 : Nat → Int64) (eO0 eU0 : Int64) (dO0 dU0 : Nat → Int64) (sO0 sU0 : Int64) (st0 : Nat → Int32) (re0 fr0 fs0 dr0 ds0 : Nat → Int64) (lu0 : Int64) (bf0 bl0 ba0 sc0 : Nat → Int64) (fR0 fS0 : Int64) (hK : KnG n nv A B kn0 tot0 kd0 wh0 ov0 un0 eO0 eU0) (mo0 : Nat → Int32) (uu0 : Int64) (sl0 mb0 ss0 sb0 of0 : Nat → Int64) (be0 : Nat → Int32) (bs0 : Int32) (ma0 : Nat → Int64) (lO0 lU0 : Int64) (mt0 : Int32) (mk0 mw0 : Nat → Int32) (mv0 mn0 : Nat → Int64) (ha0 : Nat → Int32) (nO0 nU0 : Int64) (me0 fe0 : Nat → Int32) (aO0 aU0 bO0 bU0 : Nat → Int64) (hf : ∀ i, i < 5 → fe0 i = 0) (se : Nat → Int64) (ut : Int64) (fo : Nat → Int64) (lf : Int32) (so : Nat → Int64) (mun : Int64) (nu : Nat → Int64) (sz : Int32) (row : Nat → Int64) (rm th : Int32) (hR : RowEq nu sz row rm) :
    ∃ (r : Int32) (way1 wb1 : Nat → Int32) (kn1 tot1 : Int32) (kd1 wh1 : Nat → Int32) (ov1 un1 : Nat → Int64) (eO1 eU1 : Int64) (dO1 dU1 : Nat → Int64) (sO1 sU1 : Int64) (st1 : Nat → Int32) (re1 fr1 fs1 dr1 ds1 : Nat → Int64) (lu1 : Int64) (bf1 bl1 ba1 sc1 : Nat → Int64) (fR1 fS1 : Int64) (se1 : Nat → Int64) (ut1 : Int64) (fo1 : Nat → Int64) (lf1 : Int32) (nu1 : Nat → Int64) (sz1 : Int32) (mo1 : Nat → Int32) (uu1 : Int64) (sl1 mb1 ss1 sb1 of1 : Nat → Int64) (be1 : Nat → Int32) (bs1 : Int32) (ma1 : Nat → Int64) (lO1 lU1 : Int64) (mt1 : Int32) (mk1 mw1 : Nat → Int32) (mv1 mn1 : Nat → Int64) (ha1 : Nat → Int32) (nO1 nU1 : Int64) (me1 fe1 : Nat → Int32) (aO1 aU1 bO1 bU1 : Nat → Int64) (so1 : Nat → Int64) (mun1 : Int64) (row1 : Nat → Int64) (rm1 : Int32), f_X_falls F x1 x2 x3 se ut fo lf way0 wb0 kn0 tot0 kd0 wh0 ov0 un0 eO0 eU0 dO0 dU0 sO0 sU0 st0 re0 fr0 fs0 dr0 ds0 lu0 bf0 bl0 ba0 sc0 fR0 fS0 g c y s u o pit bn ju jl nu sz = some (r, se1, ut1, fo1, lf1, way1, wb1, kn1, tot1, kd1, wh1, ov1, un1, eO1, eU1, dO1, dU1, sO1, sU1, st1, re1, fr1, fs1, dr1, ds1, lu1, bf1, bl1, ba1, sc1, fR1, fS1, nu1, sz1) ∧ f_M_falls F x1 x2 x3 now many mu ml row rm th mo0 uu0 sl0 mb0 ss0 sb0 of0 be0 bs0 ma0 lO0 lU0 mt0 mk0 mw0 mv0 mn0 ha0 nO0 nU0 me0 fe0 aO0 aU0 bO0 bU0 so mun = some (r, row1, rm1, (0 : Int32), mo1, uu1, sl1, mb1, ss1, sb1, of1, be1, bs1, ma1, lO1, lU1, mt1, mk1, mw1, mv1, mn1, ha1, nO1, nU1, me1, fe1, aO1, aU1, bO1, bU1, so1, mun1) ∧
      KnG n nv A B kn1 tot1 kd1 wh1 ov1 un1 eO1 eU1 ∧ (∀ i, i < 5 → fe1 i = 0) ∧ RowEq nu1 sz1 row1 rm1 := by
  obtain ⟨p, rfl, hp1, hp2⟩ := zI_all x1
  obtain ⟨q, rfl, hq1, hq2⟩ := zI_all x2
  obtain ⟨i, rfl, hi1, hi2⟩ := zI_all x3
  have hJt' := hJt
  obtain ⟨hn, hv, hA, hB⟩ := hJt'
  obtain ⟨J1, ho, rfl, rfl, rfl⟩ := J
  obtain ⟨h, rfl, rfl, rfl⟩ := X
  obtain ⟨r, way1, wb1, kn1, tot1, kd1, wh1, ov1, un1, eO1, eU1, dO1, dU1, sO1, sU1, st1, re1, fr1, fs1, dr1, ds1, lu1, bf1, bl1, ba1, sc1, fR1, fS1, e, hK1, hc⟩ := both_come hJt hF ⟨J1, ho, rfl, rfl, rfl⟩ ⟨h, rfl, rfl, rfl⟩ (p := p) ⟨hp1, hp2⟩ ((0 ≤ q ∧ q ≤ p) ∧ 0 ≤ i ∧ i < n) way0 wb0 kn0 tot0 kd0 wh0 ov0 un0 eO0 eU0 dO0 dU0 sO0 sU0 st0 re0 fr0 fs0 dr0 ds0 lu0 bf0 bl0 ba0 sc0 fR0 fS0 hK mo0 uu0 sl0 mb0 ss0 sb0 of0 be0 bs0 ma0 lO0 lU0 mt0 mk0 mw0 mv0 mn0 ha0 nO0 nU0 me0 fe0 aO0 aU0 bO0 bU0 hf
  have w1 : f_X_within (zI q) (0 : Int32) (zI p) = some (zI (b01 (0 ≤ q ∧ q ≤ p))) := within_z (a := 0) (b := p) ⟨hq1, hq2⟩ (by omega) ⟨hp1, hp2⟩
  have m1 : f_M_in (Int32.toInt64 (zI q)) (0 : Int64) (Int32.toInt64 (zI p)) = some (zI (b01 (0 ≤ q ∧ q ≤ p))) := by
    rw [zI_l (a := p) hp1 hp2]
    exact min_z (a := 0) (b := p) ⟨hq1, hq2⟩ (by omega) ⟨hp1, hp2⟩
  have hX : f_X_falls F (zI p) (zI q) (zI i) se ut fo lf way0 wb0 kn0 tot0 kd0 wh0 ov0 un0 eO0 eU0 dO0 dU0 sO0 sU0 st0 re0 fr0 fs0 dr0 ds0 lu0 bf0 bl0 ba0 sc0 fR0 fS0 g c y s u o pit (zI (n : Int)) (zI A) (zI B) nu sz = fj_X_falls_27 F (zI p) (zI q) (zI i) (zI p) (zI (b01 ((0 ≤ q ∧ q ≤ p) ∧ 0 ≤ i ∧ i < n))) se ut fo lf way0 wb0 kn0 tot0 kd0 wh0 ov0 un0 eO0 eU0 dO0 dU0 sO0 sU0 st0 re0 fr0 fs0 dr0 ds0 lu0 bf0 bl0 ba0 sc0 fR0 fS0 g c y s u o pit (zI (n : Int)) (zI A) (zI B) nu sz := by
    unfold f_X_falls
    rw [w1, Option.bind_some]
    by_cases a : 0 ≤ q ∧ q ≤ p
    · rw [if_neg (fun z => (b01_ne0.mp z) a), has_z hn ⟨hi1, hi2⟩, Option.bind_some]
      by_cases b : 0 ≤ i ∧ i < n
      · rw [if_neg (fun z => (b01_ne0.mp z) b), b01_t ⟨a, b⟩]; rfl
      · rw [if_pos (b01_ne0.mpr b), b01_f (fun z => b z.2)]; rfl
    · rw [if_pos (b01_ne0.mpr a), b01_f (fun z => a z.1)]; rfl
  rw [hX]
  unfold fj_X_falls_27 f_M_falls
  rw [isBolt_z hn ⟨hi1, hi2⟩, Option.bind_some, e]
  simp only [bd28, Option.bind_some]
  rcases hc with ⟨hr, hno⟩ | ⟨hyes, hkn, hEv, heO, heU, r', mo1, uu1, sl1, mb1, ss1, sb1, of1, be1, bs1, ma1, lO1, lU1, mt1, mk1, mw1, mv1, mn1, ha1, nO1, nU1, me1, fe1, aO1, aU1, bO1, bU1, em, hf1, hc⟩
  · rw [hr, if_neg (show ¬ zI (-1) = (0 : Int32) by decide)]
    refine ⟨_, way1, wb1, kn1, tot1, kd1, wh1, ov1, un1, eO1, eU1, dO1, dU1, sO1, sU1, st1, re1, fr1, fs1, dr1, ds1, lu1, bf1, bl1, ba1, sc1, fR1, fS1, se, ut, fo, lf, nu, sz, mo0, uu0, sl0, mb0, ss0, sb0, of0, be0, bs0, ma0, lO0, lU0, mt0, mk0, mw0, mv0, mn0, ha0, nO0, nU0, me0, fe0, aO0, aU0, bO0, bU0, so, mun, row, rm, rfl, ?_, hK1, hf, hR⟩
    by_cases w : 0 ≤ i ∧ i < n
    · rw [if_neg (fun z => (b01_ne0.mp z) w), misLoad_z ⟨hp1, hp2⟩, Option.bind_some]
      by_cases v : 0 ≤ p ∧ p ≤ 300
      · rw [if_neg (fun z => (b01_ne0.mp z) v), m1, Option.bind_some, if_pos (b01_ne0.mpr (fun z => hno ⟨v.1, v.2, z, w⟩))]; rfl
      · rw [if_pos (b01_ne0.mpr v)]; rfl
    · rw [if_pos (b01_ne0.mpr w)]; rfl
  · rw [if_neg (fun z => (b01_ne0.mp z) hyes.2.2.2), misLoad_z ⟨hp1, hp2⟩, Option.bind_some, if_neg (fun z => (b01_ne0.mp z) ⟨hyes.1, hyes.2.1⟩), m1, Option.bind_some, if_neg (fun z => (b01_ne0.mp z) hyes.2.2.1), em]
    simp only [bd27, Option.bind_some]
    rcases hc with ⟨hr, hr', hpk, hla, hall⟩ | ⟨hr, hr', hpk, hlO, hlU, D, f, d, D', f', d', md', FA, FM, hsc, hsat, hsat', hmds, hmo, hcl, hml⟩
    · rw [hr, hr', if_neg (show ¬ zI (-2) = (0 : Int32) by decide), if_pos rfl]
      exact ⟨_, way1, wb1, kn1, tot1, kd1, wh1, ov1, un1, eO1, eU1, dO1, dU1, sO1, sU1, st1, re1, fr1, fs1, dr1, ds1, lu1, bf1, bl1, ba1, sc1, fR1, fS1, se, ut, fo, lf, nu, sz, mo1, uu1, sl1, mb1, ss1, sb1, of1, be1, bs1, ma1, lO1, lU1, mt1, mk1, mw1, mv1, mn1, ha1, nO1, nU1, me1, fe1, aO1, aU1, bO1, bU1, so, mun, row, rm, rfl, rfl, hK1, hf1, hR⟩
    · obtain ⟨a, ha⟩ : ∃ a : Nat, i = (a : Int) := ⟨i.toNat, by omega⟩
      subst ha
      have hin : a < n := by omega
      have hp : 0 ≤ p ∧ p ≤ 300 := ⟨hyes.1, hyes.2.1⟩
      have hq : 0 ≤ q ∧ q ≤ 300 := by omega
      have hEO := (gs_ok (n := n) (nv := nv) (A := A) (B := B) hn hv hA hB 15).1
      have hla := leftAfter_z (F := F) hn (by omega) hv ho hEO hEv hp
      have hla : f_G_leftAfter F (zI p) tot1 kd1 wh1 ov1 un1 o (zI (n : Int)) = some (zI (la n nv A B p : Int)) := hla
      obtain ⟨lb1, lb2, lb3⟩ := la_ok hn hv hA hB (A := A) (B := B) hyes.1
      have hne : ∃ i, i < n ∧ (la n nv A B p).testBit i = true := by
        obtain ⟨j, hj⟩ := some_bit (lb3.mpr hpk)
        exact ⟨j, (lb1 j hj).1, hj⟩
      have hbk := at_brk hn hv hA hB hp hpk hsat
      have hbk' := at_brk hn hv hA hB hp hpk hsat'
      have hLv := mds_lvm hmds hmo
      obtain ⟨se1, fo1, es, hs⟩ := startFrom_z (F := F) hn (by omega) hv J1 hp FA (zI (la n nv A B p : Int)) se ut fo lf
      obtain ⟨so1, em1, hm1⟩ := laySets_z (F := F) hn (by omega) hv h hp FM so mun
      obtain ⟨a1, a2, a3, a4⟩ := FA
      obtain ⟨b1, b2, b3, b4⟩ := FM
      have hσ : ∀ i, i < n → 0 ≤ sst nv D f i ∧ sst nv D f i ≤ 150000000 := fun i hi => sst_bd hv ⟨a2, a3⟩ hi (hbk i hi)
      have hσ' : ∀ i, i < n → 0 ≤ sst nv D' f' i ∧ sst nv D' f' i ≤ 150000000 := fun i hi => sst_bd hv ⟨b2, b3⟩ hi (hbk' i hi)
      have hss : ∀ i, i < n → sst nv D' f' i * D = sst nv D f i * D' := fun i hi => sst_sc a2 b2 (hsc i hi).1
      obtain ⟨hh, K, kr, ks, lr, ls, st2, re2, fr2, fs2, dr2, ds2, lu2, bf2, bl2, ba2, sc2, fR2, fS2, ec, hL, hK2, hO, hFS, j0, hj0, hjm, hjl⟩ := comeTo_z (F := F) hn (by omega) hv hA hB J1 hσ (fun i hi => (hs i hi).1) hq ⟨a2, a3⟩ lb2 hne st1 re1 fr1 fs1 dr1 ds1 lu1 bf1 bl1 ba1 sc1 fR1 fS1
      have hKp := hL.1
      have hx := mul_bd hq.1 (show 0 ≤ D by omega) hq.2 a3
      have bd := lnF_bd hn hv hA hB hσ hL a hin
      have q1 := mul_bd bd.1 hx.1 (show kr a ≤ 299269 by omega) hx.2
      have q2 := mul_bd (show 0 ≤ lr a by omega) hx.1 (show lr a ≤ 25 * 299269 by omega) hx.2
      have hun : 0 < K * D ∧ K * D ≤ 299269 * 299269 := ⟨Int.mul_pos hKp a2, (mul_bd (show 0 ≤ K by omega) (show 0 ≤ D by omega) hK2 a3).2⟩
      have hat := lnF_at hn hO (q * D) hin
      rw [hr, hr', if_pos (show zI 0 = (0 : Int32) from rfl), if_neg (show ¬ (1 : Int32) = 0 by decide), hla, Option.bind_some, es, em1]
      simp only [bd4, bd2, Option.bind_some]
      rw [ec]
      simp only [bd13, Option.bind_some, nm]
      have el : Int32.toInt64 (zI q) * zL D = zL (q * D) := by rw [zI_l (a := q) (by omega) (by omega), zL_mul]
      have eu : lu2 * zL D = zL (K * D) := by rw [hO.1, zL_mul]
      obtain ⟨nu1, sz1, e1, R1⟩ := fraction_z (F := F) (by omega) (RowC.nil nu) (by show 0 + 2 ≤ 8; omega) (o := kr a * (q * D) + ks a * 1) (u := K * D) (by omega) (by omega) hun.1 (by omega)
      obtain ⟨nu2, sz2, e2, R2⟩ := fraction_z (F := F) (by omega) R1 (by show 2 + 2 ≤ 8; omega) (o := lr a * (q * D) + ls a * 1) (u := K * D) (by omega) (by omega) hun.1 (by omega)
      rw [el, eu, hat.1, Option.bind_some, e1]
      simp only [Option.bind_some]
      rw [hat.2, Option.bind_some, e2]
      simp only [Option.bind_some]
      by_cases hq0 : q = 0
      · subst hq0
        obtain ⟨jm, hjm1, hjm2, els, hjm4⟩ := leastSet_z (F := F) hn (by omega) hσ' hm1 hLv hne
        obtain ⟨row1, rm1, t1, T1⟩ := tellFraction_z (F := F) (by omega) (RowC.nil row) (by show 0 + 2 ≤ 64; omega) (o := 0) (u := 1) (by omega) (by omega) (by omega) (by omega)
        obtain ⟨row2, rm2, t2, T2⟩ := tellFraction_z (F := F) (by omega) T1 (by show 2 + 2 ≤ 64; omega) (o := sst nv D' f' jm) (u := D') (by have := hσ' jm hjm1; omega) (by have := hσ' jm hjm1; omega) b2 (by omega)
        have t1 : f_M_tellFraction F (0 : Int64) (1 : Int64) row (0 : Int32) = some (row1, rm1) := t1
        rw [if_pos (show zI 0 = (0 : Int32) from rfl), t1]
        simp only [Option.bind_some]
        rw [els, Option.bind_some, t2]
        simp only [Option.bind_some]
        refine ⟨_, way1, wb1, kn1, tot1, kd1, wh1, ov1, un1, eO1, eU1, dO1, dU1, sO1, sU1, st2, re2, fr2, fs2, dr2, ds2, lu2, bf2, bl2, ba2, sc2, fR2, fS2, se1, zL D, fo1, zI (la n nv A B p : Int), nu2, sz2, mo1, uu1, sl1, mb1, ss1, sb1, of1, be1, bs1, ma1, lO1, lU1, mt1, mk1, mw1, mv1, mn1, ha1, nO1, nU1, me1, fe1, aO1, aU1, bO1, bU1, so1, zL D', row2, rm2, rfl, rfl, hK1, hf1, _, ?_, R2, ?_⟩
        · show 4 ≤ 8; omega
        · rw [Int.zero_mul, Int.mul_zero] at hFS
          obtain ⟨n1, n2⟩ := hFS.none
          have hz : kr a * (0 * D) + ks a * 1 = 0 := by rw [Int.zero_mul]; exact n1 a hin
          have hda : lr a * (0 * D) + ls a * 1 = sst nv D f j0 * K := by
            have x1 := n2 a hin
            have x2 := n2 j0 hj0
            have x3 := n1 j0 hj0
            rw [Int.zero_mul] at hjl ⊢
            rw [x3, Int.mul_zero (nv j0 0), Int.add_zero] at hjl
            omega
          have hmin : sst nv D' f' jm * D = sst nv D f j0 * D' := by
            have x1 := hjm4 j0 hj0 hjm
            have x2 : sst nv D f j0 ≤ sst nv D f jm := by
              have y1 := n2 jm hjm1
              have y2 := n2 j0 hj0
              have y3 := n1 j0 hj0
              rw [Int.zero_mul] at hjl
              rw [y3, Int.mul_zero (nv j0 0), Int.add_zero] at hjl
              rcases hFS.2.1 jm hjm1 hjm2 with ⟨z1, -⟩ | ⟨-, z2⟩
              · have z0 := n1 jm hjm1
                have z1 : 0 < kr jm * 0 + ks jm * 1 := z1
                omega
              · dsimp only at z2
                refine Int.le_of_mul_le_mul_right (a := K) ?_ hKp
                omega
            have y1 := Int.mul_le_mul_of_nonneg_right x1 (show 0 ≤ D by omega)
            have y2 := Int.mul_le_mul_of_nonneg_right x2 (show 0 ≤ D' by omega)
            rw [hss j0 hj0] at y1
            rw [← hss jm hjm1] at y2
            omega
          rw [hz, hda, fra_eq (o := 0) (u := K * D) (o' := 0) (u' := 1) hun.1 (by omega) (by omega), fra_eq (o := sst nv D f j0 * K) (u := K * D) (o' := sst nv D' f' jm) (u' := D') hun.1 b2 (by
            have e1 : sst nv D' f' jm * (K * D) = sst nv D' f' jm * D * K := by ac_rfl
            have e2 : sst nv D f j0 * K * D' = sst nv D f j0 * D' * K := by ac_rfl
            rw [e1, e2, hmin])]
          exact T2
      · have hqp : 0 < q := by omega
        obtain ⟨hg, hH0⟩ := good_of (σ' := sst nv D' f') hn hv hA hB a2 b2 hqp hKp hss hFS
        have hH := msk_lt (fun i => decide (0 < kr i * (q * D) + ks i * 1)) n
        obtain ⟨mo3, uu3, sl3, mb3, ss3, sb3, of3, be3, bs3, ma3, bb, K', kr', ks', lr', ls', eL, hL', hK2', hO', hFS'⟩ := falls_loop (F := F) hn (by omega) hv hA hB h hσ' hm1 hq ⟨b2, b3⟩ hH hg (msk (fun i => decide (0 < kr i * (q * D) + ks i * 1)) n - 1) F (by have := msk_32 (fun i => decide (0 < kr i * (q * D) + ks i * 1)) hn; omega) 1 (by omega) (by omega) mo1 uu1 sl1 mb1 ss1 sb1 of1 be1 bs1 ma1 hLv
        have hKp' := hL'.1
        have hone := fst_one hv hA hB a2 b2 hqp hKp hKp' hss hFS hFS' a hin
        have hx' := mul_bd hq.1 (show 0 ≤ D' by omega) hq.2 b3
        have bd' := lnF_bd hn hv hA hB hσ' hL' a hin
        have q1' := mul_bd bd'.1 hx'.1 (show kr' a ≤ 299269 by omega) hx'.2
        have q2' := mul_bd (show 0 ≤ lr' a by omega) hx'.1 (show lr' a ≤ 25 * 299269 by omega) hx'.2
        have hun' : 0 < K' * D' ∧ K' * D' ≤ 299269 * 299269 := ⟨Int.mul_pos hKp' b2, (mul_bd (show 0 ≤ K' by omega) (show 0 ≤ D' by omega) hK2' b3).2⟩
        obtain ⟨ff, fd⟩ := fallen_z hn hO' hq D' hin
        have eu' : uu3 * zL D' = zL (K' * D') := by rw [hO'.1, zL_mul]
        obtain ⟨row1, rm1, t1, T1⟩ := tellFraction_z (F := F) (by omega) (RowC.nil row) (by show 0 + 2 ≤ 64; omega) (o := kr' a * (q * D') + ks' a * 1) (u := K' * D') (by omega) (by omega) hun'.1 (by omega)
        obtain ⟨row2, rm2, t2, T2⟩ := tellFraction_z (F := F) (by omega) T1 (by show 2 + 2 ≤ 64; omega) (o := lr' a * (q * D') + ls' a * 1) (u := K' * D') (by omega) (by omega) hun'.1 (by omega)
        rw [if_neg (show ¬ zI q = (0 : Int32) from fun z => hq0 ((zI_eq (a := q) (b := 0) (by omega) (by omega) (by omega) (by omega)).mp z)), show iter (un11 (fb_M_falls_80 F (zI q) now (zI (n : Int)) (zI A) (zI B) so1 (zL D'))) F ((1 : Int32), mo1, uu1, sl1, mb1, ss1, sb1, of1, be1, bs1, ma1) = _ from eL]
        simp only [bd10, Option.bind_some]
        rw [ff, Option.bind_some, eu', t1]
        simp only [Option.bind_some]
        rw [fd, Option.bind_some, t2]
        simp only [Option.bind_some]
        refine ⟨_, way1, wb1, kn1, tot1, kd1, wh1, ov1, un1, eO1, eU1, dO1, dU1, sO1, sU1, st2, re2, fr2, fs2, dr2, ds2, lu2, bf2, bl2, ba2, sc2, fR2, fS2, se1, zL D, fo1, zI (la n nv A B p : Int), nu2, sz2, mo3, uu3, sl3, mb3, ss3, sb3, of3, be3, bs3, ma3, lO1, lU1, mt1, mk1, mw1, mv1, mn1, ha1, nO1, nU1, me1, fe1, aO1, aU1, bO1, bU1, so1, zL D', row2, rm2, rfl, rfl, hK1, hf1, _, ?_, R2, ?_⟩
        · show 4 ≤ 8; omega
        · rw [fra_eq hun.1 hun'.1 hone.1, fra_eq hun.1 hun'.1 hone.2]
          exact T2
end OPS27
