/-! THE CALLS AT A LOAD: idle, hardest -/
section OPS3
variable {n : Nat} {nv : Nat → Nat → Int} {A B : Int} {F : Nat} {g c y s u pit o now : Nat → Int32}
theorem anb_z : ∀ a : Nat, a < 32 → ∀ b : Nat, b < 32 → zI (a : Int) &&& (zI (b : Int) ^^^ (-1 : Int32)) = zI ((a &&& (31 ^^^ b) : Nat) : Int) := by decide +kernel
theorem anb_test : ∀ a : Nat, a < 32 → ∀ b : Nat, b < 32 → (a &&& (31 ^^^ b)) < 32 ∧ ∀ i : Nat, i < 5 → (a &&& (31 ^^^ b)).testBit i = (a.testBit i && !b.testBit i) := by decide +kernel
theorem zero_and (x : Int32) : (0 : Int32) &&& x = 0 := by simp
theorem bits_ext {a b : Nat} (ha : a < 32) (hb : b < 32) (h : ∀ i, i < 5 → a.testBit i = b.testBit i) : a = b := by
  refine Nat.eq_of_testBit_eq fun i => ?_
  by_cases q : i < 5
  · exact h i q
  · rw [bit_high ha (by omega), bit_high hb (by omega)]
theorem bear_tot (hn : n ≤ 5) (hF : 10 < F) (x : Int32) (fr fs : Nat → Int64) : ∃ v, f_X_bearingAt F x fr fs (zI (n : Int)) = some v := by
  have loop := iter_for (body := un2 (fb_X_bearingAt_4 x fr fs (zI (n : Int)))) (F := F) (s := ((0 : Int32), (0 : Int32))) (fun k z => ∃ v, z = (v, zI (k : Int))) (fun _ => True) n (by omega) ⟨0, rfl⟩ ?_ ?_
  · obtain ⟨q, e, -⟩ := loop
    exact ⟨q, by unfold f_X_bearingAt; rw [e, Option.bind_some]⟩
  · rintro k z hk ⟨v, rfl⟩
    dsimp only [un2]
    unfold fb_X_bearingAt_4 f_L_forceAt
    rw [if_neg (by rw [zI_le (by omega) (by omega) (by omega) (by omega)]; omega), ldA_z (by omega) (by omega), Option.bind_some, ldA_z (by omega) (by omega), Option.bind_some, Option.bind_some]
    split
    · simp only [fj_X_bearingAt_40, nm, zI_1]; exact ⟨_, rfl, _, rfl⟩
    · simp only [fj_X_bearingAt_40, nm, zI_1]; exact ⟨_, rfl, _, rfl⟩
  · rintro z ⟨v, rfl⟩
    dsimp only [un2]
    unfold fb_X_bearingAt_4
    rw [if_pos (by rw [zI_le (by omega) (by omega) (by omega) (by omega)]; omega)]
    exact ⟨_, rfl, trivial⟩
theorem bear_z (hn : n ≤ 5) (hF : 10 < F) {p : Int} (hp : 0 ≤ p ∧ p ≤ 300) {D : Int} {f d : Nat → Int} {lu : Int64} {fr fs dr ds : Nat → Int64} (FA : FAt n p D f d lu fr fs dr ds) : f_X_bearingAt F (zI p) fr fs (zI (n : Int)) = some (zI (msk (fun i => decide (0 < f i)) n : Int)) := by
  obtain ⟨a1, a2, a3, a4⟩ := FA
  have q1 := mul_bd (show 0 ≤ D by omega) hp.1 a3 hp.2
  have loop := iter_for (body := un2 (fb_X_bearingAt_4 (zI p) fr fs (zI (n : Int)))) (F := F) (s := ((0 : Int32), (0 : Int32))) (fun k z => z = (zI (msk (fun i => decide (0 < f i)) k : Int), zI (k : Int))) (fun q => q = zI (msk (fun i => decide (0 < f i)) n : Int)) n (by omega) rfl ?_ ?_
  · obtain ⟨q, e, rfl⟩ := loop
    unfold f_X_bearingAt
    rw [e, Option.bind_some]
  · rintro k z hk rfl
    obtain ⟨f1, -, f3, -⟩ := a4 k hk
    have hm : msk (fun i => decide (0 < f i)) k < 32 := msk_32 _ (by omega)
    dsimp only [un2]
    unfold fb_X_bearingAt_4
    rw [if_neg (by rw [zI_le (by omega) (by omega) (by omega) (by omega)]; omega), zI_l (by omega) (by omega), show (1 : Int64) = zL 1 from rfl, f1, Option.bind_some]
    by_cases w : 0 < f k
    · rw [if_neg (by rw [l0z, zL_le (by omega) (by omega) (by omega) (by omega)]; omega)]
      simp only [fj_X_bearingAt_40, nm, zI_1]
      rw [bit_or _ hm k (by omega)]
      have e : msk (fun i => decide (0 < f i)) (k + 1) = msk (fun i => decide (0 < f i)) k ||| 2 ^ k := if_pos (by simp [w])
      exact ⟨_, rfl, by rw [e]⟩
    · rw [if_pos (by rw [l0z, zL_le (by omega) (by omega) (by omega) (by omega)]; omega)]
      simp only [fj_X_bearingAt_40, nm, zI_1]
      have e : msk (fun i => decide (0 < f i)) (k + 1) = msk (fun i => decide (0 < f i)) k := if_neg (by simp [w])
      exact ⟨_, rfl, by rw [e]⟩
  · rintro z rfl
    dsimp only [un2]
    unfold fb_X_bearingAt_4
    rw [if_pos (by rw [zI_le (by omega) (by omega) (by omega) (by omega)]; omega)]
    exact ⟨_, rfl, rfl⟩
/-- the model's bits: who bears nothing, who is broken -/
theorem midle_z (hn : n ≤ 5) (hF : 10 < F) (hv : NvOk n nv) (h : ∀ i, i < n → ∀ q, q < 7 → now (7 * i + q) = zI (nv i q)) {m : Nat} (r : Int32) {mo : Nat → Int32} (hmo : ∀ i, i < n → ∃ x : Int, mo i = zI x ∧ 0 ≤ x ∧ x ≤ 3 ∧ (x = 3 ↔ m.testBit i = false)) {uu : Int64} {sl mb : Nat → Int64} {lO lU : Int64} {pz : Nat → Bool} (hpz : r = 0 → ∀ i, pz i = false) (hst : ¬ r = 0 → ∀ i, i < n → ∃ x : Int, 0 ≤ x ∧ x ≤ 4 ∧ f_M_stateOf (zI (i : Int)) now mo uu sl mb lO lU = some (zI x) ∧ (x = 0 ↔ pz i = true)) :
    iter (un3 (fb_M_idle_28 r now (zI (n : Int)) mo uu sl mb lO lU)) F ((0 : Int32), (0 : Int32), (0 : Int32)) = some (zI (msk pz n : Int), zI (msk (fun i => decide (nv i 5 = 0) && !m.testBit i) n : Int)) := by
  have loop := iter_for (body := un3 (fb_M_idle_28 r now (zI (n : Int)) mo uu sl mb lO lU)) (F := F) (s := ((0 : Int32), (0 : Int32), (0 : Int32))) (fun k z => z = (zI (msk pz k : Int), zI (msk (fun i => decide (nv i 5 = 0) && !m.testBit i) k : Int), zI (k : Int))) (fun q => q = (zI (msk pz n : Int), zI (msk (fun i => decide (nv i 5 = 0) && !m.testBit i) n : Int))) n (by omega) rfl ?_ ?_
  · obtain ⟨q, e, rfl⟩ := loop
    exact e
  · rintro k z hk rfl
    have v := hv k hk
    have h1 : msk pz k < 32 := msk_32 _ (by omega)
    have h2 : msk (fun i => decide (nv i 5 = 0) && !m.testBit i) k < 32 := msk_32 _ (by omega)
    obtain ⟨x, x1, x2, x3, x4⟩ := hmo k hk
    -- the second half
    have half : ∀ (b : Bool) (w : Int32), (b = pz k) → (w = if b = true then ((1 : Int32) <<< (zI (k : Int) &&& 31)) else 0) → ∃ s', fj_M_idle_59 (zI (msk (fun i => decide (nv i 5 = 0) && !m.testBit i) k : Int)) (zI (k : Int)) (zI (msk pz k : Int)) w now mo = some (.inl s') ∧ s' = (zI (msk pz (k + 1) : Int), zI (msk (fun i => decide (nv i 5 = 0) && !m.testBit i) (k + 1) : Int), zI ((k + 1 : Nat) : Int)) := by
      intro b w hb hw
      have e1 : zI (msk pz k : Int) ||| w = zI (msk pz (k + 1) : Int) := by
        rw [hw]
        simp only [msk]
        rw [← hb]
        by_cases q : b = true
        · rw [if_pos q, if_pos q, bit_or _ h1 k (by omega)]
        · rw [if_neg q, if_neg q, bit_or0 _ h1]
      unfold fj_M_idle_59
      simp only [nm]
      rw [e1, ldA_z (by omega) (by omega), Option.bind_some, x1]
      by_cases q3 : x = 3
      · rw [if_pos (by rw [q3]; rfl), show (5 : Int32) = zI ((5 : Nat) : Int) from rfl, of_z hn h hk (by omega), Option.bind_some]
        by_cases q5 : nv k 5 = 0
        · rw [if_pos (by rw [q5]; rfl)]
          simp only [fj_M_idle_92, nm, zI_1]
          rw [bit_or _ h2 k (by omega)]
          refine ⟨_, rfl, ?_⟩
          have e : msk (fun i => decide (nv i 5 = 0) && !m.testBit i) (k + 1) = msk (fun i => decide (nv i 5 = 0) && !m.testBit i) k ||| 2 ^ k := if_pos (by simp [q5, x4.mp q3])
          rw [e]
        · rw [if_neg (by rw [i0, zI_eq (by omega) (by omega) (by omega) (by omega)]; exact q5)]
          simp only [fj_M_idle_91, fj_M_idle_92, nm, zI_1]
          rw [bit_or0 _ h2]
          refine ⟨_, rfl, ?_⟩
          have e : msk (fun i => decide (nv i 5 = 0) && !m.testBit i) (k + 1) = msk (fun i => decide (nv i 5 = 0) && !m.testBit i) k := if_neg (by simp [q5])
          rw [e]
      · rw [if_neg (by rw [i3, zI_eq (by omega) (by omega) (by omega) (by omega)]; exact q3)]
        simp only [fj_M_idle_91, fj_M_idle_92, nm, zI_1]
        rw [bit_or0 _ h2]
        refine ⟨_, rfl, ?_⟩
        have : ¬ m.testBit k = false := fun w => q3 (x4.mpr w)
        have e : msk (fun i => decide (nv i 5 = 0) && !m.testBit i) (k + 1) = msk (fun i => decide (nv i 5 = 0) && !m.testBit i) k := if_neg (by simp; intro _; simpa using this)
        rw [e]
    dsimp only [un3]
    unfold fb_M_idle_28
    rw [if_neg (by rw [zI_le (by omega) (by omega) (by omega) (by omega)]; omega)]
    by_cases w : r = 0
    · rw [if_pos w]
      unfold fj_M_idle_58
      exact half false 0 (hpz w k).symm (by simp)
    · rw [if_neg w]
      obtain ⟨t, t1, t2, t3, t4⟩ := hst w k hk
      rw [t3, Option.bind_some]
      by_cases z : t = 0
      · rw [if_pos (by rw [z]; rfl)]
        exact half true _ (t4.mp z).symm (by simp)
      · rw [if_neg (by rw [i0, zI_eq (by omega) (by omega) (by omega) (by omega)]; exact z)]
        unfold fj_M_idle_58
        have : ¬ pz k = true := fun x => z (t4.mpr x)
        exact half false 0 (by simpa using this) (by simp)
  · rintro z rfl
    dsimp only [un3]
    unfold fb_M_idle_28
    rw [if_pos (by rw [zI_le (by omega) (by omega) (by omega) (by omega)]; omega)]
    exact ⟨_, rfl, rfl⟩
theorem msk_no {p : Nat → Bool} (h : ∀ i, p i = false) : ∀ k, msk p k = 0
  | 0 => rfl
  | k + 1 => by simp only [msk]; rw [if_neg (by rw [h k]; decide), msk_no h k]
theorem op_idle (hJt : Jt n nv A B) (hF : 300 < F) {bn ju jl many mu ml : Int32} (J : JX n nv A B g c y s u o pit bn ju jl) (X : MX n nv A B now many mu ml) (x1 : Int32) (way0 wb0 : Nat → Int32) (kn0 tot0 : Int32) (kd0 wh0 : Nat → Int32) (ov0 un0 : Nat → Int64) (eO0 eU0 : Int64) (dO0 dU0 : Nat → Int64) (sO0 sU0 : Int64) (st0 : Nat → Int32) (re0 fr0 fs0 dr0 ds0 : Nat → Int64) (lu0 : Int64) (bf0 bl0 ba0 sc0 : Nat → Int64) (fR0 fS0 : Int64) (hK : KnG n nv A B kn0 tot0 kd0 wh0 ov0 un0 eO0 eU0) (mo0 : Nat → Int32) (uu0 : Int64) (sl0 mb0 ss0 sb0 of0 : Nat → Int64) (be0 : Nat → Int32) (bs0 : Int32) (ma0 : Nat → Int64) (lO0 lU0 : Int64) (mt0 : Int32) (mk0 mw0 : Nat → Int32) (mv0 mn0 : Nat → Int64) (ha0 : Nat → Int32) (nO0 nU0 : Int64) (me0 fe0 : Nat → Int32) (aO0 aU0 bO0 bU0 : Nat → Int64) (hf : ∀ i, i < 5 → fe0 i = 0) (nu : Nat → Int64) (sz : Int32) (row : Nat → Int64) (rm th : Int32) (hR : RowEq nu sz row rm) :
    ∃ (r : Int32) (way1 wb1 : Nat → Int32) (kn1 tot1 : Int32) (kd1 wh1 : Nat → Int32) (ov1 un1 : Nat → Int64) (eO1 eU1 : Int64) (dO1 dU1 : Nat → Int64) (sO1 sU1 : Int64) (st1 : Nat → Int32) (re1 fr1 fs1 dr1 ds1 : Nat → Int64) (lu1 : Int64) (bf1 bl1 ba1 sc1 : Nat → Int64) (fR1 fS1 : Int64) (nu1 : Nat → Int64) (sz1 : Int32) (mo1 : Nat → Int32) (uu1 : Int64) (sl1 mb1 ss1 sb1 of1 : Nat → Int64) (be1 : Nat → Int32) (bs1 : Int32) (ma1 : Nat → Int64) (lO1 lU1 : Int64) (mt1 : Int32) (mk1 mw1 : Nat → Int32) (mv1 mn1 : Nat → Int64) (ha1 : Nat → Int32) (nO1 nU1 : Int64) (me1 fe1 : Nat → Int32) (aO1 aU1 bO1 bU1 : Nat → Int64) (row1 : Nat → Int64) (rm1 : Int32), f_X_idle F x1 way0 wb0 kn0 tot0 kd0 wh0 ov0 un0 eO0 eU0 dO0 dU0 sO0 sU0 st0 re0 fr0 fs0 dr0 ds0 lu0 bf0 bl0 ba0 sc0 fR0 fS0 g c y s u o pit bn ju jl nu sz = some (r, way1, wb1, kn1, tot1, kd1, wh1, ov1, un1, eO1, eU1, dO1, dU1, sO1, sU1, st1, re1, fr1, fs1, dr1, ds1, lu1, bf1, bl1, ba1, sc1, fR1, fS1, nu1, sz1) ∧ f_M_idle F x1 now many mu ml row rm th mo0 uu0 sl0 mb0 ss0 sb0 of0 be0 bs0 ma0 lO0 lU0 mt0 mk0 mw0 mv0 mn0 ha0 nO0 nU0 me0 fe0 aO0 aU0 bO0 bU0 = some (r, row1, rm1, (0 : Int32), mo1, uu1, sl1, mb1, ss1, sb1, of1, be1, bs1, ma1, lO1, lU1, mt1, mk1, mw1, mv1, mn1, ha1, nO1, nU1, me1, fe1, aO1, aU1, bO1, bU1) ∧
      KnG n nv A B kn1 tot1 kd1 wh1 ov1 un1 eO1 eU1 ∧ (∀ i, i < 5 → fe1 i = 0) ∧ RowEq nu1 sz1 row1 rm1 := by
  obtain ⟨p, rfl, hp1, hp2⟩ := zI_all x1
  have hJt' := hJt
  obtain ⟨hn, hv, hA, hB⟩ := hJt'
  obtain ⟨J1, ho, rfl, rfl, rfl⟩ := J
  obtain ⟨h, rfl, rfl, rfl⟩ := X
  obtain ⟨r, way1, wb1, kn1, tot1, kd1, wh1, ov1, un1, eO1, eU1, dO1, dU1, sO1, sU1, st1, re1, fr1, fs1, dr1, ds1, lu1, bf1, bl1, ba1, sc1, fR1, fS1, e, hK1, hc⟩ := both_come hJt hF ⟨J1, ho, rfl, rfl, rfl⟩ ⟨h, rfl, rfl, rfl⟩ (p := p) ⟨hp1, hp2⟩ (True) way0 wb0 kn0 tot0 kd0 wh0 ov0 un0 eO0 eU0 dO0 dU0 sO0 sU0 st0 re0 fr0 fs0 dr0 ds0 lu0 bf0 bl0 ba0 sc0 fR0 fS0 hK mo0 uu0 sl0 mb0 ss0 sb0 of0 be0 bs0 ma0 lO0 lU0 mt0 mk0 mw0 mv0 mn0 ha0 nO0 nU0 me0 fe0 aO0 aU0 bO0 bU0 hf
  unfold f_X_idle f_M_idle
  rw [show f_X_come F (zI p) (1 : Int32) = f_X_come F (zI p) (zI (b01 True)) from rfl, e, misLoad_z ⟨hp1, hp2⟩, Option.bind_some]
  simp only [bd28, Option.bind_some]
  rcases hc with ⟨hr, hno⟩ | ⟨hyes, hkn, hEv, heO, heU, r', mo1, uu1, sl1, mb1, ss1, sb1, of1, be1, bs1, ma1, lO1, lU1, mt1, mk1, mw1, mv1, mn1, ha1, nO1, nU1, me1, fe1, aO1, aU1, bO1, bU1, em, hf1, hc⟩
  · rw [hr, if_pos (show zI (-1) = -1 from rfl), if_pos (b01_ne0.mpr (fun z => hno ⟨z.1, z.2, trivial⟩))]
    exact ⟨_, way1, wb1, kn1, tot1, kd1, wh1, ov1, un1, eO1, eU1, dO1, dU1, sO1, sU1, st1, re1, fr1, fs1, dr1, ds1, lu1, bf1, bl1, ba1, sc1, fR1, fS1, nu, sz, mo0, uu0, sl0, mb0, ss0, sb0, of0, be0, bs0, ma0, lO0, lU0, mt0, mk0, mw0, mv0, mn0, ha0, nO0, nU0, me0, fe0, aO0, aU0, bO0, bU0, row, rm, rfl, rfl, hK1, hf, hR⟩
  · rw [if_neg (fun z => (b01_ne0.mp z) ⟨hyes.1, hyes.2.1⟩), em]
    simp only [bd27, Option.bind_some]
    have hEO := (gs_ok (n := n) (nv := nv) (A := A) (B := B) hn hv hA hB 15).1
    have hlaz := leftAfter_z (F := F) hn (by omega) hv ho hEO hEv ⟨hyes.1, hyes.2.1⟩
    obtain ⟨lb1, lb2, lb3⟩ := la_ok hn hv hA hB (A := A) (B := B) hyes.1
    have hso := sound_z (F := F) hn (by omega) hv ho
    have h32 : snd0 n nv < 32 := msk_32 _ hn
    obtain ⟨t1, t2⟩ := anb_test _ h32 _ lb2
    have hbr : (snd0 n nv &&& (31 ^^^ la n nv A B p)) = msk (fun i => decide (nv i 5 = 0) && !(la n nv A B p).testBit i) n := by
      refine bits_ext t1 (msk_32 _ hn) fun i hi => ?_
      rw [t2 i hi, msk_test]
      have := snd0_test (n := n) (nv := nv) i
      cases q : (snd0 n nv).testBit i with
      | true => have w := this.mp q; simp [w.1, w.2]
      | false =>
        have w : ¬ (i < n ∧ nv i 5 = 0) := fun x => by rw [this.mpr x] at q; cases q
        by_cases z : i < n
        · have : ¬ nv i 5 = 0 := fun x => w ⟨z, x⟩
          simp [this]
        · simp [z]
    have hb32 : msk (fun i => decide (nv i 5 = 0) && !(la n nv A B p).testBit i) n < 32 := msk_32 _ hn
    obtain ⟨nu1, sz1, e1, R1⟩ := whole_z (RowC.nil nu) (by show 0 < 8; omega) (msk (fun i => decide (nv i 5 = 0) && !(la n nv A B p).testBit i) n : Int)
    obtain ⟨row1, rm1, e2, R2⟩ := tell_z (RowC.nil row) (by show 0 < 64; omega) (msk (fun i => decide (nv i 5 = 0) && !(la n nv A B p).testBit i) n : Int)
    rcases hc with ⟨hr, hr', hpk, hla, hall⟩ | ⟨hr, hr', hpk, hlO, hlU, D, f, d, D', f', d', md', FA, FM, hsc, hsat, hsat', hmds, hmo, hcl, hml⟩
    · have hmi := midle_z (F := F) (uu := uu1) (sl := sl1) (mb := mb1) (lO := lO1) (lU := lU1) (m := la n nv A B p) (pz := fun _ => false) hn (by omega) hv h r' (mo := mo1) (fun i hi => ⟨3, hall i hi, by omega, by omega, by rw [hla, Nat.zero_testBit]; simp⟩) (fun _ _ => rfl) (fun w => absurd hr' w)
      obtain ⟨v, hbe⟩ := bear_tot (F := F) hn (by omega) (zI p) fr1 fs1
      rw [hr, if_neg (by decide), hlaz, Option.bind_some, hso, Option.bind_some]
      rw [show zI ((msk (fun i => decide (nv i 5 = 0)) n : Nat) : Int) = zI (snd0 n nv : Int) from rfl, anb_z _ h32 _ lb2, hbr, zI_l (by omega) (by omega), e1, hmi]
      simp only [bd2, Option.bind_some]
      rw [hbe, Option.bind_some, zI_l (by omega) (by omega), e2]
      simp only [Option.bind_some]
      refine ⟨_, way1, wb1, kn1, tot1, kd1, wh1, ov1, un1, eO1, eU1, dO1, dU1, sO1, sU1, st1, re1, fr1, fs1, dr1, ds1, lu1, bf1, bl1, ba1, sc1, fR1, fS1, nu1, sz1, mo1, uu1, sl1, mb1, ss1, sb1, of1, be1, bs1, ma1, lO1, lU1, mt1, mk1, mw1, mv1, mn1, ha1, nO1, nU1, me1, fe1, aO1, aU1, bO1, bU1, row1, rm1, rfl, ?_, hK1, hf1, _, by show 1 ≤ 8; omega, R1, R2⟩
      have z0 : zI (la n nv A B p : Int) &&& (v ^^^ (-1 : Int32)) = zI (msk (fun _ => false) n : Int) := by
        rw [hla, msk_no (fun _ => rfl)]
        exact zero_and _
      rw [← z0]
    · have hst := fun i (hi : i < n) => stateOf_z hn hv h hmds hmo ⟨hyes.1, hyes.2.1⟩ FM hi
      have hbe := bear_z (F := F) hn (by omega) ⟨hyes.1, hyes.2.1⟩ FA
      have hlvm := hmds.lvm hmo
      obtain ⟨b1, b2, b3, b4⟩ := FM
      obtain ⟨a1, a2, a3, a4⟩ := FA
      have hmi := midle_z (F := F) (uu := uu1) (sl := sl1) (mb := mb1) (lO := lO1) (lU := lU1) (m := la n nv A B p) (pz := fun i => decide (sta nv (la n nv A B p) D' f' i = 0)) hn (by omega) hv h r' (mo := mo1) hlvm (fun w => absurd (hr'.symm.trans w) (by decide)) (fun _ i hi => ⟨_, (sta_bd ..).1, (sta_bd ..).2, hst i hi, by simp⟩)
      have hbe32 : msk (fun i => decide (0 < f i)) n < 32 := msk_32 _ hn
      obtain ⟨t3, t4⟩ := anb_test _ lb2 _ hbe32
      have hid : (la n nv A B p &&& (31 ^^^ msk (fun i => decide (0 < f i)) n)) = msk (fun i => decide (sta nv (la n nv A B p) D' f' i = 0)) n := by
        refine bits_ext t3 (msk_32 _ hn) fun i hi => ?_
        rw [t4 i hi, msk_test, msk_test]
        cases q : (la n nv A B p).testBit i with
        | true =>
          have w := lb1 i q
          have f3 := (a4 i w.1).2.2.1
          rw [sta_sc a2 b2 (hsc i w.1).1 f3.1 (b4 i w.1).2.2.1.1]
          unfold sta
          rw [if_neg (by omega), if_neg (by rw [q]; decide)]
          by_cases z : f i = 0
          · rw [if_pos z]; simp [w.1, z]
          · rw [if_neg z]
            have : 0 < f i := by omega
            by_cases x : f i ≤ nv i 2 * D
            · rw [if_pos x]; simp [w.1, this]
            · rw [if_neg x]; simp [w.1, this]
        | false =>
          by_cases z : i < n
          · unfold sta
            rw [if_pos q]
            by_cases x : nv i 5 = 1
            · rw [if_pos x]; simp
            · rw [if_neg x]; simp
          · simp [z]
      rw [hr, if_neg (by decide), hlaz, Option.bind_some, hso, Option.bind_some]
      rw [show zI ((msk (fun i => decide (nv i 5 = 0)) n : Nat) : Int) = zI (snd0 n nv : Int) from rfl, anb_z _ h32 _ lb2, hbr, zI_l (by omega) (by omega), e1, hmi]
      simp only [bd2, Option.bind_some]
      rw [hbe, Option.bind_some, zI_l (by omega) (by omega), e2]
      simp only [Option.bind_some]
      refine ⟨_, way1, wb1, kn1, tot1, kd1, wh1, ov1, un1, eO1, eU1, dO1, dU1, sO1, sU1, st1, re1, fr1, fs1, dr1, ds1, lu1, bf1, bl1, ba1, sc1, fR1, fS1, nu1, sz1, mo1, uu1, sl1, mb1, ss1, sb1, of1, be1, bs1, ma1, lO1, lU1, mt1, mk1, mw1, mv1, mn1, ha1, nO1, nU1, me1, fe1, aO1, aU1, bO1, bU1, row1, rm1, rfl, ?_, hK1, hf1, _, by show 1 ≤ 8; omega, R1, R2⟩
      rw [anb_z _ lb2 _ hbe32, hid]
end OPS3
