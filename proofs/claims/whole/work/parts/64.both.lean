/-! BOTH COME to a load: class and model beside each other -/
def Jt (n : Nat) (nv : Nat → Nat → Int) (A B : Int) : Prop := n ≤ 5 ∧ NvOk n nv ∧ (0 ≤ A ∧ A ≤ 2) ∧ (0 ≤ B ∧ B ≤ 2)
def JX (n : Nat) (nv : Nat → Nat → Int) (A B : Int) (g c y s u o pit : Nat → Int32) (bn ju jl : Int32) : Prop := JOk n nv g c y s u pit ∧ (∀ i, i < n → o i = zI (nv i 5)) ∧ bn = zI (n : Int) ∧ ju = zI A ∧ jl = zI B
def MX (n : Nat) (nv : Nat → Nat → Int) (A B : Int) (now : Nat → Int32) (many mu ml : Int32) : Prop := (∀ i, i < n → ∀ q, q < 7 → now (7 * i + q) = zI (nv i q)) ∧ many = zI (n : Int) ∧ mu = zI A ∧ ml = zI B
def RowEq (nu : Nat → Int64) (sz : Int32) (row : Nat → Int64) (rm : Int32) : Prop := ∃ l : List Int, l.length ≤ 8 ∧ RowC l nu sz ∧ RowC l row rm
/-- forces f, slips d in parts of D stand in the class's lines -/
def FAt (n : Nat) (p D : Int) (f d : Nat → Int) (lu : Int64) (fr fs dr ds : Nat → Int64) : Prop :=
  lu = zL D ∧ 0 < D ∧ D ≤ 299269 ∧ ∀ i, i < n → f_L_forceAt (zI (i : Int)) (zL p) (zL 1) fr fs = some (zL (f i)) ∧ f_L_slipAt (zI (i : Int)) (zL p) (zL 1) dr ds = some (zL (d i)) ∧ (0 ≤ f i ∧ f i ≤ D * p) ∧ (-2400000000 ≤ d i ∧ d i ≤ 2400000000)
def FMt (n : Nat) (p D : Int) (f d : Nat → Int) (uu : Int64) (sl mb ss sb : Nat → Int64) (lO lU : Int64) : Prop :=
  f_M_unitThere uu lU = some (zL D) ∧ 0 < D ∧ D ≤ 299269 ∧ ∀ i, i < n → f_M_forceThere (zI (i : Int)) sl mb lO lU = some (zL (f i)) ∧ f_M_slipThere (zI (i : Int)) ss sb lO lU = some (zL (d i)) ∧ (0 ≤ f i ∧ f i ≤ D * p) ∧ (-2400000000 ≤ d i ∧ d i ≤ 2400000000)
section BOTH
variable {n : Nat} {nv : Nat → Nat → Int} {A B : Int} {F : Nat} {g c y s u pit o now : Nat → Int32}
theorem sat_nn (hv : NvOk n nv) {m : Nat} {P Q E : Int} {f d : Nat → Int} (hQ : Q = 1) (h : SAt n nv A B m P Q E f d) : (∀ i, i < n → 0 ≤ f i ∧ f i ≤ E * P) ∧ sm f n = E * P := by
  obtain ⟨⟨N, hN, hE, ⟨hs, -⟩, hl, ho⟩, -⟩ := h
  have hnn : ∀ i, i < n → 0 ≤ f i := fun i hi => by
    by_cases q : m.testBit i = true
    · have v := hv i hi
      exact (hl i hi q).nn hE (by omega)
    · rw [ho i hi q]; exact Int.le_refl 0
  have eN : N = E * P := by rw [hQ, Int.mul_one] at hN; rw [hN, Int.mul_comm]
  exact ⟨fun i hi => ⟨hnn i hi, by have := sm_term hi hnn; rw [hs, eN] at this; exact this⟩, by rw [hs, eN]⟩
theorem both_come (hJt : Jt n nv A B) (hF : 300 < F) {bn ju jl many mu ml : Int32} (J : JX n nv A B g c y s u o pit bn ju jl) (X : MX n nv A B now many mu ml) {p : Int} (hp : -2147483648 ≤ p ∧ p ≤ 2147483647) (q : Prop) [Decidable q] (way0 wb0 : Nat → Int32) (kn0 tot0 : Int32) (kd0 wh0 : Nat → Int32) (ov0 un0 : Nat → Int64) (eO0 eU0 : Int64) (dO0 dU0 : Nat → Int64) (sO0 sU0 : Int64) (st0 : Nat → Int32) (re0 fr0 fs0 dr0 ds0 : Nat → Int64) (lu0 : Int64) (bf0 bl0 ba0 sc0 : Nat → Int64) (fR0 fS0 : Int64) (hK : KnG n nv A B kn0 tot0 kd0 wh0 ov0 un0 eO0 eU0) (mo0 : Nat → Int32) (uu0 : Int64) (sl0 mb0 ss0 sb0 of0 : Nat → Int64) (be0 : Nat → Int32) (bs0 : Int32) (ma0 : Nat → Int64) (lO0 lU0 : Int64) (mt0 : Int32) (mk0 mw0 : Nat → Int32) (mv0 mn0 : Nat → Int64) (ha0 : Nat → Int32) (nO0 nU0 : Int64) (me0 fe0 : Nat → Int32) (aO0 aU0 bO0 bU0 : Nat → Int64) (hf : ∀ i, i < 5 → fe0 i = 0) :
    ∃ (r : Int) (way1 wb1 : Nat → Int32) (kn1 tot1 : Int32) (kd1 wh1 : Nat → Int32) (ov1 un1 : Nat → Int64) (eO1 eU1 : Int64) (dO1 dU1 : Nat → Int64) (sO1 sU1 : Int64) (st1 : Nat → Int32) (re1 fr1 fs1 dr1 ds1 : Nat → Int64) (lu1 : Int64) (bf1 bl1 ba1 sc1 : Nat → Int64) (fR1 fS1 : Int64), f_X_come F (zI p) (zI (b01 q)) way0 wb0 kn0 tot0 kd0 wh0 ov0 un0 eO0 eU0 dO0 dU0 sO0 sU0 st0 re0 fr0 fs0 dr0 ds0 lu0 bf0 bl0 ba0 sc0 fR0 fS0 g c y s u o pit bn ju jl = some (zI r, way1, wb1, kn1, tot1, kd1, wh1, ov1, un1, eO1, eU1, dO1, dU1, sO1, sU1, st1, re1, fr1, fs1, dr1, ds1, lu1, bf1, bl1, ba1, sc1, fR1, fS1) ∧ KnG n nv A B kn1 tot1 kd1 wh1 ov1 un1 eO1 eU1 ∧
      ((r = -1 ∧ ¬ (0 ≤ p ∧ p ≤ 300 ∧ q)) ∨ ((0 ≤ p ∧ p ≤ 300 ∧ q) ∧ kn1 = 1 ∧ EvZ (evL n nv A B) tot1 kd1 wh1 ov1 un1 ∧ eO1 = zL (pkO n nv A B) ∧ eU1 = zL (pkU n nv A B) ∧
        ∃ (r' : Int32) (mo1 : Nat → Int32) (uu1 : Int64) (sl1 mb1 ss1 sb1 of1 : Nat → Int64) (be1 : Nat → Int32) (bs1 : Int32) (ma1 : Nat → Int64) (lO1 lU1 : Int64) (mt1 : Int32) (mk1 mw1 : Nat → Int32) (mv1 mn1 : Nat → Int64) (ha1 : Nat → Int32) (nO1 nU1 : Int64) (me1 fe1 : Nat → Int32) (aO1 aU1 bO1 bU1 : Nat → Int64), f_M_growTo F (zI p) now many mu ml mo0 uu0 sl0 mb0 ss0 sb0 of0 be0 bs0 ma0 lO0 lU0 mt0 mk0 mw0 mv0 mn0 ha0 nO0 nU0 me0 fe0 aO0 aU0 bO0 bU0 = some (r', mo1, uu1, sl1, mb1, ss1, sb1, of1, be1, bs1, ma1, lO1, lU1, mt1, mk1, mw1, mv1, mn1, ha1, nO1, nU1, me1, fe1, aO1, aU1, bO1, bU1) ∧ (∀ i, i < 5 → fe1 i = 0) ∧
          ((r = -2 ∧ r' = 0 ∧ pkO n nv A B ≤ p * pkU n nv A B ∧ la n nv A B p = 0 ∧ ∀ i, i < n → mo1 i = zI 3) ∨
           (r = 0 ∧ r' = 1 ∧ p * pkU n nv A B < pkO n nv A B ∧ lO1 = zL p ∧ lU1 = zL 1 ∧ ∃ (D : Int) (f d : Nat → Int) (D' : Int) (f' d' : Nat → Int) (md' : Nat → Int), FAt n p D f d lu1 fr1 fs1 dr1 ds1 ∧ FMt n p D' f' d' uu1 sl1 mb1 ss1 sb1 lO1 lU1 ∧
             (∀ i, i < n → f' i * D = f i * D' ∧ d' i * D = d i * D') ∧ SAt n nv A B (la n nv A B p) p 1 D f d ∧ SAt n nv A B (la n nv A B p) p 1 D' f' d' ∧ Mds n nv (la n nv A B p) md' ∧ (∀ i, i < n → mo1 i = zI (m3 md' i)) ∧
             (∃ (md : Nat → Int) (fr fs dr ds : Nat → Int), At n nv A B (la n nv A B p) md D fr fs dr ds p 1 ∧ SOk n D fr fs dr ds lu1 fr1 fs1 dr1 ds1 ∧ f = fun i => fr i * p + fs i * 1) ∧ ∃ (fr fs dr ds : Nat → Int), Lns n nv A B md' D' fr fs dr ds ∧ SOk n D' fr fs dr ds uu1 sl1 mb1 ss1 sb1 ∧ f' = fun i => fr i * p + fs i * 1)))) := by
  obtain ⟨hn, hv, hA, hB⟩ := hJt
  obtain ⟨J1, ho, rfl, rfl, rfl⟩ := J
  obtain ⟨h, rfl, rfl, rfl⟩ := X
  obtain ⟨r, way1, wb1, kn1, tot1, kd1, wh1, ov1, un1, eO1, eU1, dO1, dU1, sO1, sU1, st1, re1, fr1, fs1, dr1, ds1, lu1, bf1, bl1, ba1, sc1, fR1, fS1, e, hK1, hc⟩ := come_z (F := F) hn hF hv hA hB J1 ho hp q way0 wb0 kn0 tot0 kd0 wh0 ov0 un0 eO0 eU0 dO0 dU0 sO0 sU0 st0 re0 fr0 fs0 dr0 ds0 lu0 bf0 bl0 ba0 sc0 fR0 fS0 hK
  refine ⟨r, way1, wb1, kn1, tot1, kd1, wh1, ov1, un1, eO1, eU1, dO1, dU1, sO1, sU1, st1, re1, fr1, fs1, dr1, ds1, lu1, bf1, bl1, ba1, sc1, fR1, fS1, e, hK1, ?_⟩
  rcases hc with hc | ⟨c1, c2, c3, c4, c5, hc⟩
  · exact Or.inl hc
  · obtain ⟨r', mo1, uu1, sl1, mb1, ss1, sb1, of1, be1, bs1, ma1, lO1, lU1, mt1, mk1, mw1, mv1, mn1, ha1, nO1, nU1, me1, fe1, aO1, aU1, bO1, bU1, em, hfe, hm⟩ := mcome_z (F := F) hn hF hv hA hB h c1.1 c1.2.1 mo0 uu0 sl0 mb0 ss0 sb0 of0 be0 bs0 ma0 lO0 lU0 mt0 mk0 mw0 mv0 mn0 ha0 nO0 nU0 me0 fe0 aO0 aU0 bO0 bU0 hf
    refine Or.inr ⟨c1, c2, c3, c4, c5, r', mo1, uu1, sl1, mb1, ss1, sb1, of1, be1, bs1, ma1, lO1, lU1, mt1, mk1, mw1, mv1, mn1, ha1, nO1, nU1, me1, fe1, aO1, aU1, bO1, bU1, em, hfe, ?_⟩
    rcases hc with ⟨hr, hpk⟩ | ⟨hr, hpk, md, D, fr, fs, dr, ds, hat, hSO⟩
    · rcases hm with ⟨m1, m2, m3, m4⟩ | ⟨m1, m2, -⟩
      · exact Or.inl ⟨hr, m1, m2, m3, m4⟩
      · omega
    · rcases hm with ⟨m1, m2, -⟩ | ⟨m1, m2, m3, m4, md', D', fr', fs', dr', ds', hS', hD2', hSO', hmds, hmo, hnear, hsat'⟩
      · omega
      · have hsat := hat.sat hv hA hB (by omega)
        have hu := hsat.unique hv hA hB c1.1 (by omega) hsat'
        rw [Int.mul_one] at hsat hsat'
        have nn := (sat_nn hv rfl hsat).1
        have nn' := (sat_nn hv rfl hsat').1
        obtain ⟨o1, o2, o3, o4, o5⟩ := hSO
        obtain ⟨o1', o2', o3', o4', o5'⟩ := hSO'
        refine Or.inr ⟨hr, m1, m2, m3, m4, D, fun i => fr i * p + fs i * 1, fun i => dr i * p + ds i * 1, D', fun i => fr' i * p + fs' i * 1, fun i => dr' i * p + ds' i * 1, md', ⟨o1, hat.1.1, hat.2.1, fun i hi => ⟨?_, ?_, nn i hi, (at_bd hn hv hA hB hat.1 hat.2.1 ⟨c1.1, c1.2.1⟩ hi).2⟩⟩, ⟨?_, hS'.1, hD2', fun i hi => ⟨?_, ?_, nn' i hi, (at_bd hn hv hA hB hS' hD2' ⟨c1.1, c1.2.1⟩ hi).2⟩⟩, fun i hi => ?_, hsat, hsat', hmds, hmo, ⟨md, fr, fs, dr, ds, hat, ⟨o1, o2, o3, o4, o5⟩, rfl⟩, ⟨fr', fs', dr', ds', hS', ⟨o1', o2', o3', o4', o5'⟩, rfl⟩⟩
        · unfold f_L_forceAt
          rw [ldA_z (by omega) (by omega), Option.bind_some, ldA_z (by omega) (by omega), Option.bind_some, o2 i hi, o3 i hi, zL_mul, zL_mul, zL_add]
        · unfold f_L_slipAt
          rw [ldA_z (by omega) (by omega), Option.bind_some, ldA_z (by omega) (by omega), Option.bind_some, o4 i hi, o5 i hi, zL_mul, zL_mul, zL_add]
        · rw [o1', m4, unitThere_z, Int.mul_one]
        · rw [m3, m4]; exact forceThere_z hn o2' o3' hi p 1
        · rw [m3, m4]; exact slipThere_z hn o4' o5' hi p 1
        · have := hu i hi
          rw [Int.mul_one D, Int.mul_one D'] at this
          exact this
/-! the calls at a load -/
theorem op_force (hJt : Jt n nv A B) (hF : 300 < F) {bn ju jl many mu ml : Int32} (J : JX n nv A B g c y s u o pit bn ju jl) (X : MX n nv A B now many mu ml) (x1 x2 : Int32) (way0 wb0 : Nat → Int32) (kn0 tot0 : Int32) (kd0 wh0 : Nat → Int32) (ov0 un0 : Nat → Int64) (eO0 eU0 : Int64) (dO0 dU0 : Nat → Int64) (sO0 sU0 : Int64) (st0 : Nat → Int32) (re0 fr0 fs0 dr0 ds0 : Nat → Int64) (lu0 : Int64) (bf0 bl0 ba0 sc0 : Nat → Int64) (fR0 fS0 : Int64) (hK : KnG n nv A B kn0 tot0 kd0 wh0 ov0 un0 eO0 eU0) (mo0 : Nat → Int32) (uu0 : Int64) (sl0 mb0 ss0 sb0 of0 : Nat → Int64) (be0 : Nat → Int32) (bs0 : Int32) (ma0 : Nat → Int64) (lO0 lU0 : Int64) (mt0 : Int32) (mk0 mw0 : Nat → Int32) (mv0 mn0 : Nat → Int64) (ha0 : Nat → Int32) (nO0 nU0 : Int64) (me0 fe0 : Nat → Int32) (aO0 aU0 bO0 bU0 : Nat → Int64) (hf : ∀ i, i < 5 → fe0 i = 0) (nu : Nat → Int64) (sz : Int32) (row : Nat → Int64) (rm th : Int32) (hR : RowEq nu sz row rm) :
    ∃ (r : Int32) (way1 wb1 : Nat → Int32) (kn1 tot1 : Int32) (kd1 wh1 : Nat → Int32) (ov1 un1 : Nat → Int64) (eO1 eU1 : Int64) (dO1 dU1 : Nat → Int64) (sO1 sU1 : Int64) (st1 : Nat → Int32) (re1 fr1 fs1 dr1 ds1 : Nat → Int64) (lu1 : Int64) (bf1 bl1 ba1 sc1 : Nat → Int64) (fR1 fS1 : Int64) (nu1 : Nat → Int64) (sz1 : Int32) (mo1 : Nat → Int32) (uu1 : Int64) (sl1 mb1 ss1 sb1 of1 : Nat → Int64) (be1 : Nat → Int32) (bs1 : Int32) (ma1 : Nat → Int64) (lO1 lU1 : Int64) (mt1 : Int32) (mk1 mw1 : Nat → Int32) (mv1 mn1 : Nat → Int64) (ha1 : Nat → Int32) (nO1 nU1 : Int64) (me1 fe1 : Nat → Int32) (aO1 aU1 bO1 bU1 : Nat → Int64) (row1 : Nat → Int64) (rm1 : Int32), f_X_force F x1 x2 way0 wb0 kn0 tot0 kd0 wh0 ov0 un0 eO0 eU0 dO0 dU0 sO0 sU0 st0 re0 fr0 fs0 dr0 ds0 lu0 bf0 bl0 ba0 sc0 fR0 fS0 g c y s u o pit bn ju jl nu sz = some (r, way1, wb1, kn1, tot1, kd1, wh1, ov1, un1, eO1, eU1, dO1, dU1, sO1, sU1, st1, re1, fr1, fs1, dr1, ds1, lu1, bf1, bl1, ba1, sc1, fR1, fS1, nu1, sz1) ∧ f_M_force F x1 x2 now many mu ml row rm th mo0 uu0 sl0 mb0 ss0 sb0 of0 be0 bs0 ma0 lO0 lU0 mt0 mk0 mw0 mv0 mn0 ha0 nO0 nU0 me0 fe0 aO0 aU0 bO0 bU0 = some (r, row1, rm1, (0 : Int32), mo1, uu1, sl1, mb1, ss1, sb1, of1, be1, bs1, ma1, lO1, lU1, mt1, mk1, mw1, mv1, mn1, ha1, nO1, nU1, me1, fe1, aO1, aU1, bO1, bU1) ∧
      KnG n nv A B kn1 tot1 kd1 wh1 ov1 un1 eO1 eU1 ∧ (∀ i, i < 5 → fe1 i = 0) ∧ RowEq nu1 sz1 row1 rm1 := by
  obtain ⟨p, rfl, hp1, hp2⟩ := zI_all x1
  obtain ⟨i, rfl, hi1, hi2⟩ := zI_all x2
  have hn := hJt.1
  obtain ⟨J1, ho, rfl, rfl, rfl⟩ := J
  obtain ⟨h, rfl, rfl, rfl⟩ := X
  obtain ⟨r, way1, wb1, kn1, tot1, kd1, wh1, ov1, un1, eO1, eU1, dO1, dU1, sO1, sU1, st1, re1, fr1, fs1, dr1, ds1, lu1, bf1, bl1, ba1, sc1, fR1, fS1, e, hK1, hc⟩ := both_come hJt hF ⟨J1, ho, rfl, rfl, rfl⟩ ⟨h, rfl, rfl, rfl⟩ (p := p) ⟨hp1, hp2⟩ (0 ≤ i ∧ i < n) way0 wb0 kn0 tot0 kd0 wh0 ov0 un0 eO0 eU0 dO0 dU0 sO0 sU0 st0 re0 fr0 fs0 dr0 ds0 lu0 bf0 bl0 ba0 sc0 fR0 fS0 hK mo0 uu0 sl0 mb0 ss0 sb0 of0 be0 bs0 ma0 lO0 lU0 mt0 mk0 mw0 mv0 mn0 ha0 nO0 nU0 me0 fe0 aO0 aU0 bO0 bU0 hf
  unfold f_X_force f_M_force
  rw [has_z hn ⟨hi1, hi2⟩, Option.bind_some, isBolt_z hn ⟨hi1, hi2⟩, Option.bind_some, e]
  simp only [bd28, Option.bind_some]
  rcases hc with ⟨hr, hno⟩ | ⟨hyes, -, -, -, -, r', mo1, uu1, sl1, mb1, ss1, sb1, of1, be1, bs1, ma1, lO1, lU1, mt1, mk1, mw1, mv1, mn1, ha1, nO1, nU1, me1, fe1, aO1, aU1, bO1, bU1, em, hf1, hc⟩
  · rw [hr, if_neg (by decide)]
    refine ⟨_, way1, wb1, kn1, tot1, kd1, wh1, ov1, un1, eO1, eU1, dO1, dU1, sO1, sU1, st1, re1, fr1, fs1, dr1, ds1, lu1, bf1, bl1, ba1, sc1, fR1, fS1, nu, sz, mo0, uu0, sl0, mb0, ss0, sb0, of0, be0, bs0, ma0, lO0, lU0, mt0, mk0, mw0, mv0, mn0, ha0, nO0, nU0, me0, fe0, aO0, aU0, bO0, bU0, row, rm, rfl, ?_, hK1, hf, hR⟩
    by_cases w : 0 ≤ i ∧ i < n
    · rw [if_neg (fun z => (b01_ne0.mp z) w), misLoad_z ⟨hp1, hp2⟩, Option.bind_some, if_pos (b01_ne0.mpr (fun z => hno ⟨z.1, z.2, w⟩))]; rfl
    · rw [if_pos (b01_ne0.mpr w)]; rfl
  · rw [if_neg (fun z => (b01_ne0.mp z) hyes.2.2), misLoad_z ⟨hp1, hp2⟩, Option.bind_some, if_neg (fun z => (b01_ne0.mp z) ⟨hyes.1, hyes.2.1⟩), em]
    simp only [bd27, Option.bind_some]
    rcases hc with ⟨hr, hr', -, -, -⟩ | ⟨hr, hr', -, -, -, D, f, d, D', f', d', md', FA, FM, hsc, -, -, -, -, -, -⟩
    · rw [hr, hr', if_neg (by decide), if_pos rfl]
      exact ⟨_, way1, wb1, kn1, tot1, kd1, wh1, ov1, un1, eO1, eU1, dO1, dU1, sO1, sU1, st1, re1, fr1, fs1, dr1, ds1, lu1, bf1, bl1, ba1, sc1, fR1, fS1, nu, sz, mo1, uu1, sl1, mb1, ss1, sb1, of1, be1, bs1, ma1, lO1, lU1, mt1, mk1, mw1, mv1, mn1, ha1, nO1, nU1, me1, fe1, aO1, aU1, bO1, bU1, row, rm, rfl, rfl, hK1, hf1, hR⟩
    · obtain ⟨a1, a2, a3, a4⟩ := FA
      obtain ⟨b1, b2, b3, b4⟩ := FM
      have ei : i = ((i.toNat : Nat) : Int) := by omega
      have hin : i.toNat < n := by omega
      obtain ⟨f1, f2, f3, f4⟩ := a4 i.toNat hin
      obtain ⟨g1, g2, g3, g4⟩ := b4 i.toNat hin
      rw [← ei] at f1 g1
      have c1 := mul_bd (show 0 ≤ D by omega) hyes.1 a3 hyes.2.1
      have c2 := mul_bd (show 0 ≤ D' by omega) hyes.1 b3 hyes.2.1
      obtain ⟨nu1, sz1, e1, R1⟩ := fraction_z (F := F) (by omega) (RowC.nil nu) (by show 0 + 2 ≤ 8; omega) (o := f i.toNat) (u := D) (by omega) (by omega) a2 (by omega)
      obtain ⟨row1, rm1, e2, R2⟩ := tellFraction_z (F := F) (by omega) (RowC.nil row) (by show 0 + 2 ≤ 64; omega) (o := f' i.toNat) (u := D') (by omega) (by omega) b2 (by omega)
      rw [hr, hr', if_pos (show zI 0 = 0 from rfl), if_neg (by decide), zI_l (by omega) (by omega), show (1 : Int64) = zL 1 from rfl, f1, Option.bind_some, a1, e1, g1, Option.bind_some, b1, Option.bind_some, e2]
      simp only [bd2, Option.bind_some]
      refine ⟨_, way1, wb1, kn1, tot1, kd1, wh1, ov1, un1, eO1, eU1, dO1, dU1, sO1, sU1, st1, re1, fr1, fs1, dr1, ds1, zL D, bf1, bl1, ba1, sc1, fR1, fS1, nu1, sz1, mo1, uu1, sl1, mb1, ss1, sb1, of1, be1, bs1, ma1, lO1, lU1, mt1, mk1, mw1, mv1, mn1, ha1, nO1, nU1, me1, fe1, aO1, aU1, bO1, bU1, row1, rm1, rfl, rfl, hK1, hf1, [] ++ fra (f i.toNat) D, by show 2 ≤ 8; omega, R1, ?_⟩
      rw [fra_eq a2 b2 (hsc i.toNat hin).1]
      exact R2
end BOTH
