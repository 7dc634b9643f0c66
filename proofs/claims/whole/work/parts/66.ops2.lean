/-! THE CALLS AT A LOAD: state, idle, hardest -/
section OPS2
variable {n : Nat} {nv : Nat → Nat → Int} {A B : Int} {F : Nat} {g c y s u pit o now : Nat → Int32}
theorem bit_no : ∀ m : Nat, m < 32 → ∀ c : Nat, c < 5 → ((zI (m : Int) >>> (zI (c : Int) &&& 31)) &&& (1 : Int32) = 0 ↔ m.testBit c = false) := by decide +kernel
theorem sc_le1 {f f' D D' t : Int} (hD : 0 < D) (hD' : 0 < D') (e : f' * D = f * D') : f ≤ t * D ↔ f' ≤ t * D' := by
  have := sc_le (t := t) (Q := 1) hD hD' e
  rwa [Int.mul_one, Int.mul_one] at this
theorem sc_z {f f' D D' : Int} (hD : 0 < D) (hD' : 0 < D') (e : f' * D = f * D') (h : 0 ≤ f) (h' : 0 ≤ f') : f = 0 ↔ f' = 0 := by
  have := sc_pos hD hD' e
  omega
/-- what a bolt is, by its forces -/
def sta (nv : Nat → Nat → Int) (m : Nat) (D : Int) (f : Nat → Int) (i : Nat) : Int := if nv i 5 = 1 then 4 else if m.testBit i = false then 3 else if f i = 0 then 0 else if f i ≤ nv i 2 * D then 1 else 2
theorem sta_bd (nv : Nat → Nat → Int) (m : Nat) (D : Int) (f : Nat → Int) (i : Nat) : 0 ≤ sta nv m D f i ∧ sta nv m D f i ≤ 4 := by
  unfold sta
  repeat' split
  all_goals omega
theorem sta_sc {m : Nat} {D D' : Int} {f f' : Nat → Int} (hD : 0 < D) (hD' : 0 < D') {i : Nat} (e : f' i * D = f i * D') (h : 0 ≤ f i) (h' : 0 ≤ f' i) : sta nv m D' f' i = sta nv m D f i := by
  have a := sc_z hD hD' e h h'
  have b := sc_le1 (t := nv i 2) hD hD' e
  unfold sta
  simp only [a, b]
theorem stateOf_z (hn : n ≤ 5) (hv : NvOk n nv) (h : ∀ i, i < n → ∀ q, q < 7 → now (7 * i + q) = zI (nv i q)) {m : Nat} {md : Nat → Int} {mo : Nat → Int32} (hm : Mds n nv m md) (hmo : ∀ i, i < n → mo i = zI (m3 md i)) {p D : Int} (hp : 0 ≤ p ∧ p ≤ 300) {f d : Nat → Int} {uu : Int64} {sl mb ss sb : Nat → Int64} {lO lU : Int64} (FM : FMt n p D f d uu sl mb ss sb lO lU) {i : Nat} (hi : i < n) : f_M_stateOf (zI (i : Int)) now mo uu sl mb lO lU = some (zI (sta nv m D f i)) := by
  obtain ⟨b1, b2, b3, b4⟩ := FM
  obtain ⟨g1, g2, g3, g4⟩ := b4 i hi
  have v := hv i hi
  have b := hm.bd i hi
  have m3b := m3_bd (md := md) b.1
  have q1 := mul_bd (show 0 ≤ D by omega) hp.1 b3 hp.2
  have q2 := mul_bd (show 0 ≤ nv i 2 by omega) (show 0 ≤ D by omega) (show nv i 2 ≤ 30 by omega) b3
  unfold f_M_stateOf sta
  rw [show (5 : Int32) = zI ((5 : Nat) : Int) from rfl, of_z hn h hi (by omega), Option.bind_some]
  by_cases q5 : nv i 5 = 1
  · rw [if_pos (by rw [q5]; rfl), if_pos q5]; rfl
  · rw [if_neg (by rw [i1, zI_eq (by omega) (by omega) (by omega) (by omega)]; exact q5), if_neg q5, ldA_z (by omega) (by omega), Option.bind_some, hmo i hi]
    have hl := hm.lv i hi
    unfold liv at hl
    by_cases q : m.testBit i = false
    · have : ¬ md i ≤ 2 := fun w => by rw [hl.mp ⟨b.1, w⟩] at q; cases q
      have e : m3 md i = 3 := if_neg this
      rw [if_pos (by rw [e]; rfl), if_pos q]; rfl
    · have hb : md i ≤ 2 := (hl.mpr (by simpa using q)).2
      have e : m3 md i = md i := if_pos hb
      rw [if_neg (by rw [i3, zI_eq (by omega) (by omega) (by omega) (by omega)]; omega), if_neg q, g1, Option.bind_some]
      by_cases z : f i = 0
      · rw [if_pos (by rw [z]; rfl), if_pos z]; rfl
      · rw [if_neg (by rw [l0z, zL_eq (by omega) (by omega) (by omega) (by omega)]; exact z), if_neg z, Option.bind_some, show (2 : Int32) = zI ((2 : Nat) : Int) from rfl, of_z hn h hi (by omega), Option.bind_some, b1, Option.bind_some, zI_l (by omega) (by omega), zL_mul]
        by_cases w : f i ≤ nv i 2 * D
        · rw [if_pos (by rw [zL_le (by omega) (by omega) (by omega) (by omega)]; exact w), if_pos w]; rfl
        · rw [if_neg (by rw [zL_le (by omega) (by omega) (by omega) (by omega)]; exact w), if_neg w]; rfl
theorem op_state (hJt : Jt n nv A B) (hF : 300 < F) {bn ju jl many mu ml : Int32} (J : JX n nv A B g c y s u o pit bn ju jl) (X : MX n nv A B now many mu ml) (x1 x2 : Int32) (way0 wb0 : Nat → Int32) (kn0 tot0 : Int32) (kd0 wh0 : Nat → Int32) (ov0 un0 : Nat → Int64) (eO0 eU0 : Int64) (dO0 dU0 : Nat → Int64) (sO0 sU0 : Int64) (st0 : Nat → Int32) (re0 fr0 fs0 dr0 ds0 : Nat → Int64) (lu0 : Int64) (bf0 bl0 ba0 sc0 : Nat → Int64) (fR0 fS0 : Int64) (hK : KnG n nv A B kn0 tot0 kd0 wh0 ov0 un0 eO0 eU0) (mo0 : Nat → Int32) (uu0 : Int64) (sl0 mb0 ss0 sb0 of0 : Nat → Int64) (be0 : Nat → Int32) (bs0 : Int32) (ma0 : Nat → Int64) (lO0 lU0 : Int64) (mt0 : Int32) (mk0 mw0 : Nat → Int32) (mv0 mn0 : Nat → Int64) (ha0 : Nat → Int32) (nO0 nU0 : Int64) (me0 fe0 : Nat → Int32) (aO0 aU0 bO0 bU0 : Nat → Int64) (hf : ∀ i, i < 5 → fe0 i = 0) (th : Int32) :
    ∃ (r : Int32) (way1 wb1 : Nat → Int32) (kn1 tot1 : Int32) (kd1 wh1 : Nat → Int32) (ov1 un1 : Nat → Int64) (eO1 eU1 : Int64) (dO1 dU1 : Nat → Int64) (sO1 sU1 : Int64) (st1 : Nat → Int32) (re1 fr1 fs1 dr1 ds1 : Nat → Int64) (lu1 : Int64) (bf1 bl1 ba1 sc1 : Nat → Int64) (fR1 fS1 : Int64)  (mo1 : Nat → Int32) (uu1 : Int64) (sl1 mb1 ss1 sb1 of1 : Nat → Int64) (be1 : Nat → Int32) (bs1 : Int32) (ma1 : Nat → Int64) (lO1 lU1 : Int64) (mt1 : Int32) (mk1 mw1 : Nat → Int32) (mv1 mn1 : Nat → Int64) (ha1 : Nat → Int32) (nO1 nU1 : Int64) (me1 fe1 : Nat → Int32) (aO1 aU1 bO1 bU1 : Nat → Int64) , f_X_state F x1 x2 way0 wb0 kn0 tot0 kd0 wh0 ov0 un0 eO0 eU0 dO0 dU0 sO0 sU0 st0 re0 fr0 fs0 dr0 ds0 lu0 bf0 bl0 ba0 sc0 fR0 fS0 g c y s u o pit bn ju jl  = some (r, way1, wb1, kn1, tot1, kd1, wh1, ov1, un1, eO1, eU1, dO1, dU1, sO1, sU1, st1, re1, fr1, fs1, dr1, ds1, lu1, bf1, bl1, ba1, sc1, fR1, fS1) ∧ f_M_state F x1 x2 now many mu ml th mo0 uu0 sl0 mb0 ss0 sb0 of0 be0 bs0 ma0 lO0 lU0 mt0 mk0 mw0 mv0 mn0 ha0 nO0 nU0 me0 fe0 aO0 aU0 bO0 bU0 = some (r, (0 : Int32), mo1, uu1, sl1, mb1, ss1, sb1, of1, be1, bs1, ma1, lO1, lU1, mt1, mk1, mw1, mv1, mn1, ha1, nO1, nU1, me1, fe1, aO1, aU1, bO1, bU1) ∧
      KnG n nv A B kn1 tot1 kd1 wh1 ov1 un1 eO1 eU1 ∧ (∀ i, i < 5 → fe1 i = 0) := by
  obtain ⟨p, rfl, hp1, hp2⟩ := zI_all x1
  obtain ⟨i, rfl, hi1, hi2⟩ := zI_all x2
  have hJt' := hJt
  obtain ⟨hn, hv, hA, hB⟩ := hJt'
  obtain ⟨J1, ho, rfl, rfl, rfl⟩ := J
  obtain ⟨h, rfl, rfl, rfl⟩ := X
  obtain ⟨r, way1, wb1, kn1, tot1, kd1, wh1, ov1, un1, eO1, eU1, dO1, dU1, sO1, sU1, st1, re1, fr1, fs1, dr1, ds1, lu1, bf1, bl1, ba1, sc1, fR1, fS1, e, hK1, hc⟩ := both_come hJt hF ⟨J1, ho, rfl, rfl, rfl⟩ ⟨h, rfl, rfl, rfl⟩ (p := p) ⟨hp1, hp2⟩ (0 ≤ i ∧ i < n) way0 wb0 kn0 tot0 kd0 wh0 ov0 un0 eO0 eU0 dO0 dU0 sO0 sU0 st0 re0 fr0 fs0 dr0 ds0 lu0 bf0 bl0 ba0 sc0 fR0 fS0 hK mo0 uu0 sl0 mb0 ss0 sb0 of0 be0 bs0 ma0 lO0 lU0 mt0 mk0 mw0 mv0 mn0 ha0 nO0 nU0 me0 fe0 aO0 aU0 bO0 bU0 hf
  unfold f_X_state f_M_state
  rw [has_z hn ⟨hi1, hi2⟩, Option.bind_some, isBolt_z hn ⟨hi1, hi2⟩, Option.bind_some, e]
  simp only [bd28, Option.bind_some]
  rcases hc with ⟨hr, hno⟩ | ⟨hyes, hkn, hEv, heO, heU, r', mo1, uu1, sl1, mb1, ss1, sb1, of1, be1, bs1, ma1, lO1, lU1, mt1, mk1, mw1, mv1, mn1, ha1, nO1, nU1, me1, fe1, aO1, aU1, bO1, bU1, em, hf1, hc⟩
  · rw [hr, if_pos (show zI (-1) = -1 from rfl)]
    refine ⟨_, way1, wb1, kn1, tot1, kd1, wh1, ov1, un1, eO1, eU1, dO1, dU1, sO1, sU1, st1, re1, fr1, fs1, dr1, ds1, lu1, bf1, bl1, ba1, sc1, fR1, fS1, mo0, uu0, sl0, mb0, ss0, sb0, of0, be0, bs0, ma0, lO0, lU0, mt0, mk0, mw0, mv0, mn0, ha0, nO0, nU0, me0, fe0, aO0, aU0, bO0, bU0, rfl, ?_, hK1, hf⟩
    by_cases w : 0 ≤ i ∧ i < n
    · rw [if_neg (fun z => (b01_ne0.mp z) w), misLoad_z ⟨hp1, hp2⟩, Option.bind_some, if_pos (b01_ne0.mpr (fun z => hno ⟨z.1, z.2, w⟩))]
      try rfl
    · rw [if_pos (b01_ne0.mpr w)]
      try rfl
  · rw [if_neg (fun z => (b01_ne0.mp z) hyes.2.2), misLoad_z ⟨hp1, hp2⟩, Option.bind_some, if_neg (fun z => (b01_ne0.mp z) ⟨hyes.1, hyes.2.1⟩), em]
    simp only [bd27, Option.bind_some]
    have hin : i.toNat < n := by omega
    have vi := hv i.toNat hin
    have ei : zI i = zI ((i.toNat : Nat) : Int) := by congr 1; omega
    have hEO := (gs_ok (n := n) (nv := nv) (A := A) (B := B) hn hv hA hB 15).1
    have hla := leftAfter_z (F := F) hn (by omega) hv ho hEO hEv ⟨hyes.1, hyes.2.1⟩
    obtain ⟨lb1, lb2, lb3⟩ := la_ok hn hv hA hB (A := A) (B := B) hyes.1
    have hbit := bit_no _ lb2 i.toNat (by omega)
    rw [ei, ldA_z (by omega) (by omega), Option.bind_some, ho _ hin, hla, Option.bind_some, show (5 : Int32) = zI ((5 : Nat) : Int) from rfl, of_z hn h hin (show 5 < 7 by omega), Option.bind_some]
    generalize i.toNat = a at *
    rcases hc with ⟨hr, hr', hpk, hla', hall⟩ | ⟨hr, hr', hpk, hlO, hlU, D, f, d, D', f', d', md', FA, FM, hsc, hsat, hsat', hmds, hmo, hcl, hml⟩
    · rw [hr, hr', if_neg (by decide), if_pos rfl]
      by_cases w : nv a 5 = 0
      · rw [if_pos (by rw [w]; rfl), if_pos (hbit.mpr (by rw [hla', Nat.zero_testBit])), if_neg (by rw [w]; decide)]
        exact ⟨_, way1, wb1, kn1, tot1, kd1, wh1, ov1, un1, eO1, eU1, dO1, dU1, sO1, sU1, st1, re1, fr1, fs1, dr1, ds1, lu1, bf1, bl1, ba1, sc1, fR1, fS1, mo1, uu1, sl1, mb1, ss1, sb1, of1, be1, bs1, ma1, lO1, lU1, mt1, mk1, mw1, mv1, mn1, ha1, nO1, nU1, me1, fe1, aO1, aU1, bO1, bU1, rfl, rfl, hK1, hf1⟩
      · rw [if_neg (by rw [i0, zI_eq (by omega) (by omega) (by omega) (by omega)]; exact w), if_pos (by rw [show nv a 5 = 1 by omega]; rfl)]
        exact ⟨_, way1, wb1, kn1, tot1, kd1, wh1, ov1, un1, eO1, eU1, dO1, dU1, sO1, sU1, st1, re1, fr1, fs1, dr1, ds1, lu1, bf1, bl1, ba1, sc1, fR1, fS1, mo1, uu1, sl1, mb1, ss1, sb1, of1, be1, bs1, ma1, lO1, lU1, mt1, mk1, mw1, mv1, mn1, ha1, nO1, nU1, me1, fe1, aO1, aU1, bO1, bU1, rfl, rfl, hK1, hf1⟩
    · have hst := stateOf_z hn hv h hmds hmo ⟨hyes.1, hyes.2.1⟩ FM hin
      obtain ⟨a1, a2, a3, a4⟩ := FA
      obtain ⟨b1, b2, b3, b4⟩ := FM
      obtain ⟨f1, f2, f3, f4⟩ := a4 a hin
      have q1 := mul_bd (show 0 ≤ D by omega) hyes.1 a3 hyes.2.1
      have q2 := mul_bd (show 0 ≤ nv a 2 by omega) (show 0 ≤ D by omega) (show nv a 2 ≤ 30 by omega) a3
      rw [hr, hr', if_neg (show ¬ zI 0 = -1 by decide), if_neg (show ¬ (1 : Int32) = 0 by decide), hst, Option.bind_some, sta_sc a2 b2 (hsc a hin).1 f3.1 (b4 a hin).2.2.1.1]
      unfold sta
      by_cases w : nv a 5 = 0
      · rw [if_pos (show zI (nv a 5) = 0 by rw [w]; rfl), if_neg (show ¬ nv a 5 = 1 by omega)]
        by_cases t : (la n nv A B p).testBit a = false
        · rw [if_pos (hbit.mpr t), if_pos t]
          exact ⟨_, way1, wb1, kn1, tot1, kd1, wh1, ov1, un1, eO1, eU1, dO1, dU1, sO1, sU1, st1, re1, fr1, fs1, dr1, ds1, lu1, bf1, bl1, ba1, sc1, fR1, fS1, mo1, uu1, sl1, mb1, ss1, sb1, of1, be1, bs1, ma1, lO1, lU1, mt1, mk1, mw1, mv1, mn1, ha1, nO1, nU1, me1, fe1, aO1, aU1, bO1, bU1, rfl, rfl, hK1, hf1⟩
        · rw [if_neg (fun z => t (hbit.mp z)), if_neg t, zI_l (by omega) (by omega), show (1 : Int64) = zL 1 from rfl, f1, Option.bind_some]
          by_cases z : f a = 0
          · rw [if_neg (by rw [z]; decide), if_pos z]
            exact ⟨_, way1, wb1, kn1, tot1, kd1, wh1, ov1, un1, eO1, eU1, dO1, dU1, sO1, sU1, st1, re1, fr1, fs1, dr1, ds1, lu1, bf1, bl1, ba1, sc1, fR1, fS1, mo1, uu1, sl1, mb1, ss1, sb1, of1, be1, bs1, ma1, lO1, lU1, mt1, mk1, mw1, mv1, mn1, ha1, nO1, nU1, me1, fe1, aO1, aU1, bO1, bU1, rfl, rfl, hK1, hf1⟩
          · rw [if_pos (by rw [l0z, zL_lt (by omega) (by omega) (by omega) (by omega)]; omega), if_neg z, ldA_z (by omega) (by omega), Option.bind_some, J1.2.2.1 a hin, zI_l (by omega) (by omega), a1, zL_mul]
            by_cases x : f a ≤ nv a 2 * D
            · rw [if_neg (by rw [zL_lt (by omega) (by omega) (by omega) (by omega)]; omega), if_pos x]
              exact ⟨_, way1, wb1, kn1, tot1, kd1, wh1, ov1, un1, eO1, eU1, dO1, dU1, sO1, sU1, st1, re1, fr1, fs1, dr1, ds1, zL D, bf1, bl1, ba1, sc1, fR1, fS1, mo1, uu1, sl1, mb1, ss1, sb1, of1, be1, bs1, ma1, lO1, lU1, mt1, mk1, mw1, mv1, mn1, ha1, nO1, nU1, me1, fe1, aO1, aU1, bO1, bU1, rfl, rfl, hK1, hf1⟩
            · rw [if_pos (by rw [zL_lt (by omega) (by omega) (by omega) (by omega)]; omega), if_neg x]
              exact ⟨_, way1, wb1, kn1, tot1, kd1, wh1, ov1, un1, eO1, eU1, dO1, dU1, sO1, sU1, st1, re1, fr1, fs1, dr1, ds1, zL D, bf1, bl1, ba1, sc1, fR1, fS1, mo1, uu1, sl1, mb1, ss1, sb1, of1, be1, bs1, ma1, lO1, lU1, mt1, mk1, mw1, mv1, mn1, ha1, nO1, nU1, me1, fe1, aO1, aU1, bO1, bU1, rfl, rfl, hK1, hf1⟩
      · rw [if_neg (by rw [i0, zI_eq (by omega) (by omega) (by omega) (by omega)]; exact w), if_pos (show nv a 5 = 1 by omega)]
        exact ⟨_, way1, wb1, kn1, tot1, kd1, wh1, ov1, un1, eO1, eU1, dO1, dU1, sO1, sU1, st1, re1, fr1, fs1, dr1, ds1, lu1, bf1, bl1, ba1, sc1, fR1, fS1, mo1, uu1, sl1, mb1, ss1, sb1, of1, be1, bs1, ma1, lO1, lU1, mt1, mk1, mw1, mv1, mn1, ha1, nO1, nU1, me1, fe1, aO1, aU1, bO1, bU1, rfl, rfl, hK1, hf1⟩
end OPS2
