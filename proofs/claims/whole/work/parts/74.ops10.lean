/-! COUNTS: count, row -/
section OPS10
variable {n : Nat} {nv : Nat → Nat → Int} {A B : Int} {F : Nat} {g c y s u pit o now : Nat → Int32}
theorem op_count (hJt : Jt n nv A B) (hF : 300 < F) {bn ju jl many mu ml : Int32} (J : JX n nv A B g c y s u o pit bn ju jl) (X : MX n nv A B now many mu ml) (x1 : Int32) (way0 wb0 : Nat → Int32) (kn0 tot0 : Int32) (kd0 wh0 : Nat → Int32) (ov0 un0 : Nat → Int64) (eO0 eU0 : Int64) (dO0 dU0 : Nat → Int64) (sO0 sU0 : Int64) (st0 : Nat → Int32) (re0 fr0 fs0 dr0 ds0 : Nat → Int64) (lu0 : Int64) (bf0 bl0 ba0 sc0 : Nat → Int64) (fR0 fS0 : Int64) (hK : KnG n nv A B kn0 tot0 kd0 wh0 ov0 un0 eO0 eU0) (mo0 : Nat → Int32) (uu0 : Int64) (sl0 mb0 ss0 sb0 of0 : Nat → Int64) (be0 : Nat → Int32) (bs0 : Int32) (ma0 : Nat → Int64) (lO0 lU0 : Int64) (mt0 : Int32) (mk0 mw0 : Nat → Int32) (mv0 mn0 : Nat → Int64) (ha0 : Nat → Int32) (nO0 nU0 : Int64) (me0 fe0 : Nat → Int32) (aO0 aU0 bO0 bU0 : Nat → Int64) (hf : ∀ i, i < 5 → fe0 i = 0) (ts ty sz rm th : Int32) (hT : ts = ty) (hR : sz = rm) :
    ∃ (r : Int32) (way1 wb1 : Nat → Int32) (kn1 tot1 : Int32) (kd1 wh1 : Nat → Int32) (ov1 un1 : Nat → Int64) (eO1 eU1 : Int64) (dO1 dU1 : Nat → Int64) (sO1 sU1 : Int64) (st1 : Nat → Int32) (re1 fr1 fs1 dr1 ds1 : Nat → Int64) (lu1 : Int64) (bf1 bl1 ba1 sc1 : Nat → Int64) (fR1 fS1 : Int64) (mo1 : Nat → Int32) (uu1 : Int64) (sl1 mb1 ss1 sb1 of1 : Nat → Int64) (be1 : Nat → Int32) (bs1 : Int32) (ma1 : Nat → Int64) (lO1 lU1 : Int64) (mt1 : Int32) (mk1 mw1 : Nat → Int32) (mv1 mn1 : Nat → Int64) (ha1 : Nat → Int32) (nO1 nU1 : Int64) (me1 fe1 : Nat → Int32) (aO1 aU1 bO1 bU1 : Nat → Int64), f_X_count F x1 way0 wb0 kn0 tot0 kd0 wh0 ov0 un0 eO0 eU0 dO0 dU0 sO0 sU0 st0 re0 fr0 fs0 dr0 ds0 lu0 bf0 bl0 ba0 sc0 fR0 fS0 g c y s u o pit bn ju jl ts sz = some (r, way1, wb1, kn1, tot1, kd1, wh1, ov1, un1, eO1, eU1, dO1, dU1, sO1, sU1, st1, re1, fr1, fs1, dr1, ds1, lu1, bf1, bl1, ba1, sc1, fR1, fS1) ∧ f_M_count F x1 now many mu ml ty rm th mo0 uu0 sl0 mb0 ss0 sb0 of0 be0 bs0 ma0 lO0 lU0 mt0 mk0 mw0 mv0 mn0 ha0 nO0 nU0 me0 fe0 aO0 aU0 bO0 bU0 = some (r, (0 : Int32), mo1, uu1, sl1, mb1, ss1, sb1, of1, be1, bs1, ma1, lO1, lU1, mt1, mk1, mw1, mv1, mn1, ha1, nO1, nU1, me1, fe1, aO1, aU1, bO1, bU1) ∧
      KnG n nv A B kn1 tot1 kd1 wh1 ov1 un1 eO1 eU1 ∧ (∀ i, i < 5 → fe1 i = 0) := by
  subst hT hR
  have hJt' := hJt
  obtain ⟨hn, hv, hA, hB⟩ := hJt'
  obtain ⟨J1, ho, rfl, rfl, rfl⟩ := J
  obtain ⟨h, rfl, rfl, rfl⟩ := X
  have h32 : snd0 n nv < 32 := msk_32 _ hn
  have hso : f_J_soundBits F o (zI (n : Int)) = some (zI (snd0 n nv : Int)) := sound_z (F := F) hn (by omega) hv ho
  have same : ∀ r : Int32, ∃ (r' : Int32) (way1 wb1 : Nat → Int32) (kn1 tot1 : Int32) (kd1 wh1 : Nat → Int32) (ov1 un1 : Nat → Int64) (eO1 eU1 : Int64) (dO1 dU1 : Nat → Int64) (sO1 sU1 : Int64) (st1 : Nat → Int32) (re1 fr1 fs1 dr1 ds1 : Nat → Int64) (lu1 : Int64) (bf1 bl1 ba1 sc1 : Nat → Int64) (fR1 fS1 : Int64) (mo1 : Nat → Int32) (uu1 : Int64) (sl1 mb1 ss1 sb1 of1 : Nat → Int64) (be1 : Nat → Int32) (bs1 : Int32) (ma1 : Nat → Int64) (lO1 lU1 : Int64) (mt1 : Int32) (mk1 mw1 : Nat → Int32) (mv1 mn1 : Nat → Int64) (ha1 : Nat → Int32) (nO1 nU1 : Int64) (me1 fe1 : Nat → Int32) (aO1 aU1 bO1 bU1 : Nat → Int64), (some (r, way0, wb0, kn0, tot0, kd0, wh0, ov0, un0, eO0, eU0, dO0, dU0, sO0, sU0, st0, re0, fr0, fs0, dr0, ds0, lu0, bf0, bl0, ba0, sc0, fR0, fS0) : Option (Int32 × (Nat → Int32) × (Nat → Int32) × Int32 × Int32 × (Nat → Int32) × (Nat → Int32) × (Nat → Int64) × (Nat → Int64) × Int64 × Int64 × T17)) = some (r', way1, wb1, kn1, tot1, kd1, wh1, ov1, un1, eO1, eU1, dO1, dU1, sO1, sU1, st1, re1, fr1, fs1, dr1, ds1, lu1, bf1, bl1, ba1, sc1, fR1, fS1) ∧ (some (r, (0 : Int32), mo0, uu0, sl0, mb0, ss0, sb0, of0, be0, bs0, ma0, lO0, lU0, mt0, mk0, mw0, mv0, mn0, ha0, nO0, nU0, me0, fe0, aO0, aU0, bO0, bU0) : Option (Int32 × Int32 × (Nat → Int32) × Int64 × (Nat → Int64) × (Nat → Int64) × (Nat → Int64) × (Nat → Int64) × (Nat → Int64) × (Nat → Int32) × Int32 × (Nat → Int64) × Int64 × Int64 × Int32 × (Nat → Int32) × (Nat → Int32) × (Nat → Int64) × (Nat → Int64) × (Nat → Int32) × Int64 × Int64 × (Nat → Int32) × (Nat → Int32) × (Nat → Int64) × (Nat → Int64) × (Nat → Int64) × (Nat → Int64))) = some (r', (0 : Int32), mo1, uu1, sl1, mb1, ss1, sb1, of1, be1, bs1, ma1, lO1, lU1, mt1, mk1, mw1, mv1, mn1, ha1, nO1, nU1, me1, fe1, aO1, aU1, bO1, bU1) ∧ KnG n nv A B kn1 tot1 kd1 wh1 ov1 un1 eO1 eU1 ∧ (∀ i, i < 5 → fe1 i = 0) := fun r =>
    ⟨r, way0, wb0, kn0, tot0, kd0, wh0, ov0, un0, eO0, eU0, dO0, dU0, sO0, sU0, st0, re0, fr0, fs0, dr0, ds0, lu0, bf0, bl0, ba0, sc0, fR0, fS0, mo0, uu0, sl0, mb0, ss0, sb0, of0, be0, bs0, ma0, lO0, lU0, mt0, mk0, mw0, mv0, mn0, ha0, nO0, nU0, me0, fe0, aO0, aU0, bO0, bU0, rfl, rfl, hK, hf⟩
  unfold f_X_count f_M_count
  by_cases q0 : x1 = 0
  · rw [if_pos q0, if_pos q0]; exact same _
  rw [if_neg q0, if_neg q0]
  by_cases q1 : x1 = 1
  · rw [if_pos q1, if_pos q1, hso, Option.bind_some, bits_count _ h32, soundMany_z (F := F) hn (by omega) hv h, Option.bind_some, Option.bind_some]
    have e : (sel (fun i => (snd0 n nv).testBit i) 5).length = (sel (fun i => decide (nv i 5 = 0)) n).length := sel_msk hn
    rw [e]
    exact same _
  rw [if_neg q1, if_neg q1]
  by_cases q2 : x1 = 2
  · rw [if_pos q2, if_pos q2, breaksT_z (F := F) hn (by omega) hv J1.2.2.2.2.1 ho, breakAll_z (F := F) hn (by omega) hv h, Option.bind_some, Option.bind_some]
    exact same _
  rw [if_neg q2, if_neg q2]
  by_cases q3 : x1 = 3
  · obtain ⟨k, e1, hk⟩ := least_z (F := F) hn (by omega) hv J1.2.1 h32
    rw [if_pos q3, if_pos q3, hso, Option.bind_some, e1, clearLeast_z (F := F) hn (by omega) hv h hk, Option.bind_some, Option.bind_some]
    exact same _
  rw [if_neg q3, if_neg q3]
  by_cases q4 : x1 = 4
  · obtain ⟨way1, wb1, kn1, tot1, kd1, wh1, ov1, un1, eO1, eU1, dO1, dU1, sO1, sU1, st1, re1, fr1, fs1, dr1, ds1, lu1, bf1, bl1, ba1, sc1, fR1, fS1, mo1, uu1, sl1, mb1, ss1, sb1, of1, be1, bs1, ma1, lO1, lU1, mt1, mk1, mw1, mv1, mn1, ha1, nO1, nU1, me1, fe1, aO1, aU1, bO1, bU1, e, em, hK1, hEv, hEm, heO, heU, hlO, hlU, hrec, hf1⟩ := both_grow hJt hF ⟨J1, ho, rfl, rfl, rfl⟩ ⟨h, rfl, rfl, rfl⟩ way0 wb0 kn0 tot0 kd0 wh0 ov0 un0 eO0 eU0 dO0 dU0 sO0 sU0 st0 re0 fr0 fs0 dr0 ds0 lu0 bf0 bl0 ba0 sc0 fR0 fS0 hK mo0 uu0 sl0 mb0 ss0 sb0 of0 be0 bs0 ma0 lO0 lU0 mt0 mk0 mw0 mv0 mn0 ha0 nO0 nU0 me0 fe0 aO0 aU0 bO0 bU0 hf
    rw [if_pos q4, if_pos q4, e, em]
    simp only [bd27, bd26, Option.bind_some]
    refine ⟨_, way1, wb1, kn1, tot1, kd1, wh1, ov1, un1, eO1, eU1, dO1, dU1, sO1, sU1, st1, re1, fr1, fs1, dr1, ds1, lu1, bf1, bl1, ba1, sc1, fR1, fS1, mo1, uu1, sl1, mb1, ss1, sb1, of1, be1, bs1, ma1, lO1, lU1, mt1, mk1, mw1, mv1, mn1, ha1, nO1, nU1, me1, fe1, aO1, aU1, bO1, bU1, rfl, ?_, hK1, hf1⟩
    rw [hEv.1, hEm.1]
  rw [if_neg q4, if_neg q4]
  by_cases q5 : x1 = 5
  · rw [if_pos q5, if_pos q5]; exact same _
  rw [if_neg q5, if_neg q5]
  by_cases q6 : x1 = 6
  · rw [if_pos q6, if_pos q6]; exact same _
  rw [if_neg q6, if_neg q6]
  by_cases q7 : x1 = 7
  · rw [if_pos q7, if_pos q7]; exact same _
  rw [if_neg q7, if_neg q7]
  by_cases q8 : x1 = 8
  · rw [if_pos q8, if_pos q8]; exact same _
  rw [if_neg q8, if_neg q8]
  exact same _
end OPS10
