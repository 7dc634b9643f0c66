/-! WHAT WOULD BE: trial joints; without
-/
section OPS34
variable {n : Nat} {nv : Nat → Nat → Int} {A B : Int} {F : Nat} {g c y s u pit o now : Nat → Int32}
/-- no peak is above the load at which all bolts break together -/
theorem gs_K (hn : n ≤ 5) (hv : NvOk n nv) (hA : 0 ≤ A ∧ A ≤ 2) (hB : 0 ≤ B ∧ B ≤ 2) : ∀ k, (gs n nv A B k).1 = 0 → KOk (gs n nv A B k).2.2.1 (gs n nv A B k).2.2.2.1 := by
  intro k
  induction k with
  | zero => intro _; show (1 : Int) ≤ 299269 ∧ (0 : Int) ≤ 300 * 1; omega
  | succ k ih =>
    intro h
    by_cases q : (gs n nv A B k).1 = 0
    · have e : gs n nv A B (k + 1) = gs n nv A B k := if_pos q
      rw [e]; exact ih q
    · obtain ⟨hE, hG⟩ := gs_ok hn hv hA hB k
      obtain ⟨r1, -, -, -, -, ⟨L', r3, r4⟩, -⟩ := gst_ok hn hv hA hB (hG q).1 q
      have hE2 := (gs_ok hn hv hA hB (k + 1)).1
      have hl := hE2.2.2.2.1
      have h3 : (gs n nv A B (k + 1)).2.2.2.2 = (gs n nv A B k).2.2.2.2 ++ L' := r3
      have h4 : ∀ e ∈ L', e.2.2 = ((gs n nv A B (k + 1)).2.2.1, (gs n nv A B (k + 1)).2.2.2.1) := r4
      have hl0 := hE.2.2.2.1
      refine Classical.byContradiction fun hno => q ?_
      have : lft (snd0 n nv) (gs n nv A B (k + 1)).2.2.2.2 = lft (snd0 n nv) (gs n nv A B k).2.2.2.2 := by
        rw [h3, lft_app]
        refine lft_no fun e he h2 => hno ?_
        have hk := (hE2.2.2.2.2.2.1 e (by rw [h3]; exact List.mem_append_right _ he)).2.2.2.2 h2
        rw [h4 e he] at hk
        exact hk
      rw [← hl0, ← this, hl, h]
theorem pk_K (hn : n ≤ 5) (hv : NvOk n nv) (hA : 0 ≤ A ∧ A ≤ 2) (hB : 0 ≤ B ∧ B ≤ 2) : pkO n nv A B ≤ 300 * pkU n nv A B := (gs_K hn hv hA hB 15 (gs_end hn hv hA hB)).2
/-- both grow another joint -/
theorem both_guess (hJt : Jt n nv A B) (hF : 300 < F) {bn ju jl many mu ml : Int32} (J : JX n nv A B g c y s u o pit bn ju jl) (X : MX n nv A B now many mu ml) (way0 wb0 : Nat → Int32) (kn0 tot0 : Int32) (kd0 wh0 : Nat → Int32) (ov0 un0 : Nat → Int64) (eO0 eU0 : Int64) (dO0 dU0 : Nat → Int64) (sO0 sU0 : Int64) (st0 : Nat → Int32) (re0 fr0 fs0 dr0 ds0 : Nat → Int64) (lu0 : Int64) (bf0 bl0 ba0 sc0 : Nat → Int64) (fR0 fS0 : Int64) (mo0 : Nat → Int32) (uu0 : Int64) (sl0 mb0 ss0 sb0 of0 : Nat → Int64) (be0 : Nat → Int32) (bs0 : Int32) (ma0 : Nat → Int64) (lO0 lU0 : Int64) (mt0 : Int32) (mk0 mw0 : Nat → Int32) (mv0 mn0 : Nat → Int64) (ha0 : Nat → Int32) (nO0 nU0 : Int64) (me0 fe0 : Nat → Int32) (aO0 aU0 bO0 bU0 : Nat → Int64) (hf : ∀ i, i < 5 → fe0 i = 0) :
    ∃ (way1 wb1 : Nat → Int32) (kn1 tot1 : Int32) (kd1 wh1 : Nat → Int32) (ov1 un1 : Nat → Int64) (eO1 eU1 : Int64) (dO1 dU1 : Nat → Int64) (sO1 sU1 : Int64) (st1 : Nat → Int32) (re1 fr1 fs1 dr1 ds1 : Nat → Int64) (lu1 : Int64) (bf1 bl1 ba1 sc1 : Nat → Int64) (fR1 fS1 : Int64) (mo1 : Nat → Int32) (uu1 : Int64) (sl1 mb1 ss1 sb1 of1 : Nat → Int64) (be1 : Nat → Int32) (bs1 : Int32) (ma1 : Nat → Int64) (lO1 lU1 : Int64) (mt1 : Int32) (mk1 mw1 : Nat → Int32) (mv1 mn1 : Nat → Int64) (ha1 : Nat → Int32) (nO1 nU1 : Int64) (me1 fe1 : Nat → Int32) (aO1 aU1 bO1 bU1 : Nat → Int64), f_X_guessPeak F g c y s u o pit bn ju jl way0 wb0 kn0 tot0 kd0 wh0 ov0 un0 eO0 eU0 dO0 dU0 sO0 sU0 st0 re0 fr0 fs0 dr0 ds0 lu0 bf0 bl0 ba0 sc0 fR0 fS0 = some (way1, wb1, kn1, tot1, kd1, wh1, ov1, un1, eO1, eU1, dO1, dU1, sO1, sU1, st1, re1, fr1, fs1, dr1, ds1, lu1, bf1, bl1, ba1, sc1, fR1, fS1) ∧ f_M_grow F now many mu ml mo0 uu0 sl0 mb0 ss0 sb0 of0 be0 bs0 ma0 lO0 lU0 mt0 mk0 mw0 mv0 mn0 ha0 nO0 nU0 me0 fe0 aO0 aU0 bO0 bU0 = some (mo1, uu1, sl1, mb1, ss1, sb1, of1, be1, bs1, ma1, lO1, lU1, mt1, mk1, mw1, mv1, mn1, ha1, nO1, nU1, me1, fe1, aO1, aU1, bO1, bU1) ∧ eO1 = zL (pkO n nv A B) ∧ eU1 = zL (pkU n nv A B) ∧ lO1 = zL (pkO n nv A B) ∧ lU1 = zL (pkU n nv A B) ∧ ∀ i, i < 5 → fe1 i = 0 := by
  obtain ⟨way1, wb1, kn1, tot1, kd1, wh1, ov1, un1, eO1, eU1, dO1, dU1, sO1, sU1, st1, re1, fr1, fs1, dr1, ds1, lu1, bf1, bl1, ba1, sc1, fR1, fS1, mo1, uu1, sl1, mb1, ss1, sb1, of1, be1, bs1, ma1, lO1, lU1, mt1, mk1, mw1, mv1, mn1, ha1, nO1, nU1, me1, fe1, aO1, aU1, bO1, bU1, e, em, hK1, hEv, hEm, heO, heU, hlO, hlU, hrec, hf1⟩ := both_grow hJt hF J X way0 wb0 0 tot0 kd0 wh0 ov0 un0 eO0 eU0 dO0 dU0 sO0 sU0 st0 re0 fr0 fs0 dr0 ds0 lu0 bf0 bl0 ba0 sc0 fR0 fS0 (Or.inl rfl) mo0 uu0 sl0 mb0 ss0 sb0 of0 be0 bs0 ma0 lO0 lU0 mt0 mk0 mw0 mv0 mn0 ha0 nO0 nU0 me0 fe0 aO0 aU0 bO0 bU0 hf
  refine ⟨way1, wb1, kn1, tot1, kd1, wh1, ov1, un1, eO1, eU1, dO1, dU1, sO1, sU1, st1, re1, fr1, fs1, dr1, ds1, lu1, bf1, bl1, ba1, sc1, fR1, fS1, mo1, uu1, sl1, mb1, ss1, sb1, of1, be1, bs1, ma1, lO1, lU1, mt1, mk1, mw1, mv1, mn1, ha1, nO1, nU1, me1, fe1, aO1, aU1, bO1, bU1, ?_, em, heO, heU, hlO, hlU, hf1⟩
  unfold f_X_guessPeak
  rw [e]
  rfl
/-- how a load P / Q stands to o / w -/
def cmpL (P Q o w : Int) : Int := if o * Q < P * w then 1 else if P * w = o * Q then 0 else -1
theorem cmpL_bd (P Q o w : Int) : -1 ≤ cmpL P Q o w ∧ cmpL P Q o w ≤ 1 := by
  unfold cmpL
  by_cases a : o * Q < P * w
  · rw [if_pos a]; omega
  · rw [if_neg a]
    by_cases b : P * w = o * Q
    · rw [if_pos b]; omega
    · rw [if_neg b]; omega
theorem against_z {P Q o w : Int} (h1 : 0 ≤ P ∧ P ≤ 400 * 299269) (h2 : 0 < Q ∧ Q ≤ 25 * 299269) (h3 : -1 ≤ o ∧ o ≤ 400 * 299269) (h4 : 0 < w ∧ w ≤ 25 * 299269) : f_M_against (zL o) (zL w) (zL P) (zL Q) = some (zI (cmpL P Q o w)) := by
  have c1 := abs_mul_bd (a := P) (b := w) (x := 400 * 299269) (y := 25 * 299269) (by omega) (by omega) (by omega) (by omega)
  have c2 := abs_mul_bd (a := o) (b := Q) (x := 400 * 299269) (y := 25 * 299269) (by omega) (by omega) (by omega) (by omega)
  unfold f_M_against cmpL
  simp only [nm, zL_mul]
  by_cases a : o * Q < P * w
  · rw [if_neg (fun z => absurd ((zL_le (by omega) (by omega) (by omega) (by omega)).mp z) (by omega)), if_pos a]; rfl
  · rw [if_pos ((zL_le (by omega) (by omega) (by omega) (by omega)).mpr (by omega)), if_neg a]
    by_cases b : P * w = o * Q
    · rw [if_pos (by rw [b]), if_pos b]; rfl
    · rw [if_neg (fun z => b ((zL_eq (by omega) (by omega) (by omega) (by omega)).mp z)), if_neg b]; rfl
theorem cpk_z {P Q o w : Int} (h1 : 0 ≤ P ∧ P ≤ 400 * 299269) (h2 : 0 < Q ∧ Q ≤ 25 * 299269) (h3 : -1 ≤ o ∧ o ≤ 400 * 299269) (h4 : 0 < w ∧ w ≤ 25 * 299269) : f_G_comparePeak (zL o) (zL w) (zL P) (zL Q) = some (zI (cmpL P Q o w)) := by
  have c1 := abs_mul_bd (a := P) (b := w) (x := 400 * 299269) (y := 25 * 299269) (by omega) (by omega) (by omega) (by omega)
  have c2 := abs_mul_bd (a := o) (b := Q) (x := 400 * 299269) (y := 25 * 299269) (by omega) (by omega) (by omega) (by omega)
  unfold f_G_comparePeak
  rw [zL_mul, zL_mul, compare_z (by omega) (by omega), Option.bind_some]
  rfl
theorem pk_bd (hJt : Jt n nv A B) : (0 ≤ pkO n nv A B ∧ pkO n nv A B ≤ 400 * 299269) ∧ (0 < pkU n nv A B ∧ pkU n nv A B ≤ 25 * 299269) ∧ pkO n nv A B ≤ 300 * pkU n nv A B := by
  obtain ⟨hn, hv, hA, hB⟩ := hJt
  obtain ⟨l1, l2, l3, l4, -⟩ := pk_ok (n := n) (nv := nv) (A := A) (B := B) hn hv hA hB
  exact ⟨⟨l1, l2⟩, ⟨l3, l4⟩, pk_K hn hv hA hB⟩
/-- both tell one load -/
theorem tell_load {P Q : Int} (hF : 100 < F) (h1 : 0 ≤ P ∧ P ≤ 400 * 299269) (h2 : 0 < Q ∧ Q ≤ 25 * 299269) (nu row : Nat → Int64) : ∃ (nu1 : Nat → Int64) (sz1 : Int32) (row1 : Nat → Int64) (rm1 : Int32), f_R_fraction F (zL P) (zL Q) nu (0 : Int32) = some (nu1, sz1) ∧ f_M_tellFraction F (zL P) (zL Q) row (0 : Int32) = some (row1, rm1) ∧ RowEq nu1 sz1 row1 rm1 := by
  obtain ⟨nu1, sz1, e1, R1⟩ := fraction_z (F := F) hF (RowC.nil nu) (by show 0 + 2 ≤ 8; omega) (o := P) (u := Q) (by omega) (by omega) h2.1 (by omega)
  obtain ⟨row1, rm1, e2, R2⟩ := tellFraction_z (F := F) hF (RowC.nil row) (by show 0 + 2 ≤ 64; omega) (o := P) (u := Q) (by omega) (by omega) h2.1 (by omega)
  exact ⟨nu1, sz1, row1, rm1, e1, e2, [] ++ fra P Q, by show 2 ≤ 8; omega, R1, R2⟩
theorem op_without (hJt : Jt n nv A B) (hF : 300 < F) {bn ju jl many mu ml : Int32} (J : JX n nv A B g c y s u o pit bn ju jl) (X : MX n nv A B now many mu ml) (x1 : Int32) (way0 wb0 : Nat → Int32) (kn0 tot0 : Int32) (kd0 wh0 : Nat → Int32) (ov0 un0 : Nat → Int64) (eO0 eU0 : Int64) (dO0 dU0 : Nat → Int64) (sO0 sU0 : Int64) (st0 : Nat → Int32) (re0 fr0 fs0 dr0 ds0 : Nat → Int64) (lu0 : Int64) (bf0 bl0 ba0 sc0 : Nat → Int64) (fR0 fS0 : Int64) (hK : KnG n nv A B kn0 tot0 kd0 wh0 ov0 un0 eO0 eU0) (mo0 : Nat → Int32) (uu0 : Int64) (sl0 mb0 ss0 sb0 of0 : Nat → Int64) (be0 : Nat → Int32) (bs0 : Int32) (ma0 : Nat → Int64) (lO0 lU0 : Int64) (mt0 : Int32) (mk0 mw0 : Nat → Int32) (mv0 mn0 : Nat → Int64) (ha0 : Nat → Int32) (nO0 nU0 : Int64) (me0 fe0 : Nat → Int32) (aO0 aU0 bO0 bU0 : Nat → Int64) (hf : ∀ i, i < 5 → fe0 i = 0) (g2 c2 y2 s2 u2 o2 p2 : Nat → Int32) (b2 a2 l2 : Int32) (wayq0 wbq0 : Nat → Int32) (knq0 totq0 : Int32) (kdq0 whq0 : Nat → Int32) (ovq0 unq0 : Nat → Int64) (eOq0 eUq0 : Int64) (dOq0 dUq0 : Nat → Int64) (sOq0 sUq0 : Int64) (stq0 : Nat → Int32) (req0 frq0 fsq0 drq0 dsq0 : Nat → Int64) (luq0 : Int64) (bfq0 blq0 baq0 scq0 : Nat → Int64) (fRq0 fSq0 : Int64) (nu : Nat → Int64) (sz : Int32) (row : Nat → Int64) (rm th : Int32) (hR : RowEq nu sz row rm) :
    ∃ (r : Int32) (way1 wb1 : Nat → Int32) (kn1 tot1 : Int32) (kd1 wh1 : Nat → Int32) (ov1 un1 : Nat → Int64) (eO1 eU1 : Int64) (dO1 dU1 : Nat → Int64) (sO1 sU1 : Int64) (st1 : Nat → Int32) (re1 fr1 fs1 dr1 ds1 : Nat → Int64) (lu1 : Int64) (bf1 bl1 ba1 sc1 : Nat → Int64) (fR1 fS1 : Int64) (g3 c3 y3 s3 u3 o3 p3 : Nat → Int32) (b3 a3 l3 : Int32) (wayq1 wbq1 : Nat → Int32) (knq1 totq1 : Int32) (kdq1 whq1 : Nat → Int32) (ovq1 unq1 : Nat → Int64) (eOq1 eUq1 : Int64) (dOq1 dUq1 : Nat → Int64) (sOq1 sUq1 : Int64) (stq1 : Nat → Int32) (req1 frq1 fsq1 drq1 dsq1 : Nat → Int64) (luq1 : Int64) (bfq1 blq1 baq1 scq1 : Nat → Int64) (fRq1 fSq1 : Int64) (nu1 : Nat → Int64) (sz1 : Int32) (now1 : Nat → Int32) (mo1 : Nat → Int32) (uu1 : Int64) (sl1 mb1 ss1 sb1 of1 : Nat → Int64) (be1 : Nat → Int32) (bs1 : Int32) (ma1 : Nat → Int64) (lO1 lU1 : Int64) (mt1 : Int32) (mk1 mw1 : Nat → Int32) (mv1 mn1 : Nat → Int64) (ha1 : Nat → Int32) (nO1 nU1 : Int64) (me1 fe1 : Nat → Int32) (aO1 aU1 bO1 bU1 : Nat → Int64) (row1 : Nat → Int64) (rm1 : Int32), f_X_without F x1 way0 wb0 kn0 tot0 kd0 wh0 ov0 un0 eO0 eU0 dO0 dU0 sO0 sU0 st0 re0 fr0 fs0 dr0 ds0 lu0 bf0 bl0 ba0 sc0 fR0 fS0 g c y s u o pit bn ju jl g2 c2 y2 s2 u2 o2 p2 b2 a2 l2 wayq0 wbq0 knq0 totq0 kdq0 whq0 ovq0 unq0 eOq0 eUq0 dOq0 dUq0 sOq0 sUq0 stq0 req0 frq0 fsq0 drq0 dsq0 luq0 bfq0 blq0 baq0 scq0 fRq0 fSq0 nu sz = some (r, way1, wb1, kn1, tot1, kd1, wh1, ov1, un1, eO1, eU1, dO1, dU1, sO1, sU1, st1, re1, fr1, fs1, dr1, ds1, lu1, bf1, bl1, ba1, sc1, fR1, fS1, g3, c3, y3, s3, u3, o3, p3, b3, a3, l3, wayq1, wbq1, knq1, totq1, kdq1, whq1, ovq1, unq1, eOq1, eUq1, dOq1, dUq1, sOq1, sUq1, stq1, req1, frq1, fsq1, drq1, dsq1, luq1, bfq1, blq1, baq1, scq1, fRq1, fSq1, nu1, sz1) ∧ f_M_without F x1 now many mu ml row rm th mo0 uu0 sl0 mb0 ss0 sb0 of0 be0 bs0 ma0 lO0 lU0 mt0 mk0 mw0 mv0 mn0 ha0 nO0 nU0 me0 fe0 aO0 aU0 bO0 bU0 = some (r, now1, row1, rm1, (0 : Int32), mo1, uu1, sl1, mb1, ss1, sb1, of1, be1, bs1, ma1, lO1, lU1, mt1, mk1, mw1, mv1, mn1, ha1, nO1, nU1, me1, fe1, aO1, aU1, bO1, bU1) ∧
      KnG n nv A B kn1 tot1 kd1 wh1 ov1 un1 eO1 eU1 ∧ (∀ i, i < 5 → fe1 i = 0) ∧ MX n nv A B now1 many mu ml ∧ RowEq nu1 sz1 row1 rm1 := by
  obtain ⟨i, rfl, hi1, hi2⟩ := zI_all x1
  have J0 := J
  have X0 := X
  have hJt' := hJt
  obtain ⟨hn, hv, hA, hB⟩ := hJt'
  obtain ⟨J1, ho, rfl, rfl, rfl⟩ := J
  obtain ⟨h, rfl, rfl, rfl⟩ := X
  have fX := has_z (n := n) hn ⟨hi1, hi2⟩
  have fM := isBolt_z (n := n) hn ⟨hi1, hi2⟩
  by_cases q1 : 0 ≤ i ∧ i < n
  rotate_left
  · have hX : f_X_without F (zI i) way0 wb0 kn0 tot0 kd0 wh0 ov0 un0 eO0 eU0 dO0 dU0 sO0 sU0 st0 re0 fr0 fs0 dr0 ds0 lu0 bf0 bl0 ba0 sc0 fR0 fS0 g c y s u o pit (zI (n : Int)) (zI A) (zI B) g2 c2 y2 s2 u2 o2 p2 b2 a2 l2 wayq0 wbq0 knq0 totq0 kdq0 whq0 ovq0 unq0 eOq0 eUq0 dOq0 dUq0 sOq0 sUq0 stq0 req0 frq0 fsq0 drq0 dsq0 luq0 bfq0 blq0 baq0 scq0 fRq0 fSq0 nu sz = some ((-1 : Int32), way0, wb0, kn0, tot0, kd0, wh0, ov0, un0, eO0, eU0, dO0, dU0, sO0, sU0, st0, re0, fr0, fs0, dr0, ds0, lu0, bf0, bl0, ba0, sc0, fR0, fS0, g2, c2, y2, s2, u2, o2, p2, b2, a2, l2, wayq0, wbq0, knq0, totq0, kdq0, whq0, ovq0, unq0, eOq0, eUq0, dOq0, dUq0, sOq0, sUq0, stq0, req0, frq0, fsq0, drq0, dsq0, luq0, bfq0, blq0, baq0, scq0, fRq0, fSq0, nu, sz) := by
      unfold f_X_without
      rw [fX, Option.bind_some, if_pos (b01_ne0.mpr q1)]
    have hM : f_M_without F (zI i) now (zI (n : Int)) (zI A) (zI B) row rm th mo0 uu0 sl0 mb0 ss0 sb0 of0 be0 bs0 ma0 lO0 lU0 mt0 mk0 mw0 mv0 mn0 ha0 nO0 nU0 me0 fe0 aO0 aU0 bO0 bU0 = some ((-1 : Int32), now, row, rm, (0 : Int32), mo0, uu0, sl0, mb0, ss0, sb0, of0, be0, bs0, ma0, lO0, lU0, mt0, mk0, mw0, mv0, mn0, ha0, nO0, nU0, me0, fe0, aO0, aU0, bO0, bU0) := by
      unfold f_M_without
      rw [fM, Option.bind_some, if_pos (b01_ne0.mpr q1)]
    exact ⟨_, way0, wb0, kn0, tot0, kd0, wh0, ov0, un0, eO0, eU0, dO0, dU0, sO0, sU0, st0, re0, fr0, fs0, dr0, ds0, lu0, bf0, bl0, ba0, sc0, fR0, fS0, g2, c2, y2, s2, u2, o2, p2, b2, a2, l2, wayq0, wbq0, knq0, totq0, kdq0, whq0, ovq0, unq0, eOq0, eUq0, dOq0, dUq0, sOq0, sUq0, stq0, req0, frq0, fsq0, drq0, dsq0, luq0, bfq0, blq0, baq0, scq0, fRq0, fSq0, nu, sz, now, mo0, uu0, sl0, mb0, ss0, sb0, of0, be0, bs0, ma0, lO0, lU0, mt0, mk0, mw0, mv0, mn0, ha0, nO0, nU0, me0, fe0, aO0, aU0, bO0, bU0, row, rm, hX, hM, hK, hf, X0, hR⟩
  obtain ⟨a, ha⟩ : ∃ a : Nat, i = (a : Int) := ⟨i.toNat, by omega⟩
  subst ha
  have han : a < n := by omega
  have va := hv a han
  have o5 : f_M_of (zI (a : Int)) (5 : Int32) now = some (zI (nv a 5)) := of_z hn h (i := a) (q := 5) han (by omega)
  have l5 : ldA o 5 (zI (a : Int)) = some (zI (nv a 5)) := by rw [ldA_z (f := o) (j := a) (by omega) (by omega), ho a han]
  by_cases q2 : nv a 5 = 0
  rotate_left
  · have hX : f_X_without F (zI (a : Int)) way0 wb0 kn0 tot0 kd0 wh0 ov0 un0 eO0 eU0 dO0 dU0 sO0 sU0 st0 re0 fr0 fs0 dr0 ds0 lu0 bf0 bl0 ba0 sc0 fR0 fS0 g c y s u o pit (zI (n : Int)) (zI A) (zI B) g2 c2 y2 s2 u2 o2 p2 b2 a2 l2 wayq0 wbq0 knq0 totq0 kdq0 whq0 ovq0 unq0 eOq0 eUq0 dOq0 dUq0 sOq0 sUq0 stq0 req0 frq0 fsq0 drq0 dsq0 luq0 bfq0 blq0 baq0 scq0 fRq0 fSq0 nu sz = some ((-2 : Int32), way0, wb0, kn0, tot0, kd0, wh0, ov0, un0, eO0, eU0, dO0, dU0, sO0, sU0, st0, re0, fr0, fs0, dr0, ds0, lu0, bf0, bl0, ba0, sc0, fR0, fS0, g2, c2, y2, s2, u2, o2, p2, b2, a2, l2, wayq0, wbq0, knq0, totq0, kdq0, whq0, ovq0, unq0, eOq0, eUq0, dOq0, dUq0, sOq0, sUq0, stq0, req0, frq0, fsq0, drq0, dsq0, luq0, bfq0, blq0, baq0, scq0, fRq0, fSq0, nu, sz) := by
      unfold f_X_without
      rw [fX, Option.bind_some, if_neg (fun z => (b01_ne0.mp z) q1), l5, Option.bind_some, if_neg (show ¬ zI (nv a 5) = (0 : Int32) from fun z => q2 ((zI_eq (a := nv a 5) (b := 0) (by omega) (by omega) (by omega) (by omega)).mp z))]
    have hM : f_M_without F (zI (a : Int)) now (zI (n : Int)) (zI A) (zI B) row rm th mo0 uu0 sl0 mb0 ss0 sb0 of0 be0 bs0 ma0 lO0 lU0 mt0 mk0 mw0 mv0 mn0 ha0 nO0 nU0 me0 fe0 aO0 aU0 bO0 bU0 = some ((-2 : Int32), now, row, rm, (0 : Int32), mo0, uu0, sl0, mb0, ss0, sb0, of0, be0, bs0, ma0, lO0, lU0, mt0, mk0, mw0, mv0, mn0, ha0, nO0, nU0, me0, fe0, aO0, aU0, bO0, bU0) := by
      unfold f_M_without
      rw [fM, Option.bind_some, if_neg (fun z => (b01_ne0.mp z) q1), o5, Option.bind_some, if_pos (show zI (nv a 5) = (1 : Int32) by rw [show nv a 5 = 1 by omega]; rfl)]
    exact ⟨_, way0, wb0, kn0, tot0, kd0, wh0, ov0, un0, eO0, eU0, dO0, dU0, sO0, sU0, st0, re0, fr0, fs0, dr0, ds0, lu0, bf0, bl0, ba0, sc0, fR0, fS0, g2, c2, y2, s2, u2, o2, p2, b2, a2, l2, wayq0, wbq0, knq0, totq0, kdq0, whq0, ovq0, unq0, eOq0, eUq0, dOq0, dUq0, sOq0, sUq0, stq0, req0, frq0, fsq0, drq0, dsq0, luq0, bfq0, blq0, baq0, scq0, fRq0, fSq0, nu, sz, now, mo0, uu0, sl0, mb0, ss0, sb0, of0, be0, bs0, ma0, lO0, lU0, mt0, mk0, mw0, mv0, mn0, ha0, nO0, nU0, me0, fe0, aO0, aU0, bO0, bU0, row, rm, hX, hM, hK, hf, X0, hR⟩
  obtain ⟨way1, wb1, kn1, tot1, kd1, wh1, ov1, un1, eO1, eU1, dO1, dU1, sO1, sU1, st1, re1, fr1, fs1, dr1, ds1, lu1, bf1, bl1, ba1, sc1, fR1, fS1, mo2, uu2, sl2, mb2, ss2, sb2, of2, be2, bs2, ma2, lO2, lU2, mt2, mk2, mw2, mv2, mn2, ha2, nO2, nU2, me2, fe2, aO2, aU2, bO2, bU2, e, em, hK1, hEv, hEm, heO, heU, hlO, hlU, hrec, hf2⟩ := both_grow hJt hF J0 X0 way0 wb0 kn0 tot0 kd0 wh0 ov0 un0 eO0 eU0 dO0 dU0 sO0 sU0 st0 re0 fr0 fs0 dr0 ds0 lu0 bf0 bl0 ba0 sc0 fR0 fS0 hK mo0 uu0 sl0 mb0 ss0 sb0 of0 be0 bs0 ma0 lO0 lU0 mt0 mk0 mw0 mv0 mn0 ha0 nO0 nU0 me0 fe0 aO0 aU0 bO0 bU0 hf
  obtain ⟨g3, c3, y3, s3, u3, o3, p3, ec, J3, hall⟩ := copyAll_z (F := F) hJt (by omega) J0 g2 c2 y2 s2 u2 o2 p2 b2 a2 l2
  have e75 : (7 : Int32) * zI (a : Int) + (5 : Int32) = zI ((7 * a + 5 : Nat) : Int) := e7q a 5
  have keep : ∀ i q, ¬ (i = a ∧ q = 5) → nvSet nv a 5 1 i q = nv i q := fun i q z => if_neg z
  have new : nvSet nv a 5 1 a 5 = 1 := if_pos ⟨rfl, rfl⟩
  have hv' : NvOk n (nvSet nv a 5 1) := by
    intro i hi
    have w := hv i hi
    rw [keep i 0 (by omega), keep i 1 (by omega), keep i 2 (by omega), keep i 3 (by omega), keep i 4 (by omega), keep i 6 (by omega)]
    have h5 : 0 ≤ nvSet nv a 5 1 i 5 ∧ nvSet nv a 5 1 i 5 ≤ 1 := by
      by_cases z : i = a
      · rw [z, new]; omega
      · rw [keep i 5 (by omega)]; omega
    omega
  have hJt2 : Jt n (nvSet nv a 5 1) A B := ⟨hn, hv', hA, hB⟩
  have hJX2 : JX n (nvSet nv a 5 1) A B g3 c3 y3 s3 u3 (upd o3 a (1 : Int32)) p3 (zI (n : Int)) (zI A) (zI B) := by
    obtain ⟨⟨j1, j2, j3, j4, j5, j6⟩, j7, -, -, -⟩ := J3
    refine ⟨⟨fun i hi => ?_, fun i hi => ?_, fun i hi => ?_, fun i hi => ?_, fun i hi => ?_, fun i hi => ?_⟩, fun i hi => ?_, rfl, rfl, rfl⟩
    · rw [keep i 0 (by omega)]; exact j1 i hi
    · rw [keep i 1 (by omega)]; exact j2 i hi
    · rw [keep i 2 (by omega)]; exact j3 i hi
    · rw [keep i 3 (by omega)]; exact j4 i hi
    · rw [keep i 4 (by omega)]; exact j5 i hi
    · rw [keep i 6 (by omega)]; exact j6 i hi
    · rw [upd_at]
      by_cases z : i = a
      · rw [if_pos z, z, new]; rfl
      · rw [if_neg z, keep i 5 (by omega)]; exact j7 i hi
  have hMX2 : MX n (nvSet nv a 5 1) A B (upd now (7 * a + 5) (1 : Int32)) (zI (n : Int)) (zI A) (zI B) := by
    refine ⟨fun i hi q hq => ?_, rfl, rfl, rfl⟩
    rw [upd_at]
    by_cases z : i = a ∧ q = 5
    · rw [if_pos (by omega), z.1, z.2, new]; rfl
    · rw [if_neg (by omega), keep i q z]; exact h i hi q hq
  obtain ⟨wayq1, wbq1, knq1, totq1, kdq1, whq1, ovq1, unq1, eOq1, eUq1, dOq1, dUq1, sOq1, sUq1, stq1, req1, frq1, fsq1, drq1, dsq1, luq1, bfq1, blq1, baq1, scq1, fRq1, fSq1, mo1, uu1, sl1, mb1, ss1, sb1, of1, be1, bs1, ma1, lO1, lU1, mt1, mk1, mw1, mv1, mn1, ha1, nO1, nU1, me1, fe1, aO1, aU1, bO1, bU1, eg, emg, k1, k2, k3, k4, k5⟩ := both_guess hJt2 hF hJX2 hMX2 wayq0 wbq0 knq0 totq0 kdq0 whq0 ovq0 unq0 eOq0 eUq0 dOq0 dUq0 sOq0 sUq0 stq0 req0 frq0 fsq0 drq0 dsq0 luq0 bfq0 blq0 baq0 scq0 fRq0 fSq0 mo2 uu2 sl2 mb2 ss2 sb2 of2 be2 bs2 ma2 lO2 lU2 mt2 mk2 mw2 mv2 mn2 ha2 nO2 nU2 me2 fe2 aO2 aU2 bO2 bU2 hf2
  obtain ⟨b1, b2', b3'⟩ := pk_bd hJt
  obtain ⟨c1, c2', c3'⟩ := pk_bd hJt2
  have hmx : MX n nv A B (upd (upd now (7 * a + 5) (1 : Int32)) (7 * a + 5) (0 : Int32)) (zI (n : Int)) (zI A) (zI B) := by
    refine ⟨fun i hi q hq => ?_, rfl, rfl, rfl⟩
    rw [upd_at, upd_at]
    by_cases z : i = a ∧ q = 5
    · rw [if_pos (by omega), z.1, z.2, q2]; rfl
    · rw [if_neg (by omega), if_neg (by omega)]; exact h i hi q hq
  obtain ⟨nu1, sz1, row1, rm1, t1, t2, t3⟩ := tell_load (F := F) (by omega) c1 c2' nu row
  have hst : stZ o3 5 (zI (a : Int)) (1 : Int32) = some (upd o3 a (1 : Int32)) := stZ_z (f := o3) (j := a) (by omega) (by omega) rfl
  have hX : f_X_without F (zI (a : Int)) way0 wb0 kn0 tot0 kd0 wh0 ov0 un0 eO0 eU0 dO0 dU0 sO0 sU0 st0 re0 fr0 fs0 dr0 ds0 lu0 bf0 bl0 ba0 sc0 fR0 fS0 g c y s u o pit (zI (n : Int)) (zI A) (zI B) g2 c2 y2 s2 u2 o2 p2 b2 a2 l2 wayq0 wbq0 knq0 totq0 kdq0 whq0 ovq0 unq0 eOq0 eUq0 dOq0 dUq0 sOq0 sUq0 stq0 req0 frq0 fsq0 drq0 dsq0 luq0 bfq0 blq0 baq0 scq0 fRq0 fSq0 nu sz = some ((1 : Int32) + zI (cmpL (pkO n (nvSet nv a 5 1) A B) (pkU n (nvSet nv a 5 1) A B) (pkO n nv A B) (pkU n nv A B)), way1, wb1, kn1, tot1, kd1, wh1, ov1, un1, eO1, eU1, dO1, dU1, sO1, sU1, st1, re1, fr1, fs1, dr1, ds1, lu1, bf1, bl1, ba1, sc1, fR1, fS1, g3, c3, y3, s3, u3, upd o3 a (1 : Int32), p3, zI (n : Int), zI A, zI B, wayq1, wbq1, knq1, totq1, kdq1, whq1, ovq1, unq1, eOq1, eUq1, dOq1, dUq1, sOq1, sUq1, stq1, req1, frq1, fsq1, drq1, dsq1, luq1, bfq1, blq1, baq1, scq1, fRq1, fSq1, nu1, sz1) := by
    unfold f_X_without
    rw [fX, Option.bind_some, if_neg (fun z => (b01_ne0.mp z) q1), l5, Option.bind_some, if_pos (show zI (nv a 5) = (0 : Int32) by rw [q2]; rfl), e]
    simp only [bd27, Option.bind_some]
    rw [ec]
    simp only [bd10, Option.bind_some]
    rw [hst, Option.bind_some, eg]
    simp only [Option.bind_some]
    rw [k1, k2, t1]
    simp only [bd2, Option.bind_some]
    rw [heO, heU, cpk_z c1 c2' (by omega) b2', Option.bind_some]
  have hM : f_M_without F (zI (a : Int)) now (zI (n : Int)) (zI A) (zI B) row rm th mo0 uu0 sl0 mb0 ss0 sb0 of0 be0 bs0 ma0 lO0 lU0 mt0 mk0 mw0 mv0 mn0 ha0 nO0 nU0 me0 fe0 aO0 aU0 bO0 bU0 = some ((1 : Int32) + zI (cmpL (pkO n (nvSet nv a 5 1) A B) (pkU n (nvSet nv a 5 1) A B) (pkO n nv A B) (pkU n nv A B)), upd (upd now (7 * a + 5) (1 : Int32)) (7 * a + 5) (0 : Int32), row1, rm1, (0 : Int32), mo1, uu1, sl1, mb1, ss1, sb1, of1, be1, bs1, ma1, lO1, lU1, mt1, mk1, mw1, mv1, mn1, ha1, nO1, nU1, me1, fe1, aO1, aU1, bO1, bU1) := by
    unfold f_M_without
    rw [fM, Option.bind_some, if_neg (fun z => (b01_ne0.mp z) q1), o5, Option.bind_some, if_neg (show ¬ zI (nv a 5) = (1 : Int32) by rw [q2]; decide), em]
    simp only [bd26, Option.bind_some]
    rw [e75, stI_z (f := now) (j := 7 * a + 5) (by omega) (by omega), Option.bind_some, emg]
    simp only [Option.bind_some]
    rw [stI_z (f := upd now (7 * a + 5) (1 : Int32)) (j := 7 * a + 5) (by omega) (by omega), Option.bind_some, k3, k4, t2]
    simp only [bd2, Option.bind_some]
    rw [hlO, hlU, against_z c1 c2' (by omega) b2', Option.bind_some]
  exact ⟨_, way1, wb1, kn1, tot1, kd1, wh1, ov1, un1, eO1, eU1, dO1, dU1, sO1, sU1, st1, re1, fr1, fs1, dr1, ds1, lu1, bf1, bl1, ba1, sc1, fR1, fS1, g3, c3, y3, s3, u3, upd o3 a (1 : Int32), p3, zI (n : Int), zI A, zI B, wayq1, wbq1, knq1, totq1, kdq1, whq1, ovq1, unq1, eOq1, eUq1, dOq1, dUq1, sOq1, sUq1, stq1, req1, frq1, fsq1, drq1, dsq1, luq1, bfq1, blq1, baq1, scq1, fRq1, fSq1, nu1, sz1, _, mo1, uu1, sl1, mb1, ss1, sb1, of1, be1, bs1, ma1, lO1, lU1, mt1, mk1, mw1, mv1, mn1, ha1, nO1, nU1, me1, fe1, aO1, aU1, bO1, bU1, row1, rm1, hX, hM, hK1, k5, hmx, t3⟩
end OPS34
