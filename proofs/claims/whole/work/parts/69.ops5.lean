/-! THE CALLS AT A LOAD: margin, work -/
section OPS5
variable {n : Nat} {nv : Nat → Nat → Int} {A B : Int} {F : Nat} {g c y s u pit o now : Nat → Int32}
/-- the first event above a load -/
theorem ev_later (hn : n ≤ 5) (hv : NvOk n nv) (hA : 0 ≤ A ∧ A ≤ 2) (hB : 0 ≤ B ∧ B ≤ 2) {p : Int} (hp : 0 ≤ p) (h : p * pkU n nv A B < pkO n nv A B) : ∃ (j : Nat) (e : Int × Nat × Int × Int), (evL n nv A B)[j]? = some e ∧ p * e.2.2.2 < e.2.2.1 ∧ ∀ i, i < j → ∀ e', (evL n nv A B)[i]? = some e' → e'.2.2.1 ≤ p * e'.2.2.2 := by
  have hex : ∃ j : Nat, ∃ e : Int × Nat × Int × Int, (evL n nv A B)[j]? = some e ∧ p * e.2.2.2 < e.2.2.1 := by
    obtain ⟨k, hk⟩ := stop_ex hn hv hA hB p
    obtain ⟨-, h2, -⟩ := stop_left hn hv hA hB hp hk
    have hz := h2.mpr h
    have hst := hk.2.resolve_left hz
    have hk15 : k < 15 := Nat.lt_of_not_le fun w => hz (by
      have e := gs_stay (gs_end hn hv hA hB) (k - 15)
      rw [show 15 + (k - 15) = k by omega] at e
      rw [e]; exact gs_end hn hv hA hB)
    obtain ⟨q0, h1, L', h2', h3⟩ := gs_from hn hv hA hB hz (14 - k)
    rw [show k + 1 + (14 - k) = 15 by omega] at h1 h2'
    -- something is added
    obtain ⟨hG, -⟩ := (gs_ok hn hv hA hB k).2 hz
    have hlen : ∀ j, (gs n nv A B k).2.2.2.2.length < (gs n nv A B (k + 1 + j)).2.2.2.2.length := fun j => by
      induction j with
      | zero => exact (gst_ok hn hv hA hB hG hz).2.2.2.2.2.2
      | succ j ih =>
        show _ < (gst n nv A B (gs n nv A B (k + 1 + j))).2.2.2.2.length
        by_cases w : (gs n nv A B (k + 1 + j)).1 = 0
        · have e : gst n nv A B (gs n nv A B (k + 1 + j)) = gs n nv A B (k + 1 + j) := if_pos w
          rw [e]; exact ih
        · have := (gst_ok hn hv hA hB ((gs_ok hn hv hA hB (k + 1 + j)).2 w).1 w).2.2.2.2.2.2
          omega
    have hl := hlen (14 - k)
    rw [show k + 1 + (14 - k) = 15 by omega] at hl
    cases L' with
    | nil => rw [h2', List.append_nil] at hl; omega
    | cons e L' =>
      refine ⟨(gs n nv A B k).2.2.2.2.length, e, ?_, ?_⟩
      · show (gs n nv A B 15).2.2.2.2[_]? = _
        rw [h2', List.getElem?_append_right (Nat.le_refl _), Nat.sub_self]; rfl
      · have hq := ((gs_ok hn hv hA hB 15).1.2.2.2.2.2.1 e (by rw [h2']; exact List.mem_append_right _ (List.mem_cons_self ..))).2.2.1.2.2.1
        exact le_trans_fr q0 hq hst (h3 e (List.mem_cons_self ..))
  obtain ⟨j, ⟨e, e1, e2⟩, hmin⟩ := pk_least (fun j : Nat => ∃ e : Int × Nat × Int × Int, (evL n nv A B)[j]? = some e ∧ p * e.2.2.2 < e.2.2.1) hex
  refine ⟨j, e, e1, e2, fun i hi e' he' => ?_⟩
  refine Int.not_lt.mp fun w => hmin i hi ⟨e', he', w⟩
theorem evL_ok (hn : n ≤ 5) (hv : NvOk n nv) (hA : 0 ≤ A ∧ A ≤ 2) (hB : 0 ≤ B ∧ B ≤ 2) {i : Nat} {e : Int × Nat × Int × Int} (h : (evL n nv A B)[i]? = some e) : i < (evL n nv A B).length ∧ (evL n nv A B).length ≤ 15 ∧ EvOk n (pkO n nv A B) (pkU n nv A B) e := by
  have hE := (gs_ok (n := n) (nv := nv) (A := A) (B := B) hn hv hA hB 15).1
  have hi : i < (evL n nv A B).length := Nat.lt_of_not_le fun w => by rw [List.getElem?_eq_none w] at h; cases h
  exact ⟨hi, hE.2.2.2.2.1, hE.2.2.2.2.2.1 e (List.mem_of_getElem? h)⟩
theorem marg_z (hn : n ≤ 5) (hF : 40 < F) (hv : NvOk n nv) (hA : 0 ≤ A ∧ A ≤ 2) (hB : 0 ≤ B ∧ B ≤ 2) {p : Int} (hp : 0 ≤ p ∧ p ≤ 300) {tot : Int32} {kd wh : Nat → Int32} {ov un : Nat → Int64} (hE : EvZ (evL n nv A B) tot kd wh ov un) {j : Nat} {e : Int × Nat × Int × Int} (he : (evL n nv A B)[j]? = some e) (h1 : p * e.2.2.2 < e.2.2.1) (h2 : ∀ i, i < j → ∀ e', (evL n nv A B)[i]? = some e' → e'.2.2.1 ≤ p * e'.2.2.2) : iter (fb_X_margin_27 (zI p) tot ov un) F (0 : Int32) = some (zI (j : Int)) := by
  obtain ⟨hj, hl, hok⟩ := evL_ok hn hv hA hB he
  have loop := iter_up (body := fb_X_margin_27 (zI p) tot ov un) (fun k z => z = zI (k : Int)) (fun q => q = zI (j : Int)) j ?_ ?_ j 0 F (0 : Int32) (by omega) (by omega) rfl
  · obtain ⟨q, e, rfl⟩ := loop
    exact e
  · rintro k z hk rfl
    left
    obtain ⟨e', he'⟩ := getElem_of_lt (L := evL n nv A B) (show k < (evL n nv A B).length by omega)
    obtain ⟨-, -, ⟨-, -, ⟨l1, l2, l3, l4, -⟩, -⟩⟩ := evL_ok hn hv hA hB he'
    obtain ⟨z1, z2, z3, z4⟩ := hE.2 k e' he'
    have hle := h2 k hk e' he'
    have mb := mul_bd hp.1 (show 0 ≤ e'.2.2.2 by omega) hp.2 l4
    unfold fb_X_margin_27
    rw [hE.1, i1, zI_sub, if_neg (by rw [zI_le (by omega) (by omega) (by omega) (by omega)]; omega), ldA_z (by omega) (by omega), Option.bind_some, ldA_z (by omega) (by omega), Option.bind_some, z3, z4, zI_l (by omega) (by omega), zL_mul, if_neg (by rw [zL_lt (by omega) (by omega) (by omega) (by omega)]; omega)]
    simp only [nm]
    rw [← i1, zI_1]
    exact ⟨_, rfl, rfl⟩
  · rintro z rfl
    obtain ⟨-, -, ⟨-, -, ⟨l1, l2, l3, l4, -⟩, -⟩⟩ := evL_ok hn hv hA hB he
    obtain ⟨z1, z2, z3, z4⟩ := hE.2 j e he
    have mb := mul_bd hp.1 (show 0 ≤ e.2.2.2 by omega) hp.2 l4
    unfold fb_X_margin_27
    by_cases w : ((evL n nv A B).length : Int) - 1 ≤ (j : Int)
    · rw [hE.1, i1, zI_sub, if_pos (by rw [zI_le (by omega) (by omega) (by omega) (by omega)]; exact w)]
      exact ⟨_, rfl, rfl⟩
    · rw [hE.1, i1, zI_sub, if_neg (by rw [zI_le (by omega) (by omega) (by omega) (by omega)]; exact w), ldA_z (by omega) (by omega), Option.bind_some, ldA_z (by omega) (by omega), Option.bind_some, z3, z4, zI_l (by omega) (by omega), zL_mul, if_pos (by rw [zL_lt (by omega) (by omega) (by omega) (by omega)]; exact h1)]
      exact ⟨_, rfl, rfl⟩
theorem mmarg_z (hn : n ≤ 5) (hF : 40 < F) (hv : NvOk n nv) (hA : 0 ≤ A ∧ A ≤ 2) (hB : 0 ≤ B ∧ B ≤ 2) {p : Int} (hp : 0 ≤ p ∧ p ≤ 300) {tot : Int32} {kd wh : Nat → Int32} {ov un : Nat → Int64} (hE : EvZ (evL n nv A B) tot kd wh ov un) {j : Nat} {e : Int × Nat × Int × Int} (he : (evL n nv A B)[j]? = some e) (h1 : p * e.2.2.2 < e.2.2.1) (h2 : ∀ i, i < j → ∀ e', (evL n nv A B)[i]? = some e' → e'.2.2.1 ≤ p * e'.2.2.2) : iter (fb_M_margin_38 (zI p) ov un) F (0 : Int32) = some (zI (j : Int)) := by
  obtain ⟨hj, hl, hok⟩ := evL_ok hn hv hA hB he
  have loop := iter_up (body := fb_M_margin_38 (zI p) ov un) (fun k z => z = zI (k : Int)) (fun q => q = zI (j : Int)) j ?_ ?_ j 0 F (0 : Int32) (by omega) (by omega) rfl
  · obtain ⟨q, e, rfl⟩ := loop
    exact e
  · rintro k z hk rfl
    left
    obtain ⟨e', he'⟩ := getElem_of_lt (L := evL n nv A B) (show k < (evL n nv A B).length by omega)
    obtain ⟨-, -, ⟨-, -, ⟨l1, l2, l3, l4, -⟩, -⟩⟩ := evL_ok hn hv hA hB he'
    obtain ⟨z1, z2, z3, z4⟩ := hE.2 k e' he'
    have hle := h2 k hk e' he'
    have mb := mul_bd hp.1 (show 0 ≤ e'.2.2.2 by omega) hp.2 l4
    unfold fb_M_margin_38
    rw [ldA_z (by omega) (by omega), Option.bind_some, ldA_z (by omega) (by omega), Option.bind_some, z3, z4, zI_l (by omega) (by omega), zL_mul, if_neg (by rw [zL_lt (by omega) (by omega) (by omega) (by omega)]; omega)]
    simp only [nm, zI_1]
    exact ⟨_, rfl, rfl⟩
  · rintro z rfl
    obtain ⟨-, -, ⟨-, -, ⟨l1, l2, l3, l4, -⟩, -⟩⟩ := evL_ok hn hv hA hB he
    obtain ⟨z1, z2, z3, z4⟩ := hE.2 j e he
    have mb := mul_bd hp.1 (show 0 ≤ e.2.2.2 by omega) hp.2 l4
    unfold fb_M_margin_38
    rw [ldA_z (by omega) (by omega), Option.bind_some, ldA_z (by omega) (by omega), Option.bind_some, z3, z4, zI_l (by omega) (by omega), zL_mul, if_pos (by rw [zL_lt (by omega) (by omega) (by omega) (by omega)]; exact h1)]
    exact ⟨_, rfl, rfl⟩
theorem op_margin (hJt : Jt n nv A B) (hF : 300 < F) {bn ju jl many mu ml : Int32} (J : JX n nv A B g c y s u o pit bn ju jl) (X : MX n nv A B now many mu ml) (x1 : Int32) (way0 wb0 : Nat → Int32) (kn0 tot0 : Int32) (kd0 wh0 : Nat → Int32) (ov0 un0 : Nat → Int64) (eO0 eU0 : Int64) (dO0 dU0 : Nat → Int64) (sO0 sU0 : Int64) (st0 : Nat → Int32) (re0 fr0 fs0 dr0 ds0 : Nat → Int64) (lu0 : Int64) (bf0 bl0 ba0 sc0 : Nat → Int64) (fR0 fS0 : Int64) (hK : KnG n nv A B kn0 tot0 kd0 wh0 ov0 un0 eO0 eU0) (mo0 : Nat → Int32) (uu0 : Int64) (sl0 mb0 ss0 sb0 of0 : Nat → Int64) (be0 : Nat → Int32) (bs0 : Int32) (ma0 : Nat → Int64) (lO0 lU0 : Int64) (mt0 : Int32) (mk0 mw0 : Nat → Int32) (mv0 mn0 : Nat → Int64) (ha0 : Nat → Int32) (nO0 nU0 : Int64) (me0 fe0 : Nat → Int32) (aO0 aU0 bO0 bU0 : Nat → Int64) (hf : ∀ i, i < 5 → fe0 i = 0) (nu : Nat → Int64) (sz : Int32) (row : Nat → Int64) (rm th : Int32) (hR : RowEq nu sz row rm) :
    ∃ (r : Int32) (way1 wb1 : Nat → Int32) (kn1 tot1 : Int32) (kd1 wh1 : Nat → Int32) (ov1 un1 : Nat → Int64) (eO1 eU1 : Int64) (dO1 dU1 : Nat → Int64) (sO1 sU1 : Int64) (st1 : Nat → Int32) (re1 fr1 fs1 dr1 ds1 : Nat → Int64) (lu1 : Int64) (bf1 bl1 ba1 sc1 : Nat → Int64) (fR1 fS1 : Int64) (nu1 : Nat → Int64) (sz1 : Int32) (mo1 : Nat → Int32) (uu1 : Int64) (sl1 mb1 ss1 sb1 of1 : Nat → Int64) (be1 : Nat → Int32) (bs1 : Int32) (ma1 : Nat → Int64) (lO1 lU1 : Int64) (mt1 : Int32) (mk1 mw1 : Nat → Int32) (mv1 mn1 : Nat → Int64) (ha1 : Nat → Int32) (nO1 nU1 : Int64) (me1 fe1 : Nat → Int32) (aO1 aU1 bO1 bU1 : Nat → Int64) (row1 : Nat → Int64) (rm1 : Int32), f_X_margin F x1 way0 wb0 kn0 tot0 kd0 wh0 ov0 un0 eO0 eU0 dO0 dU0 sO0 sU0 st0 re0 fr0 fs0 dr0 ds0 lu0 bf0 bl0 ba0 sc0 fR0 fS0 g c y s u o pit bn ju jl nu sz = some (r, way1, wb1, kn1, tot1, kd1, wh1, ov1, un1, eO1, eU1, dO1, dU1, sO1, sU1, st1, re1, fr1, fs1, dr1, ds1, lu1, bf1, bl1, ba1, sc1, fR1, fS1, nu1, sz1) ∧ f_M_margin F x1 now many mu ml row rm th mo0 uu0 sl0 mb0 ss0 sb0 of0 be0 bs0 ma0 lO0 lU0 mt0 mk0 mw0 mv0 mn0 ha0 nO0 nU0 me0 fe0 aO0 aU0 bO0 bU0 = some (r, row1, rm1, (0 : Int32), mo1, uu1, sl1, mb1, ss1, sb1, of1, be1, bs1, ma1, lO1, lU1, mt1, mk1, mw1, mv1, mn1, ha1, nO1, nU1, me1, fe1, aO1, aU1, bO1, bU1) ∧
      KnG n nv A B kn1 tot1 kd1 wh1 ov1 un1 eO1 eU1 ∧ (∀ i, i < 5 → fe1 i = 0) ∧ RowEq nu1 sz1 row1 rm1 := by
  obtain ⟨p, rfl, hp1, hp2⟩ := zI_all x1
  have hJt' := hJt
  obtain ⟨hn, hv, hA, hB⟩ := hJt'
  obtain ⟨J1, ho, rfl, rfl, rfl⟩ := J
  obtain ⟨h, rfl, rfl, rfl⟩ := X
  obtain ⟨r, way1, wb1, kn1, tot1, kd1, wh1, ov1, un1, eO1, eU1, dO1, dU1, sO1, sU1, st1, re1, fr1, fs1, dr1, ds1, lu1, bf1, bl1, ba1, sc1, fR1, fS1, e, hK1, hc⟩ := both_come hJt hF ⟨J1, ho, rfl, rfl, rfl⟩ ⟨h, rfl, rfl, rfl⟩ (p := p) ⟨hp1, hp2⟩ (0 < n) way0 wb0 kn0 tot0 kd0 wh0 ov0 un0 eO0 eU0 dO0 dU0 sO0 sU0 st0 re0 fr0 fs0 dr0 ds0 lu0 bf0 bl0 ba0 sc0 fR0 fS0 hK mo0 uu0 sl0 mb0 ss0 sb0 of0 be0 bs0 ma0 lO0 lU0 mt0 mk0 mw0 mv0 mn0 ha0 nO0 nU0 me0 fe0 aO0 aU0 bO0 bU0 hf
  unfold f_X_margin f_M_margin
  rw [if_bolts hn (fun q => fj_X_margin_17 F (zI p) (zI p) q way0 wb0 kn0 tot0 kd0 wh0 ov0 un0 eO0 eU0 dO0 dU0 sO0 sU0 st0 re0 fr0 fs0 dr0 ds0 lu0 bf0 bl0 ba0 sc0 fR0 fS0 g c y s u o pit (zI (n : Int)) (zI A) (zI B) nu sz)]
  unfold fj_X_margin_17
  rw [e]
  simp only [bd28, Option.bind_some]
  rcases hc with ⟨hr, hno⟩ | ⟨hyes, hkn, hEv, heO, heU, r', mo1, uu1, sl1, mb1, ss1, sb1, of1, be1, bs1, ma1, lO1, lU1, mt1, mk1, mw1, mv1, mn1, ha1, nO1, nU1, me1, fe1, aO1, aU1, bO1, bU1, em, hf1, hc⟩
  · rw [hr, if_neg (by decide)]
    refine ⟨_, way1, wb1, kn1, tot1, kd1, wh1, ov1, un1, eO1, eU1, dO1, dU1, sO1, sU1, st1, re1, fr1, fs1, dr1, ds1, lu1, bf1, bl1, ba1, sc1, fR1, fS1, nu, sz, mo0, uu0, sl0, mb0, ss0, sb0, of0, be0, bs0, ma0, lO0, lU0, mt0, mk0, mw0, mv0, mn0, ha0, nO0, nU0, me0, fe0, aO0, aU0, bO0, bU0, row, rm, rfl, ?_, hK1, hf, hR⟩
    by_cases w : 0 < n
    · rw [if_neg (fun z => (if_many hn).mp z w), misLoad_z ⟨hp1, hp2⟩, Option.bind_some, if_pos (b01_ne0.mpr (fun z => hno ⟨z.1, z.2, w⟩))]; rfl
    · rw [if_pos ((if_many hn).mpr w)]; rfl
  · rw [if_neg (fun z => (if_many hn).mp z hyes.2.2), misLoad_z ⟨hp1, hp2⟩, Option.bind_some, if_neg (fun z => (b01_ne0.mp z) ⟨hyes.1, hyes.2.1⟩), em]
    simp only [bd27, Option.bind_some]
    rcases hc with ⟨hr, hr', hpk, hla, hall⟩ | ⟨hr, hr', hpk, hlO, hlU, D, f, d, D', f', d', md', FA, FM, hsc, hsat, hsat', hmds, hmo, hcl, hml⟩
    · rw [hr, hr', if_neg (by decide), if_pos rfl]
      exact ⟨_, way1, wb1, kn1, tot1, kd1, wh1, ov1, un1, eO1, eU1, dO1, dU1, sO1, sU1, st1, re1, fr1, fs1, dr1, ds1, lu1, bf1, bl1, ba1, sc1, fR1, fS1, nu, sz, mo1, uu1, sl1, mb1, ss1, sb1, of1, be1, bs1, ma1, lO1, lU1, mt1, mk1, mw1, mv1, mn1, ha1, nO1, nU1, me1, fe1, aO1, aU1, bO1, bU1, row, rm, rfl, rfl, hK1, hf1, hR⟩
    · obtain ⟨j, ev, he, hlt, hmin⟩ := ev_later hn hv hA hB hyes.1 hpk
      obtain ⟨hj, hl15, ⟨hkind, hwho, ⟨l1, l2, l3, l4, l5⟩, -, -⟩⟩ := evL_ok hn hv hA hB he
      have hmc := marg_z (F := F) hn (by omega) hv hA hB ⟨hyes.1, hyes.2.1⟩ hEv he hlt hmin
      obtain ⟨mo2, uu2, sl2, mb2, ss2, sb2, of2, be2, bs2, ma2, mt2, mk2, mw2, mv2, mn2, ha2, nO2, nU2, me2, fe2, aO2, aU2, bO2, bU2, eg, hM2, hf2⟩ := grow_z (F := F) hn hF hv hA hB h mo1 uu1 sl1 mb1 ss1 sb1 of1 be1 bs1 ma1 lO1 lU1 mt1 mk1 mw1 mv1 mn1 ha1 nO1 nU1 me1 fe1 aO1 aU1 bO1 bU1 hf1
      have hmm := mmarg_z (F := F) hn (by omega) hv hA hB ⟨hyes.1, hyes.2.1⟩ hM2.1 he hlt hmin
      obtain ⟨z1, z2, z3, z4⟩ := hEv.2 j ev he
      obtain ⟨y1, y2, y3, y4⟩ := hM2.1.2 j ev he
      have mb := mul_bd hyes.1 (show 0 ≤ ev.2.2.2 by omega) hyes.2.1 l4
      obtain ⟨nu1, sz1, e1, R1⟩ := fraction_z (F := F) (by omega) (RowC.nil nu) (by show 0 + 2 ≤ 8; omega) (o := ev.2.2.1 - p * ev.2.2.2) (u := ev.2.2.2) (by omega) (by omega) l3 (by omega)
      obtain ⟨nu2, sz2, e2, R2⟩ := whole_z R1 (by show 2 < 8; omega) ev.1
      obtain ⟨nu3, sz3, e3, R3⟩ := whole_z R2 (by show 3 < 8; omega) (ev.2.1 : Int)
      obtain ⟨row1, rm1, e4, R4⟩ := tellFraction_z (F := F) (by omega) (RowC.nil row) (by show 0 + 2 ≤ 64; omega) (o := ev.2.2.1 - p * ev.2.2.2) (u := ev.2.2.2) (by omega) (by omega) l3 (by omega)
      obtain ⟨row2, rm2, e5, R5⟩ := tell_z R4 (by show 2 < 64; omega) ev.1
      obtain ⟨row3, rm3, e6, R6⟩ := tell_z R5 (by show 3 < 64; omega) (ev.2.1 : Int)
      rw [hr, hr', if_pos (show zI 0 = 0 from rfl), if_neg (show ¬ (1 : Int32) = 0 by decide), hmc, Option.bind_some, eg]
      simp only [bd26, Option.bind_some]
      rw [hmm, Option.bind_some]
      unfold fj_X_margin_71
      have LA := fun (f : Nat → Int64) => ldA_z (f := f) (j := j) (n := 15) (by omega) (by omega)
      have LB := fun (f : Nat → Int64) => ldA_z (f := f) (j := j) (n := 32) (by omega) (by omega)
      have LI := fun (f : Nat → Int32) => ldA_z (f := f) (j := j) (n := 15) (by omega) (by omega)
      have LJ := fun (f : Nat → Int32) => ldA_z (f := f) (j := j) (n := 32) (by omega) (by omega)
      simp only [LA, LB, LI, LJ, Option.bind_some, z1, z2, z3, z4, y1, y2, y3, y4]
      rw [zI_l (a := p) (by omega) (by omega), zL_mul, zL_sub, e1, e4]
      simp only [bd2, Option.bind_some]
      rw [zI_l (a := ev.1) (by omega) (by omega), zI_l (a := (ev.2.1 : Int)) (by omega) (by omega), e2, e5]
      simp only [Option.bind_some]
      rw [e3, e6]
      simp only [Option.bind_some]
      exact ⟨_, way1, wb1, kn1, tot1, kd1, wh1, ov1, un1, eO1, eU1, dO1, dU1, sO1, sU1, st1, re1, fr1, fs1, dr1, ds1, lu1, bf1, bl1, ba1, sc1, fR1, fS1, nu3, sz3, mo2, uu2, sl2, mb2, ss2, sb2, of2, be2, bs2, ma2, _, _, mt2, mk2, mw2, mv2, mn2, ha2, nO2, nU2, me2, fe2, aO2, aU2, bO2, bU2, row3, rm3, rfl, rfl, hK1, hf2, _, by show 4 ≤ 8; omega, R3, R6⟩
end OPS5
