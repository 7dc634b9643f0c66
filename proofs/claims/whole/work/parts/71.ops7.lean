/-! THE CALLS AS LOAD GROWS -/
section OPS7
variable {n : Nat} {nv : Nat → Nat → Int} {A B : Int} {F : Nat} {g c y s u pit o now : Nat → Int32}
theorem both_grow (hJt : Jt n nv A B) (hF : 300 < F) {bn ju jl many mu ml : Int32} (J : JX n nv A B g c y s u o pit bn ju jl) (X : MX n nv A B now many mu ml) (way0 wb0 : Nat → Int32) (kn0 tot0 : Int32) (kd0 wh0 : Nat → Int32) (ov0 un0 : Nat → Int64) (eO0 eU0 : Int64) (dO0 dU0 : Nat → Int64) (sO0 sU0 : Int64) (st0 : Nat → Int32) (re0 fr0 fs0 dr0 ds0 : Nat → Int64) (lu0 : Int64) (bf0 bl0 ba0 sc0 : Nat → Int64) (fR0 fS0 : Int64) (hK : KnG n nv A B kn0 tot0 kd0 wh0 ov0 un0 eO0 eU0) (mo0 : Nat → Int32) (uu0 : Int64) (sl0 mb0 ss0 sb0 of0 : Nat → Int64) (be0 : Nat → Int32) (bs0 : Int32) (ma0 : Nat → Int64) (lO0 lU0 : Int64) (mt0 : Int32) (mk0 mw0 : Nat → Int32) (mv0 mn0 : Nat → Int64) (ha0 : Nat → Int32) (nO0 nU0 : Int64) (me0 fe0 : Nat → Int32) (aO0 aU0 bO0 bU0 : Nat → Int64) (hf : ∀ i, i < 5 → fe0 i = 0) :
    ∃ (way1 wb1 : Nat → Int32) (kn1 tot1 : Int32) (kd1 wh1 : Nat → Int32) (ov1 un1 : Nat → Int64) (eO1 eU1 : Int64) (dO1 dU1 : Nat → Int64) (sO1 sU1 : Int64) (st1 : Nat → Int32) (re1 fr1 fs1 dr1 ds1 : Nat → Int64) (lu1 : Int64) (bf1 bl1 ba1 sc1 : Nat → Int64) (fR1 fS1 : Int64) (mo1 : Nat → Int32) (uu1 : Int64) (sl1 mb1 ss1 sb1 of1 : Nat → Int64) (be1 : Nat → Int32) (bs1 : Int32) (ma1 : Nat → Int64) (lO1 lU1 : Int64) (mt1 : Int32) (mk1 mw1 : Nat → Int32) (mv1 mn1 : Nat → Int64) (ha1 : Nat → Int32) (nO1 nU1 : Int64) (me1 fe1 : Nat → Int32) (aO1 aU1 bO1 bU1 : Nat → Int64), f_G_run F way0 wb0 kn0 tot0 kd0 wh0 ov0 un0 eO0 eU0 dO0 dU0 sO0 sU0 st0 re0 fr0 fs0 dr0 ds0 lu0 bf0 bl0 ba0 sc0 fR0 fS0 g c y s u o pit bn ju jl = some (way1, wb1, kn1, tot1, kd1, wh1, ov1, un1, eO1, eU1, dO1, dU1, sO1, sU1, st1, re1, fr1, fs1, dr1, ds1, lu1, bf1, bl1, ba1, sc1, fR1, fS1) ∧ f_M_grow F now many mu ml mo0 uu0 sl0 mb0 ss0 sb0 of0 be0 bs0 ma0 lO0 lU0 mt0 mk0 mw0 mv0 mn0 ha0 nO0 nU0 me0 fe0 aO0 aU0 bO0 bU0 = some (mo1, uu1, sl1, mb1, ss1, sb1, of1, be1, bs1, ma1, lO1, lU1, mt1, mk1, mw1, mv1, mn1, ha1, nO1, nU1, me1, fe1, aO1, aU1, bO1, bU1) ∧ KnG n nv A B kn1 tot1 kd1 wh1 ov1 un1 eO1 eU1 ∧ EvZ (evL n nv A B) tot1 kd1 wh1 ov1 un1 ∧ EvZ (evL n nv A B) mt1 mk1 mw1 mv1 mn1 ∧ eO1 = zL (pkO n nv A B) ∧ eU1 = zL (pkU n nv A B) ∧ lO1 = zL (pkO n nv A B) ∧ lU1 = zL (pkU n nv A B) ∧ RecOk n nv A B (evL n nv A B) aO1 aU1 bO1 bU1 ∧ ∀ i, i < 5 → fe1 i = 0 := by
  obtain ⟨hn, hv, hA, hB⟩ := hJt
  obtain ⟨J1, ho, rfl, rfl, rfl⟩ := J
  obtain ⟨h, rfl, rfl, rfl⟩ := X
  obtain ⟨way1, wb1, kn1, tot1, kd1, wh1, ov1, un1, eO1, eU1, dO1, dU1, sO1, sU1, st1, re1, fr1, fs1, dr1, ds1, lu1, bf1, bl1, ba1, sc1, fR1, fS1, e, hkn, hE, h1, h2⟩ := runk_z (F := F) hn hF hv hA hB J1 ho way0 wb0 kn0 tot0 kd0 wh0 ov0 un0 eO0 eU0 dO0 dU0 sO0 sU0 st0 re0 fr0 fs0 dr0 ds0 lu0 bf0 bl0 ba0 sc0 fR0 fS0 hK
  obtain ⟨mo1, uu1, sl1, mb1, ss1, sb1, of1, be1, bs1, ma1, mt1, mk1, mw1, mv1, mn1, ha1, nO1, nU1, me1, fe1, aO1, aU1, bO1, bU1, em, hM, hf1⟩ := grow_z (F := F) hn hF hv hA hB h mo0 uu0 sl0 mb0 ss0 sb0 of0 be0 bs0 ma0 lO0 lU0 mt0 mk0 mw0 mv0 mn0 ha0 nO0 nU0 me0 fe0 aO0 aU0 bO0 bU0 hf
  exact ⟨way1, wb1, kn1, tot1, kd1, wh1, ov1, un1, eO1, eU1, dO1, dU1, sO1, sU1, st1, re1, fr1, fs1, dr1, ds1, lu1, bf1, bl1, ba1, sc1, fR1, fS1, mo1, uu1, sl1, mb1, ss1, sb1, of1, be1, bs1, ma1, _, _, mt1, mk1, mw1, mv1, mn1, ha1, nO1, nU1, me1, fe1, aO1, aU1, bO1, bU1, e, em, Or.inr ⟨hkn, hE, h1, h2⟩, hE, hM.1, h1, h2, rfl, rfl, hM.2.1, hf1⟩
/-! lists of events by their places -/
abbrev Ev4 : Type := Int × Nat × Int × Int
def evk (L : List Ev4) (i : Nat) : Int := (L.getD i (0, 0, 0, 0)).1
def evb (L : List Ev4) (i : Nat) : Nat := (L.getD i (0, 0, 0, 0)).2.1
theorem evk_at {L : List Ev4} {i : Nat} {e : Ev4} (h : L[i]? = some e) : evk L i = e.1 ∧ evb L i = e.2.1 := by
  unfold evk evb
  rw [List.getD_eq_getElem?_getD, h]
  exact ⟨rfl, rfl⟩
theorem countOf_z (hF : 40 < F) {L : List Ev4} (hL : L.length ≤ 15) (hk : ∀ e ∈ L, 0 ≤ e.1 ∧ e.1 ≤ 2) {tot : Int32} {kd wh : Nat → Int32} {ov un : Nat → Int64} (hE : EvZ L tot kd wh ov un) {a : Int} (ha : 0 ≤ a ∧ a ≤ 3) : f_G_countOf F (zI a) tot kd = some (zI ((sel (fun i => decide (evk L i = a)) L.length).length : Int)) := by
  have loop := iter_for (body := un2 (fb_G_countOf_4 (zI a) tot kd)) (F := F) (s := ((0 : Int32), (0 : Int32))) (fun k z => z = (zI ((sel (fun i => decide (evk L i = a)) k).length : Int), zI (k : Int))) (fun q => q = zI ((sel (fun i => decide (evk L i = a)) L.length).length : Int)) L.length (by omega) rfl ?_ ?_
  · obtain ⟨q, e, rfl⟩ := loop
    unfold f_G_countOf
    rw [e, Option.bind_some]
  · rintro k z hk' rfl
    obtain ⟨e, he⟩ := getElem_of_lt hk'
    have b := hk e (List.mem_of_getElem? he)
    have ek := (evk_at he).1
    dsimp only [un2]
    unfold fb_G_countOf_4
    rw [hE.1, if_neg (by rw [zI_le (by omega) (by omega) (by omega) (by omega)]; omega), ldA_z (by omega) (by omega), Option.bind_some, (hE.2 k e he).1]
    by_cases w : e.1 = a
    · rw [if_pos (by rw [w])]
      simp only [fj_G_countOf_28, nm, zI_1]
      refine ⟨_, rfl, ?_⟩
      rw [sel_s]; unfold c1
      rw [if_pos (by simp [ek, w])]
    · rw [if_neg (by rw [zI_eq (by omega) (by omega) (by omega) (by omega)]; exact w)]
      have ez : ∀ x : Int, zI x + (0 : Int32) = zI x := fun x => by rw [i0, zI_add, Int.add_zero]
      simp only [fj_G_countOf_28, nm, zI_1, ez]
      refine ⟨_, rfl, ?_⟩
      rw [sel_s]; unfold c1
      rw [if_neg (by simp [ek, w])]
      rfl
  · rintro z rfl
    dsimp only [un2]
    unfold fb_G_countOf_4
    rw [hE.1, if_pos (Int32.le_refl _)]
    exact ⟨_, rfl, rfl⟩
theorem kindMany_z (hF : 40 < F) {L : List Ev4} (hL : L.length ≤ 15) (hk : ∀ e ∈ L, 0 ≤ e.1 ∧ e.1 ≤ 2) {tot : Int32} {kd wh : Nat → Int32} {ov un : Nat → Int64} (hE : EvZ L tot kd wh ov un) {a : Int} (ha : 0 ≤ a ∧ a ≤ 3) : f_M_kindMany F (zI a) tot kd = some (zI ((sel (fun i => decide (evk L i = a)) L.length).length : Int)) := by
  have loop := iter_for (body := un2 (fb_M_kindMany_4 (zI a) tot kd)) (F := F) (s := ((0 : Int32), (0 : Int32))) (fun k z => z = (zI ((sel (fun i => decide (evk L i = a)) k).length : Int), zI (k : Int))) (fun q => q = zI ((sel (fun i => decide (evk L i = a)) L.length).length : Int)) L.length (by omega) rfl ?_ ?_
  · obtain ⟨q, e, rfl⟩ := loop
    unfold f_M_kindMany
    rw [e, Option.bind_some]
  · rintro k z hk' rfl
    obtain ⟨e, he⟩ := getElem_of_lt hk'
    have b := hk e (List.mem_of_getElem? he)
    have ek := (evk_at he).1
    dsimp only [un2]
    unfold fb_M_kindMany_4
    rw [hE.1, if_neg (by rw [zI_le (by omega) (by omega) (by omega) (by omega)]; omega), ldA_z (by omega) (by omega), Option.bind_some, (hE.2 k e he).1]
    by_cases w : e.1 = a
    · rw [if_pos (by rw [w])]
      simp only [fj_M_kindMany_28, nm, zI_1]
      refine ⟨_, rfl, ?_⟩
      rw [sel_s]; unfold c1
      rw [if_pos (by simp [ek, w])]
    · rw [if_neg (by rw [zI_eq (by omega) (by omega) (by omega) (by omega)]; exact w)]
      have ez : ∀ x : Int, zI x + (0 : Int32) = zI x := fun x => by rw [i0, zI_add, Int.add_zero]
      simp only [fj_M_kindMany_28, nm, zI_1, ez]
      refine ⟨_, rfl, ?_⟩
      rw [sel_s]; unfold c1
      rw [if_neg (by simp [ek, w])]
      rfl
  · rintro z rfl
    dsimp only [un2]
    unfold fb_M_kindMany_4
    rw [hE.1, if_pos (Int32.le_refl _)]
    exact ⟨_, rfl, rfl⟩
theorem evL_all (hn : n ≤ 5) (hv : NvOk n nv) (hA : 0 ≤ A ∧ A ≤ 2) (hB : 0 ≤ B ∧ B ≤ 2) : (evL n nv A B).length ≤ 15 ∧ ∀ e ∈ evL n nv A B, (0 ≤ e.1 ∧ e.1 ≤ 2) ∧ e.2.1 < n ∧ LOk e.2.2.1 e.2.2.2 := by
  have hE := (gs_ok (n := n) (nv := nv) (A := A) (B := B) hn hv hA hB 15).1
  refine ⟨hE.2.2.2.2.1, fun e he => ?_⟩
  obtain ⟨c1, c2, c3, c4, c5⟩ := hE.2.2.2.2.2.1 e he
  exact ⟨by omega, c2, c3⟩
theorem op_events (hJt : Jt n nv A B) (hF : 300 < F) {bn ju jl many mu ml : Int32} (J : JX n nv A B g c y s u o pit bn ju jl) (X : MX n nv A B now many mu ml) (way0 wb0 : Nat → Int32) (kn0 tot0 : Int32) (kd0 wh0 : Nat → Int32) (ov0 un0 : Nat → Int64) (eO0 eU0 : Int64) (dO0 dU0 : Nat → Int64) (sO0 sU0 : Int64) (st0 : Nat → Int32) (re0 fr0 fs0 dr0 ds0 : Nat → Int64) (lu0 : Int64) (bf0 bl0 ba0 sc0 : Nat → Int64) (fR0 fS0 : Int64) (hK : KnG n nv A B kn0 tot0 kd0 wh0 ov0 un0 eO0 eU0) (mo0 : Nat → Int32) (uu0 : Int64) (sl0 mb0 ss0 sb0 of0 : Nat → Int64) (be0 : Nat → Int32) (bs0 : Int32) (ma0 : Nat → Int64) (lO0 lU0 : Int64) (mt0 : Int32) (mk0 mw0 : Nat → Int32) (mv0 mn0 : Nat → Int64) (ha0 : Nat → Int32) (nO0 nU0 : Int64) (me0 fe0 : Nat → Int32) (aO0 aU0 bO0 bU0 : Nat → Int64) (hf : ∀ i, i < 5 → fe0 i = 0) (nu : Nat → Int64) (sz : Int32) (row : Nat → Int64) (rm th : Int32) (hR : RowEq nu sz row rm) :
    ∃ (r : Int32) (way1 wb1 : Nat → Int32) (kn1 tot1 : Int32) (kd1 wh1 : Nat → Int32) (ov1 un1 : Nat → Int64) (eO1 eU1 : Int64) (dO1 dU1 : Nat → Int64) (sO1 sU1 : Int64) (st1 : Nat → Int32) (re1 fr1 fs1 dr1 ds1 : Nat → Int64) (lu1 : Int64) (bf1 bl1 ba1 sc1 : Nat → Int64) (fR1 fS1 : Int64) (nu1 : Nat → Int64) (sz1 : Int32) (mo1 : Nat → Int32) (uu1 : Int64) (sl1 mb1 ss1 sb1 of1 : Nat → Int64) (be1 : Nat → Int32) (bs1 : Int32) (ma1 : Nat → Int64) (lO1 lU1 : Int64) (mt1 : Int32) (mk1 mw1 : Nat → Int32) (mv1 mn1 : Nat → Int64) (ha1 : Nat → Int32) (nO1 nU1 : Int64) (me1 fe1 : Nat → Int32) (aO1 aU1 bO1 bU1 : Nat → Int64) (row1 : Nat → Int64) (rm1 : Int32), f_X_events F way0 wb0 kn0 tot0 kd0 wh0 ov0 un0 eO0 eU0 dO0 dU0 sO0 sU0 st0 re0 fr0 fs0 dr0 ds0 lu0 bf0 bl0 ba0 sc0 fR0 fS0 g c y s u o pit bn ju jl nu sz = some (r, way1, wb1, kn1, tot1, kd1, wh1, ov1, un1, eO1, eU1, dO1, dU1, sO1, sU1, st1, re1, fr1, fs1, dr1, ds1, lu1, bf1, bl1, ba1, sc1, fR1, fS1, nu1, sz1) ∧ f_M_events F now many mu ml row rm th mo0 uu0 sl0 mb0 ss0 sb0 of0 be0 bs0 ma0 lO0 lU0 mt0 mk0 mw0 mv0 mn0 ha0 nO0 nU0 me0 fe0 aO0 aU0 bO0 bU0 = some (r, row1, rm1, (0 : Int32), mo1, uu1, sl1, mb1, ss1, sb1, of1, be1, bs1, ma1, lO1, lU1, mt1, mk1, mw1, mv1, mn1, ha1, nO1, nU1, me1, fe1, aO1, aU1, bO1, bU1) ∧
      KnG n nv A B kn1 tot1 kd1 wh1 ov1 un1 eO1 eU1 ∧ (∀ i, i < 5 → fe1 i = 0) ∧ RowEq nu1 sz1 row1 rm1 := by
  have hJt' := hJt
  obtain ⟨hn, hv, hA, hB⟩ := hJt'
  obtain ⟨J1, ho, rfl, rfl, rfl⟩ := J
  obtain ⟨h, rfl, rfl, rfl⟩ := X
  obtain ⟨way1, wb1, kn1, tot1, kd1, wh1, ov1, un1, eO1, eU1, dO1, dU1, sO1, sU1, st1, re1, fr1, fs1, dr1, ds1, lu1, bf1, bl1, ba1, sc1, fR1, fS1, mo1, uu1, sl1, mb1, ss1, sb1, of1, be1, bs1, ma1, lO1, lU1, mt1, mk1, mw1, mv1, mn1, ha1, nO1, nU1, me1, fe1, aO1, aU1, bO1, bU1, e, em, hK1, hEv, hEm, heO, heU, hlO, hlU, hrec, hf1⟩ := both_grow hJt hF ⟨J1, ho, rfl, rfl, rfl⟩ ⟨h, rfl, rfl, rfl⟩ way0 wb0 kn0 tot0 kd0 wh0 ov0 un0 eO0 eU0 dO0 dU0 sO0 sU0 st0 re0 fr0 fs0 dr0 ds0 lu0 bf0 bl0 ba0 sc0 fR0 fS0 hK mo0 uu0 sl0 mb0 ss0 sb0 of0 be0 bs0 ma0 lO0 lU0 mt0 mk0 mw0 mv0 mn0 ha0 nO0 nU0 me0 fe0 aO0 aU0 bO0 bU0 hf
  obtain ⟨l15, hall⟩ := evL_all (n := n) (nv := nv) (A := A) (B := B) hn hv hA hB
  have hk := fun e he => (hall e he).1
  have cz := fun a (ha : 0 ≤ a ∧ a ≤ 3) => countOf_z (F := F) (by omega) l15 hk hEv (a := a) ha
  have mz := fun a (ha : 0 ≤ a ∧ a ≤ 3) => kindMany_z (F := F) (by omega) l15 hk hEm (a := a) ha
  have c15 := fun a : Int => sel5 (fun i => decide (evk (evL n nv A B) i = a)) (evL n nv A B).length
  generalize (fun a : Int => (sel (fun i => decide (evk (evL n nv A B) i = a)) (evL n nv A B).length).length) = ct at *
  have cl : ∃ nu1 sz1, iter (un3 (fb_X_events_17 F tot1 kd1)) F ((0 : Int32), nu, (0 : Int32)) = some (nu1, sz1) ∧ RowC [((sel (fun i => decide (evk (evL n nv A B) i = 0)) (evL n nv A B).length).length : Int), ((sel (fun i => decide (evk (evL n nv A B) i = 1)) (evL n nv A B).length).length : Int), ((sel (fun i => decide (evk (evL n nv A B) i = 2)) (evL n nv A B).length).length : Int)] nu1 sz1 := by
    obtain ⟨nu1, sz1, e1, R1⟩ := whole_z (RowC.nil nu) (by show 0 < 8; omega) ((sel (fun i => decide (evk (evL n nv A B) i = 0)) (evL n nv A B).length).length : Int)
    obtain ⟨nu2, sz2, e2, R2⟩ := whole_z R1 (by show 1 < 8; omega) ((sel (fun i => decide (evk (evL n nv A B) i = 1)) (evL n nv A B).length).length : Int)
    obtain ⟨nu3, sz3, e3, R3⟩ := whole_z R2 (by show 2 < 8; omega) ((sel (fun i => decide (evk (evL n nv A B) i = 2)) (evL n nv A B).length).length : Int)
    refine ⟨nu3, sz3, ?_, R3⟩
    have st : ∀ (a : Int) (nu0 nu' : Nat → Int64) (sz0 sz' : Int32), 0 ≤ a ∧ a ≤ 2 → f_R_whole (zL ((sel (fun i => decide (evk (evL n nv A B) i = a)) (evL n nv A B).length).length : Int)) nu0 sz0 = some (nu', sz') → un3 (fb_X_events_17 F tot1 kd1) (zI a, nu0, sz0) = some (.inl (zI (a + 1), nu', sz')) := fun a nu0 nu' sz0 sz' ha hw => by
      have := c15 a
      dsimp only [un3]
      unfold fb_X_events_17
      rw [if_neg (by rw [i3, zI_le (by omega) (by omega) (by omega) (by omega)]; omega), cz a (by omega), Option.bind_some, zI_l (by omega) (by omega), hw]
      simp only [bd2, Option.bind_some, nm]
      rw [i1, zI_add]
    obtain ⟨F, rfl⟩ : ∃ k, F = k + 4 := ⟨F - 4, by omega⟩
    simp only [iter]
    rw [show ((0 : Int32), nu, (0 : Int32)) = (zI 0, nu, (0 : Int32)) from rfl, st 0 _ _ _ _ (by omega) e1]
    dsimp only
    rw [show (0 : Int) + 1 = 1 from rfl, st 1 _ _ _ _ (by omega) e2]
    dsimp only
    rw [show (1 : Int) + 1 = 2 from rfl, st 2 _ _ _ _ (by omega) e3]
    dsimp only [un3]
    unfold fb_X_events_17
    rw [if_pos (by decide)]
  have cm : ∃ nu1 sz1, iter (un3 (fb_M_events_16 F mt1 mk1)) F ((0 : Int32), row, (0 : Int32)) = some (nu1, sz1) ∧ RowC [((sel (fun i => decide (evk (evL n nv A B) i = 0)) (evL n nv A B).length).length : Int), ((sel (fun i => decide (evk (evL n nv A B) i = 1)) (evL n nv A B).length).length : Int), ((sel (fun i => decide (evk (evL n nv A B) i = 2)) (evL n nv A B).length).length : Int)] nu1 sz1 := by
    obtain ⟨nu1, sz1, e1, R1⟩ := tell_z (RowC.nil row) (by show 0 < 64; omega) ((sel (fun i => decide (evk (evL n nv A B) i = 0)) (evL n nv A B).length).length : Int)
    obtain ⟨nu2, sz2, e2, R2⟩ := tell_z R1 (by show 1 < 64; omega) ((sel (fun i => decide (evk (evL n nv A B) i = 1)) (evL n nv A B).length).length : Int)
    obtain ⟨nu3, sz3, e3, R3⟩ := tell_z R2 (by show 2 < 64; omega) ((sel (fun i => decide (evk (evL n nv A B) i = 2)) (evL n nv A B).length).length : Int)
    refine ⟨nu3, sz3, ?_, R3⟩
    have st : ∀ (a : Int) (nu0 nu' : Nat → Int64) (sz0 sz' : Int32), 0 ≤ a ∧ a ≤ 2 → f_M_tell (zL ((sel (fun i => decide (evk (evL n nv A B) i = a)) (evL n nv A B).length).length : Int)) nu0 sz0 = some (nu', sz') → un3 (fb_M_events_16 F mt1 mk1) (zI a, nu0, sz0) = some (.inl (zI (a + 1), nu', sz')) := fun a nu0 nu' sz0 sz' ha hw => by
      have := c15 a
      dsimp only [un3]
      unfold fb_M_events_16
      rw [if_neg (by rw [i3, zI_le (by omega) (by omega) (by omega) (by omega)]; omega), mz a (by omega), Option.bind_some, zI_l (by omega) (by omega), hw]
      simp only [bd2, Option.bind_some, nm]
      rw [i1, zI_add]
    obtain ⟨F, rfl⟩ : ∃ k, F = k + 4 := ⟨F - 4, by omega⟩
    simp only [iter]
    rw [show ((0 : Int32), row, (0 : Int32)) = (zI 0, row, (0 : Int32)) from rfl, st 0 _ _ _ _ (by omega) e1]
    dsimp only
    rw [show (0 : Int) + 1 = 1 from rfl, st 1 _ _ _ _ (by omega) e2]
    dsimp only
    rw [show (1 : Int) + 1 = 2 from rfl, st 2 _ _ _ _ (by omega) e3]
    dsimp only [un3]
    unfold fb_M_events_16
    rw [if_pos (by decide)]
  obtain ⟨nu1, sz1, e1, R1⟩ := cl
  obtain ⟨row1, rm1, e2, R2⟩ := cm
  unfold f_X_events f_M_events
  rw [e, em]
  simp only [bd27, bd26, Option.bind_some]
  rw [e1, e2]
  simp only [bd2, Option.bind_some]
  refine ⟨_, way1, wb1, kn1, tot1, kd1, wh1, ov1, un1, eO1, eU1, dO1, dU1, sO1, sU1, st1, re1, fr1, fs1, dr1, ds1, lu1, bf1, bl1, ba1, sc1, fR1, fS1, nu1, sz1, mo1, uu1, sl1, mb1, ss1, sb1, of1, be1, bs1, ma1, lO1, lU1, mt1, mk1, mw1, mv1, mn1, ha1, nO1, nU1, me1, fe1, aO1, aU1, bO1, bU1, row1, rm1, rfl, ?_, hK1, hf1, _, by show 3 ≤ 8; omega, R1, R2⟩
  rw [hEv.1, hEm.1]
theorem op_event (hJt : Jt n nv A B) (hF : 300 < F) {bn ju jl many mu ml : Int32} (J : JX n nv A B g c y s u o pit bn ju jl) (X : MX n nv A B now many mu ml) (x1 : Int32) (way0 wb0 : Nat → Int32) (kn0 tot0 : Int32) (kd0 wh0 : Nat → Int32) (ov0 un0 : Nat → Int64) (eO0 eU0 : Int64) (dO0 dU0 : Nat → Int64) (sO0 sU0 : Int64) (st0 : Nat → Int32) (re0 fr0 fs0 dr0 ds0 : Nat → Int64) (lu0 : Int64) (bf0 bl0 ba0 sc0 : Nat → Int64) (fR0 fS0 : Int64) (hK : KnG n nv A B kn0 tot0 kd0 wh0 ov0 un0 eO0 eU0) (mo0 : Nat → Int32) (uu0 : Int64) (sl0 mb0 ss0 sb0 of0 : Nat → Int64) (be0 : Nat → Int32) (bs0 : Int32) (ma0 : Nat → Int64) (lO0 lU0 : Int64) (mt0 : Int32) (mk0 mw0 : Nat → Int32) (mv0 mn0 : Nat → Int64) (ha0 : Nat → Int32) (nO0 nU0 : Int64) (me0 fe0 : Nat → Int32) (aO0 aU0 bO0 bU0 : Nat → Int64) (hf : ∀ i, i < 5 → fe0 i = 0) (nu : Nat → Int64) (sz : Int32) (row : Nat → Int64) (rm th : Int32) (hR : RowEq nu sz row rm) :
    ∃ (r : Int32) (way1 wb1 : Nat → Int32) (kn1 tot1 : Int32) (kd1 wh1 : Nat → Int32) (ov1 un1 : Nat → Int64) (eO1 eU1 : Int64) (dO1 dU1 : Nat → Int64) (sO1 sU1 : Int64) (st1 : Nat → Int32) (re1 fr1 fs1 dr1 ds1 : Nat → Int64) (lu1 : Int64) (bf1 bl1 ba1 sc1 : Nat → Int64) (fR1 fS1 : Int64) (nu1 : Nat → Int64) (sz1 : Int32) (mo1 : Nat → Int32) (uu1 : Int64) (sl1 mb1 ss1 sb1 of1 : Nat → Int64) (be1 : Nat → Int32) (bs1 : Int32) (ma1 : Nat → Int64) (lO1 lU1 : Int64) (mt1 : Int32) (mk1 mw1 : Nat → Int32) (mv1 mn1 : Nat → Int64) (ha1 : Nat → Int32) (nO1 nU1 : Int64) (me1 fe1 : Nat → Int32) (aO1 aU1 bO1 bU1 : Nat → Int64) (row1 : Nat → Int64) (rm1 : Int32), f_X_event F x1 way0 wb0 kn0 tot0 kd0 wh0 ov0 un0 eO0 eU0 dO0 dU0 sO0 sU0 st0 re0 fr0 fs0 dr0 ds0 lu0 bf0 bl0 ba0 sc0 fR0 fS0 g c y s u o pit bn ju jl nu sz = some (r, way1, wb1, kn1, tot1, kd1, wh1, ov1, un1, eO1, eU1, dO1, dU1, sO1, sU1, st1, re1, fr1, fs1, dr1, ds1, lu1, bf1, bl1, ba1, sc1, fR1, fS1, nu1, sz1) ∧ f_M_event F x1 now many mu ml row rm th mo0 uu0 sl0 mb0 ss0 sb0 of0 be0 bs0 ma0 lO0 lU0 mt0 mk0 mw0 mv0 mn0 ha0 nO0 nU0 me0 fe0 aO0 aU0 bO0 bU0 = some (r, row1, rm1, (0 : Int32), mo1, uu1, sl1, mb1, ss1, sb1, of1, be1, bs1, ma1, lO1, lU1, mt1, mk1, mw1, mv1, mn1, ha1, nO1, nU1, me1, fe1, aO1, aU1, bO1, bU1) ∧
      KnG n nv A B kn1 tot1 kd1 wh1 ov1 un1 eO1 eU1 ∧ (∀ i, i < 5 → fe1 i = 0) ∧ RowEq nu1 sz1 row1 rm1 := by
  obtain ⟨p, rfl, hp1, hp2⟩ := zI_all x1
  have hJt' := hJt
  obtain ⟨hn, hv, hA, hB⟩ := hJt'
  obtain ⟨J1, ho, rfl, rfl, rfl⟩ := J
  obtain ⟨h, rfl, rfl, rfl⟩ := X
  obtain ⟨way1, wb1, kn1, tot1, kd1, wh1, ov1, un1, eO1, eU1, dO1, dU1, sO1, sU1, st1, re1, fr1, fs1, dr1, ds1, lu1, bf1, bl1, ba1, sc1, fR1, fS1, mo1, uu1, sl1, mb1, ss1, sb1, of1, be1, bs1, ma1, lO1, lU1, mt1, mk1, mw1, mv1, mn1, ha1, nO1, nU1, me1, fe1, aO1, aU1, bO1, bU1, e, em, hK1, hEv, hEm, heO, heU, hlO, hlU, hrec, hf1⟩ := both_grow hJt hF ⟨J1, ho, rfl, rfl, rfl⟩ ⟨h, rfl, rfl, rfl⟩ way0 wb0 kn0 tot0 kd0 wh0 ov0 un0 eO0 eU0 dO0 dU0 sO0 sU0 st0 re0 fr0 fs0 dr0 ds0 lu0 bf0 bl0 ba0 sc0 fR0 fS0 hK mo0 uu0 sl0 mb0 ss0 sb0 of0 be0 bs0 ma0 lO0 lU0 mt0 mk0 mw0 mv0 mn0 ha0 nO0 nU0 me0 fe0 aO0 aU0 bO0 bU0 hf
  obtain ⟨l15, hall⟩ := evL_all (n := n) (nv := nv) (A := A) (B := B) hn hv hA hB
  clear hrec heO heU hlO hlU
  generalize evL n nv A B = L at *
  unfold f_X_event f_M_event
  rw [e, em]
  simp only [bd27, bd26, Option.bind_some]
  rw [hEv.1, hEm.1, zI_l (a := p) hp1 hp2, i1, zI_sub, zI_l (a := (L.length : Int) - 1) (by omega) (by omega), l0z, in_z (by omega) (by omega) (by omega), Option.bind_some]
  by_cases w1 : p < 0
  · rw [if_pos (by rw [i0, zI_lt (by omega) (by omega) (by omega) (by omega)]; exact w1), if_pos (b01_ne0.mpr (by omega))]
    exact ⟨_, way1, wb1, kn1, _, kd1, wh1, ov1, un1, eO1, eU1, dO1, dU1, sO1, sU1, st1, re1, fr1, fs1, dr1, ds1, lu1, bf1, bl1, ba1, sc1, fR1, fS1, nu, sz, mo1, uu1, sl1, mb1, ss1, sb1, of1, be1, bs1, ma1, lO1, lU1, _, mk1, mw1, mv1, mn1, ha1, nO1, nU1, me1, fe1, aO1, aU1, bO1, bU1, row, rm, rfl, rfl, by rw [← hEv.1]; exact hK1, hf1, hR⟩
  · rw [if_neg (by rw [i0, zI_lt (by omega) (by omega) (by omega) (by omega)]; exact w1)]
    by_cases w2 : p < (L.length : Int)
    · obtain ⟨ev, he⟩ := getElem_of_lt (L := L) (i := p.toNat) (by omega)
      obtain ⟨hk, hw, l1, l2, l3, l4, l5⟩ := hall ev (List.mem_of_getElem? he)
      obtain ⟨z1, z2, z3, z4⟩ := hEv.2 _ ev he
      obtain ⟨y1, y2, y3, y4⟩ := hEm.2 _ ev he
      have ep : zI p = zI ((p.toNat : Nat) : Int) := congrArg zI (by omega)
      have LA := fun (f : Nat → Int64) => ldA_z (f := f) (j := p.toNat) (n := 15) (by omega) (by omega)
      have LB := fun (f : Nat → Int64) => ldA_z (f := f) (j := p.toNat) (n := 32) (by omega) (by omega)
      have LI := fun (f : Nat → Int32) => ldA_z (f := f) (j := p.toNat) (n := 15) (by omega) (by omega)
      have LJ := fun (f : Nat → Int32) => ldA_z (f := f) (j := p.toNat) (n := 32) (by omega) (by omega)
      obtain ⟨nu1, sz1, e1, R1⟩ := whole_z (RowC.nil nu) (by show 0 < 8; omega) (ev.2.1 : Int)
      obtain ⟨nu2, sz2, e2, R2⟩ := fraction_z (F := F) (by omega) R1 (by show 1 + 2 ≤ 8; omega) (o := ev.2.2.1) (u := ev.2.2.2) (by omega) (by omega) l3 (by omega)
      obtain ⟨row1, rm1, e3, R3⟩ := tell_z (RowC.nil row) (by show 0 < 64; omega) (ev.2.1 : Int)
      obtain ⟨row2, rm2, e4, R4⟩ := tellFraction_z (F := F) (by omega) R3 (by show 1 + 2 ≤ 64; omega) (o := ev.2.2.1) (u := ev.2.2.2) (by omega) (by omega) l3 (by omega)
      rw [if_pos (by rw [zI_lt (by omega) (by omega) (by omega) (by omega)]; exact w2), if_neg (fun z => (b01_ne0.mp z) (by omega)), ep]
      simp only [LA, LB, LI, LJ, Option.bind_some, z1, z2, z3, z4, y1, y2, y3, y4]
      rw [zI_l (a := (ev.2.1 : Int)) (by omega) (by omega), e1, e3]
      simp only [bd2, Option.bind_some]
      rw [e2, e4]
      simp only [Option.bind_some]
      exact ⟨_, way1, wb1, kn1, _, kd1, wh1, ov1, un1, eO1, eU1, dO1, dU1, sO1, sU1, st1, re1, fr1, fs1, dr1, ds1, lu1, bf1, bl1, ba1, sc1, fR1, fS1, nu2, sz2, mo1, uu1, sl1, mb1, ss1, sb1, of1, be1, bs1, ma1, lO1, lU1, _, mk1, mw1, mv1, mn1, ha1, nO1, nU1, me1, fe1, aO1, aU1, bO1, bU1, row2, rm2, rfl, rfl, by rw [← hEv.1]; exact hK1, hf1, _, by show 3 ≤ 8; omega, R2, R4⟩
    · rw [if_neg (by rw [zI_lt (by omega) (by omega) (by omega) (by omega)]; exact w2), if_pos (b01_ne0.mpr (by omega))]
      exact ⟨_, way1, wb1, kn1, _, kd1, wh1, ov1, un1, eO1, eU1, dO1, dU1, sO1, sU1, st1, re1, fr1, fs1, dr1, ds1, lu1, bf1, bl1, ba1, sc1, fR1, fS1, nu, sz, mo1, uu1, sl1, mb1, ss1, sb1, of1, be1, bs1, ma1, lO1, lU1, _, mk1, mw1, mv1, mn1, ha1, nO1, nU1, me1, fe1, aO1, aU1, bO1, bU1, row, rm, rfl, rfl, by rw [← hEv.1]; exact hK1, hf1, hR⟩
end OPS7
