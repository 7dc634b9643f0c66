section MGROW3
variable {n : Nat} {nv : Nat → Nat → Int} {A B : Int} {now : Nat → Int32} {F : Nat}
theorem over_z (hn : n ≤ 5) (hF : 10 < F) (hv : NvOk n nv) (hA : 0 ≤ A ∧ A ≤ 2) (hB : 0 ≤ B ∧ B ≤ 2) (k : Nat) {mode : Nat → Int32} {tot : Int32} {kd wh : Nat → Int32} {ov un : Nat → Int64} {had : Nat → Int32} {aO aU bO bU : Nat → Int64} (hM : MSt n nv A B (gs n nv A B k) mode tot kd wh ov un had aO aU bO bU) :
    ((gs n nv A B k).1 = 0 → f_M_isOver F (zI (n : Int)) mode = some (1 : Int32)) ∧ (¬ (gs n nv A B k).1 = 0 → f_M_isOver F (zI (n : Int)) mode = some (0 : Int32)) := by
  obtain ⟨hE, hR, hM1, hM2⟩ := hM
  refine ⟨fun w => ?_, fun w => ?_⟩
  · exact (isOver_z (F := F) (md := fun _ => 3) hn hF (fun i hi => zI3_m3 (hM1 w i hi))).2 (fun i _ => by show ¬ (3 : Int) ≤ 2; decide)
  · obtain ⟨⟨hBO, -⟩, -⟩ := (gs_ok hn hv hA hB k).2 w
    obtain ⟨i, hi, hi2⟩ := hBO.2.2.1
    exact (isOver_z (F := F) (md := (gs n nv A B k).2.1) hn hF (fun i hi => ⟨(hM2 w).1 i hi, (hBO.2.1.bd i hi).1⟩)).1 ⟨i, hi, by omega⟩
theorem grow_z (hn : n ≤ 5) (hF : 300 < F) (hv : NvOk n nv) (hA : 0 ≤ A ∧ A ≤ 2) (hB : 0 ≤ B ∧ B ≤ 2) (h : ∀ i, i < n → ∀ q, q < 7 → now (7 * i + q) = zI (nv i q)) (mode : Nat → Int32) (uu : Int64) (sl ba ss sb of' : Nat → Int64) (be' : Nat → Int32) (bs' : Int32) (ma' : Nat → Int64) (lO lU : Int64) (tot : Int32) (kd wh : Nat → Int32) (ov un : Nat → Int64) (had : Nat → Int32) (nO nU : Int64) (met fresh : Nat → Int32) (aO aU bO bU : Nat → Int64) (hf : ∀ i, i < 5 → fresh i = 0) :
    ∃ (mode1 : Nat → Int32) (uu1 : Int64) (sl1 ba1 ss1 sb1 of1 : Nat → Int64) (be1 : Nat → Int32) (bs1 : Int32) (ma1 : Nat → Int64) (tot1 : Int32) (kd1 wh1 : Nat → Int32) (ov1 un1 : Nat → Int64) (had1 : Nat → Int32) (nO1 nU1 : Int64) (met1 fresh1 : Nat → Int32) (aO1 aU1 bO1 bU1 : Nat → Int64),
      f_M_grow F now (zI (n : Int)) (zI A) (zI B) mode uu sl ba ss sb of' be' bs' ma' lO lU tot kd wh ov un had nO nU met fresh aO aU bO bU = some (mode1, uu1, sl1, ba1, ss1, sb1, of1, be1, bs1, ma1, zL (gs n nv A B 15).2.2.1, zL (gs n nv A B 15).2.2.2.1, tot1, kd1, wh1, ov1, un1, had1, nO1, nU1, met1, fresh1, aO1, aU1, bO1, bU1) ∧
      MSt n nv A B (gs n nv A B 15) mode1 tot1 kd1 wh1 ov1 un1 had1 aO1 aU1 bO1 bU1 ∧ ∀ i, i < 5 → fresh1 i = 0 := by
  obtain ⟨mode0, tot0, kd0, wh0, ov0, un0, had0, e0, hM0⟩ := mstart_z (F := F) hn (by omega) hv hA hB h mode lO lU tot kd wh ov un had aO aU bO bU
  have loop := iter_up (body := un26 (fb_M_grow_4 F now (zI (n : Int)) (zI A) (zI B)))
    (fun k z => ∃ (mode : Nat → Int32) (uu : Int64) (sl ba ss sb of' : Nat → Int64) (be' : Nat → Int32) (bs' : Int32) (ma' : Nat → Int64) (tot : Int32) (kd wh : Nat → Int32) (ov un : Nat → Int64) (had : Nat → Int32) (nO nU : Int64) (met fresh : Nat → Int32) (aO aU bO bU : Nat → Int64),
      z = (mode, uu, sl, ba, ss, sb, of', be', bs', ma', zL (gs n nv A B k).2.2.1, zL (gs n nv A B k).2.2.2.1, tot, kd, wh, ov, un, had, nO, nU, met, fresh, aO, aU, bO, bU) ∧ MSt n nv A B (gs n nv A B k) mode tot kd wh ov un had aO aU bO bU ∧ ∀ i, i < 5 → fresh i = 0)
    (fun q => ∃ (mode : Nat → Int32) (uu : Int64) (sl ba ss sb of' : Nat → Int64) (be' : Nat → Int32) (bs' : Int32) (ma' : Nat → Int64) (tot : Int32) (kd wh : Nat → Int32) (ov un : Nat → Int64) (had : Nat → Int32) (nO nU : Int64) (met fresh : Nat → Int32) (aO aU bO bU : Nat → Int64),
      q = (mode, uu, sl, ba, ss, sb, of', be', bs', ma', zL (gs n nv A B 15).2.2.1, zL (gs n nv A B 15).2.2.2.1, tot, kd, wh, ov, un, had, nO, nU, met, fresh, aO, aU, bO, bU) ∧ MSt n nv A B (gs n nv A B 15) mode tot kd wh ov un had aO aU bO bU ∧ ∀ i, i < 5 → fresh i = 0)
    15 ?_ ?_ 15 0 F (mode0, uu, sl, ba, ss, sb, of', be', bs', ma', zL (gs n nv A B 0).2.2.1, zL (gs n nv A B 0).2.2.2.1, tot0, kd0, wh0, ov0, un0, had0, nO, nU, met, fresh, aO, aU, bO, bU) (by omega) (by omega) ⟨mode0, uu, sl, ba, ss, sb, of', be', bs', ma', tot0, kd0, wh0, ov0, un0, had0, nO, nU, met, fresh, aO, aU, bO, bU, rfl, hM0, hf⟩
  · obtain ⟨q, e, mode1, uu1, sl1, ba1, ss1, sb1, of1, be1, bs1, ma1, tot1, kd1, wh1, ov1, un1, had1, nO1, nU1, met1, fresh1, aO1, aU1, bO1, bU1, rfl, hM, hf1⟩ := loop
    refine ⟨mode1, uu1, sl1, ba1, ss1, sb1, of1, be1, bs1, ma1, tot1, kd1, wh1, ov1, un1, had1, nO1, nU1, met1, fresh1, aO1, aU1, bO1, bU1, ?_, hM, hf1⟩
    unfold f_M_grow
    rw [e0]
    simp only [bd9, Option.bind_some]
    rw [e]
    rfl
  · rintro k z hk ⟨mode, uu, sl, ba, ss, sb, of', be', bs', ma', tot, kd, wh, ov, un, had, nO, nU, met, fresh, aO, aU, bO, bU, rfl, hM, hf⟩
    obtain ⟨ov1', ov0'⟩ := over_z (F := F) hn (by omega) hv hA hB k hM
    dsimp only [un26]
    unfold fb_M_grow_4
    by_cases hz : (gs n nv A B k).1 = 0
    · right
      rw [ov1' hz, Option.bind_some, if_neg (by decide)]
      have hfin := gs_fin (k := k) hn hv hA hB hz
      rw [hfin]
      rw [hfin] at hM
      exact ⟨_, rfl, mode, uu, sl, ba, ss, sb, of', be', bs', ma', tot, kd, wh, ov, un, had, nO, nU, met, fresh, aO, aU, bO, bU, rfl, hM, hf⟩
    · left
      rw [ov0' hz, Option.bind_some, if_pos rfl]
      obtain ⟨hG, -⟩ := (gs_ok hn hv hA hB k).2 hz
      obtain ⟨D, fr, fs, dr, ds, nO', nU', uu2, sl2, ba2, ss2, sb2, of2, be2, bs2, ma2, e1, hS, hD2, hSO, p1, p2, p3, p4, p5⟩ := findNext_z (F := F) hn (by omega) hv hA hB h (fun i hi => ⟨(hM.2.2.2 hz).1 i hi, (hG.1.2.1.bd i hi).1⟩) hG.1.2.2.1 uu sl ba ss sb of' be' bs' ma' nO nU
      obtain ⟨mode1, uu1, sl1, ba1, ss1, sb1, of1, be1, bs1, ma1, tot1, kd1, wh1, ov1, un1, had1, met1, fresh1, aO1, aU1, bO1, bU1, e2, hM1, hf1⟩ := goNext_z (F := F) (met := met) hn hF hv hA hB h hz hG hM hf of2 be2 bs2 ma2 (zL (gs n nv A B k).2.2.1) (zL (gs n nv A B k).2.2.2.1) hS hD2 hSO p1 p2 p3 p4 p5
      rw [e1]
      simp only [bd11, Option.bind_some]
      rw [e2]
      simp only [bd24, Option.bind_some]
      exact ⟨_, rfl, mode1, uu1, sl1, ba1, ss1, sb1, of1, be1, bs1, ma1, tot1, kd1, wh1, ov1, un1, had1, _, _, met1, fresh1, aO1, aU1, bO1, bU1, rfl, hM1, hf1⟩
  · rintro z ⟨mode, uu, sl, ba, ss, sb, of', be', bs', ma', tot, kd, wh, ov, un, had, nO, nU, met, fresh, aO, aU, bO, bU, rfl, hM, hf⟩
    obtain ⟨ov1', ov0'⟩ := over_z (F := F) hn (by omega) hv hA hB 15 hM
    dsimp only [un26]
    unfold fb_M_grow_4
    rw [ov1' (gs_end hn hv hA hB), Option.bind_some, if_neg (by decide)]
    exact ⟨_, rfl, mode, uu, sl, ba, ss, sb, of', be', bs', ma', tot, kd, wh, ov, un, had, nO, nU, met, fresh, aO, aU, bO, bU, rfl, hM, hf⟩
/-- nobody is left, or what is next is above p -/
def StopAt (n : Nat) (nv : Nat → Nat → Int) (A B : Int) (p : Int) (k : Nat) : Prop := (∀ j, j < k → ¬ (gs n nv A B j).1 = 0 ∧ (nxt n nv A B (gs n nv A B j).2.1).1 ≤ p * (nxt n nv A B (gs n nv A B j).2.1).2) ∧ ((gs n nv A B k).1 = 0 ∨ p * (nxt n nv A B (gs n nv A B k).2.1).2 < (nxt n nv A B (gs n nv A B k).2.1).1)
theorem growTo_z (hn : n ≤ 5) (hF : 300 < F) (hv : NvOk n nv) (hA : 0 ≤ A ∧ A ≤ 2) (hB : 0 ≤ B ∧ B ≤ 2) (h : ∀ i, i < n → ∀ q, q < 7 → now (7 * i + q) = zI (nv i q)) {p : Int} (hp0 : 0 ≤ p) (hp3 : p ≤ 300) (mode : Nat → Int32) (uu : Int64) (sl ba ss sb of' : Nat → Int64) (be' : Nat → Int32) (bs' : Int32) (ma' : Nat → Int64) (lO lU : Int64) (tot : Int32) (kd wh : Nat → Int32) (ov un : Nat → Int64) (had : Nat → Int32) (nO nU : Int64) (met fresh : Nat → Int32) (aO aU bO bU : Nat → Int64) (hf : ∀ i, i < 5 → fresh i = 0) :
    ∃ (k : Nat) (r : Int32) (mode1 : Nat → Int32) (uu1 : Int64) (sl1 ba1 ss1 sb1 of1 : Nat → Int64) (be1 : Nat → Int32) (bs1 : Int32) (ma1 : Nat → Int64) (lO1 lU1 : Int64) (tot1 : Int32) (kd1 wh1 : Nat → Int32) (ov1 un1 : Nat → Int64) (had1 : Nat → Int32) (nO1 nU1 : Int64) (met1 fresh1 : Nat → Int32) (aO1 aU1 bO1 bU1 : Nat → Int64),
      f_M_growTo F (zI p) now (zI (n : Int)) (zI A) (zI B) mode uu sl ba ss sb of' be' bs' ma' lO lU tot kd wh ov un had nO nU met fresh aO aU bO bU = some (r, mode1, uu1, sl1, ba1, ss1, sb1, of1, be1, bs1, ma1, lO1, lU1, tot1, kd1, wh1, ov1, un1, had1, nO1, nU1, met1, fresh1, aO1, aU1, bO1, bU1) ∧
      MSt n nv A B (gs n nv A B k) mode1 tot1 kd1 wh1 ov1 un1 had1 aO1 aU1 bO1 bU1 ∧ (∀ i, i < 5 → fresh1 i = 0) ∧ StopAt n nv A B p k ∧
      ((r = 0 ∧ (gs n nv A B k).1 = 0) ∨ (r = 1 ∧ ¬ (gs n nv A B k).1 = 0 ∧ lO1 = zL p ∧ lU1 = zL 1 ∧ ∃ (D : Int) (fr fs dr ds : Nat → Int), Lns n nv A B (gs n nv A B k).2.1 D fr fs dr ds ∧ D ≤ 299269 ∧ SOk n D fr fs dr ds uu1 sl1 ba1 ss1 sb1)) := by
  obtain ⟨mode0, tot0, kd0, wh0, ov0, un0, had0, e0, hM0⟩ := mstart_z (F := F) hn (by omega) hv hA hB h mode lO lU tot kd wh ov un had aO aU bO bU
  have loop := iter_up (body := un26 (fb_M_growTo_4 F (zI p) now (zI (n : Int)) (zI A) (zI B)))
    (fun k z => (∀ j, j < k → ¬ (gs n nv A B j).1 = 0 ∧ (nxt n nv A B (gs n nv A B j).2.1).1 ≤ p * (nxt n nv A B (gs n nv A B j).2.1).2) ∧ ∃ (mode : Nat → Int32) (uu : Int64) (sl ba ss sb of' : Nat → Int64) (be' : Nat → Int32) (bs' : Int32) (ma' : Nat → Int64) (tot : Int32) (kd wh : Nat → Int32) (ov un : Nat → Int64) (had : Nat → Int32) (nO nU : Int64) (met fresh : Nat → Int32) (aO aU bO bU : Nat → Int64),
      z = (mode, uu, sl, ba, ss, sb, of', be', bs', ma', zL (gs n nv A B k).2.2.1, zL (gs n nv A B k).2.2.2.1, tot, kd, wh, ov, un, had, nO, nU, met, fresh, aO, aU, bO, bU) ∧ MSt n nv A B (gs n nv A B k) mode tot kd wh ov un had aO aU bO bU ∧ ∀ i, i < 5 → fresh i = 0)
    (fun q => ∃ (k : Nat) (c : Nat) (mode : Nat → Int32) (uu : Int64) (sl ba ss sb of' : Nat → Int64) (be' : Nat → Int32) (bs' : Int32) (ma' : Nat → Int64) (lO1 lU1 : Int64) (tot : Int32) (kd wh : Nat → Int32) (ov un : Nat → Int64) (had : Nat → Int32) (nO nU : Int64) (met fresh : Nat → Int32) (aO aU bO bU : Nat → Int64),
      q = (c, mode, uu, sl, ba, ss, sb, of', be', bs', ma', lO1, lU1, tot, kd, wh, ov, un, had, nO, nU, met, fresh, aO, aU, bO, bU) ∧ MSt n nv A B (gs n nv A B k) mode tot kd wh ov un had aO aU bO bU ∧ (∀ i, i < 5 → fresh i = 0) ∧ StopAt n nv A B p k ∧
      ((c = 1 ∧ (gs n nv A B k).1 = 0) ∨ (c = 0 ∧ ¬ (gs n nv A B k).1 = 0 ∧ ∃ (D : Int) (fr fs dr ds : Nat → Int), Lns n nv A B (gs n nv A B k).2.1 D fr fs dr ds ∧ D ≤ 299269 ∧ SOk n D fr fs dr ds uu sl ba ss sb)))
    15 ?_ ?_ 15 0 F (mode0, uu, sl, ba, ss, sb, of', be', bs', ma', zL (gs n nv A B 0).2.2.1, zL (gs n nv A B 0).2.2.2.1, tot0, kd0, wh0, ov0, un0, had0, nO, nU, met, fresh, aO, aU, bO, bU) (by omega) (by omega) ⟨fun j hj => absurd hj (by omega), mode0, uu, sl, ba, ss, sb, of', be', bs', ma', tot0, kd0, wh0, ov0, un0, had0, nO, nU, met, fresh, aO, aU, bO, bU, rfl, hM0, hf⟩
  · obtain ⟨q, e, k, c, mode1, uu1, sl1, ba1, ss1, sb1, of1, be1, bs1, ma1, lO1, lU1, tot1, kd1, wh1, ov1, un1, had1, nO1, nU1, met1, fresh1, aO1, aU1, bO1, bU1, rfl, hM, hf1, hst, hc⟩ := loop
    rcases hc with ⟨rfl, hz⟩ | ⟨rfl, hz, hl⟩
    · refine ⟨k, 0, mode1, uu1, sl1, ba1, ss1, sb1, of1, be1, bs1, ma1, lO1, lU1, tot1, kd1, wh1, ov1, un1, had1, nO1, nU1, met1, fresh1, aO1, aU1, bO1, bU1, ?_, hM, hf1, hst, Or.inl ⟨rfl, hz⟩⟩
      unfold f_M_growTo
      rw [e0]
      simp only [bd9, Option.bind_some]
      rw [e]
      rfl
    · refine ⟨k, 1, mode1, uu1, sl1, ba1, ss1, sb1, of1, be1, bs1, ma1, zL p, zL 1, tot1, kd1, wh1, ov1, un1, had1, nO1, nU1, met1, fresh1, aO1, aU1, bO1, bU1, ?_, hM, hf1, hst, Or.inr ⟨rfl, hz, rfl, rfl, hl⟩⟩
      have er : red p 1 = (p, 1) := red_one (by omega) (Int.gcd_one_right p)
      have es := setLoad_z (o := p) (u := 1) (F := F) (by omega) (by omega) (by omega) (by omega) (by omega) lO1 lU1
      rw [er] at es
      unfold f_M_growTo
      rw [e0]
      simp only [bd9, Option.bind_some]
      rw [e]
      simp only [bd27, Option.bind_some, if_pos]
      rw [zI_l (by omega) (by omega), l1z, es]
      rfl
  · rintro k z hk ⟨hst, mode, uu, sl, ba, ss, sb, of', be', bs', ma', tot, kd, wh, ov, un, had, nO, nU, met, fresh, aO, aU, bO, bU, rfl, hM, hf⟩
    obtain ⟨ov1', ov0'⟩ := over_z (F := F) hn (by omega) hv hA hB k hM
    dsimp only [un26]
    unfold fb_M_growTo_4
    by_cases hz : (gs n nv A B k).1 = 0
    · right
      rw [ov1' hz, Option.bind_some, if_neg (by decide)]
      exact ⟨_, rfl, k, 1, mode, uu, sl, ba, ss, sb, of', be', bs', ma', _, _, tot, kd, wh, ov, un, had, nO, nU, met, fresh, aO, aU, bO, bU, rfl, hM, hf, ⟨hst, Or.inl hz⟩, Or.inl ⟨rfl, hz⟩⟩
    · rw [ov0' hz, Option.bind_some, if_pos rfl]
      obtain ⟨hG, -⟩ := (gs_ok hn hv hA hB k).2 hz
      obtain ⟨D, fr, fs, dr, ds, nO', nU', uu2, sl2, ba2, ss2, sb2, of2, be2, bs2, ma2, e1, hS, hD2, hSO, p1, p2, p3, p4, p5⟩ := findNext_z (F := F) hn (by omega) hv hA hB h (fun i hi => ⟨(hM.2.2.2 hz).1 i hi, (hG.1.2.1.bd i hi).1⟩) hG.1.2.2.1 uu sl ba ss sb of' be' bs' ma' nO nU
      -- the next load as it is
      obtain ⟨⟨j, j1, j2, j3, j4⟩, hle⟩ := p5.2.2 p1
      have hX := nxt_of hv hA hB hS p1 hle ⟨j, j1, j2, by rw [j3, j4]⟩
      have hnx := nxt_eq hS hX
      obtain ⟨t, t1, -, t2, t3, t4, -, -, -, -⟩ := red_ok (o := nO') p1
      have hcmp : nO' ≤ p * nU' ↔ (nxt n nv A B (gs n nv A B k).2.1).1 ≤ p * (nxt n nv A B (gs n nv A B k).2.1).2 := by
        rw [hnx]
        dsimp only
        generalize (red nO' nU').1 = a at *
        generalize (red nO' nU').2 = b at *
        have e : p * nU' = t * (p * b) := by rw [t3]; ac_rfl
        rw [e, t2]
        exact ⟨fun w => Int.le_of_mul_le_mul_left w t1, fun w => Int.mul_le_mul_of_nonneg_left w (by omega)⟩
      have c1 := mul_bd hp0 (show 0 ≤ nU' by omega) hp3 p2
      rw [e1]
      simp only [bd11, Option.bind_some]
      rw [zI_l (by omega) (by omega), zL_mul]
      by_cases hc : nO' ≤ p * nU'
      · left
        obtain ⟨mode1, uu1, sl1, ba1, ss1, sb1, of1, be1, bs1, ma1, tot1, kd1, wh1, ov1, un1, had1, met1, fresh1, aO1, aU1, bO1, bU1, e2, hM1, hf1⟩ := goNext_z (F := F) (met := met) hn hF hv hA hB h hz hG hM hf of2 be2 bs2 ma2 (zL (gs n nv A B k).2.2.1) (zL (gs n nv A B k).2.2.2.1) hS hD2 hSO p1 p2 p3 p4 p5
        rw [if_pos (by rw [zL_le (by omega) (by omega) (by omega) (by omega)]; exact hc), e2]
        simp only [bd24, Option.bind_some]
        refine ⟨_, rfl, fun l hl => ?_, mode1, uu1, sl1, ba1, ss1, sb1, of1, be1, bs1, ma1, tot1, kd1, wh1, ov1, un1, had1, _, _, met1, fresh1, aO1, aU1, bO1, bU1, rfl, hM1, hf1⟩
        by_cases w : l = k
        · subst w; exact ⟨hz, hcmp.mp hc⟩
        · exact hst l (by omega)
      · right
        rw [if_neg (by rw [zL_le (by omega) (by omega) (by omega) (by omega)]; exact hc)]
        refine ⟨_, rfl, k, 0, mode, uu2, sl2, ba2, ss2, sb2, of2, be2, bs2, ma2, _, _, tot, kd, wh, ov, un, had, _, _, met, fresh, aO, aU, bO, bU, rfl, hM, hf, ⟨hst, Or.inr ?_⟩, Or.inr ⟨rfl, hz, D, fr, fs, dr, ds, hS, hD2, hSO⟩⟩
        refine Int.not_le.mp fun w => hc (hcmp.mpr w)
  · rintro z ⟨hst, mode, uu, sl, ba, ss, sb, of', be', bs', ma', tot, kd, wh, ov, un, had, nO, nU, met, fresh, aO, aU, bO, bU, rfl, hM, hf⟩
    obtain ⟨ov1', ov0'⟩ := over_z (F := F) hn (by omega) hv hA hB 15 hM
    have hz := gs_end (n := n) (nv := nv) (A := A) (B := B) hn hv hA hB
    dsimp only [un26]
    unfold fb_M_growTo_4
    rw [ov1' hz, Option.bind_some, if_neg (by decide)]
    exact ⟨_, rfl, 15, 1, mode, uu, sl, ba, ss, sb, of', be', bs', ma', _, _, tot, kd, wh, ov, un, had, nO, nU, met, fresh, aO, aU, bO, bU, rfl, hM, hf, ⟨hst, Or.inl hz⟩, Or.inl ⟨rfl, hz⟩⟩
end MGROW3
