/-! THE MODEL: the next load, who is live, what is noted -/
section MNEXT
variable {n : Nat} {nv : Nat → Nat → Int} {A B : Int} {now mode : Nat → Int32} {md : Nat → Int} {F : Nat}
theorem findNext_z (hn : n ≤ 5) (hF : 40 < F) (hv : NvOk n nv) (hA : 0 ≤ A ∧ A ≤ 2) (hB : 0 ≤ B ∧ B ≤ 2) (h : ∀ i, i < n → ∀ q, q < 7 → now (7 * i + q) = zI (nv i q)) (hm : ∀ i, i < n → mode i = zI (m3 md i) ∧ 0 ≤ md i) (hs : ∃ i, i < n ∧ (md i = 1 ∨ md i = 2))
    (un0 : Int64) (sl0 ba0 ss0 sb0 of0 : Nat → Int64) (be0 : Nat → Int32) (bs0 : Int32) (ma0 : Nat → Int64) (nO0 nU0 : Int64) :
    ∃ (D : Int) (fr fs dr ds : Nat → Int) (nO nU : Int) (un : Int64) (sl ba ss sb of' : Nat → Int64) (be' : Nat → Int32) (bs' : Int32) (ma' : Nat → Int64), f_M_findNext F now (zI (n : Int)) (zI A) (zI B) mode un0 sl0 ba0 ss0 sb0 of0 be0 bs0 ma0 nO0 nU0 = some (un, sl, ba, ss, sb, of', be', bs', ma', zL nO, zL nU) ∧ Lns n nv A B md D fr fs dr ds ∧ D ≤ 299269 ∧ SOk n D fr fs dr ds un sl ba ss sb ∧
      0 < nU ∧ nU ≤ 25 * 299269 ∧ -(400 * 299269) ≤ nO ∧ nO ≤ 400 * 299269 ∧ NxL n nv md D fr fs dr ds nO nU := by
  obtain ⟨D, fr, fs, dr, ds, un, sl, ba, ss, sb, of', be', bs', ma', e1, hS, hD2, hSO⟩ := msolve_z (F := F) hn hF hv hA hB h hm hs un0 sl0 ba0 ss0 sb0 of0 be0 bs0 ma0
  obtain ⟨o1, o2, o3, o4, o5⟩ := hSO
  have hD := hS.1
  have hb := sol_bounds hn hv hA hB hS
  have bU := dun_bd (md := md) (br := true) (fun i hi => by have := hb i hi; exact ⟨this.1, this.2.1, this.2.2.1, this.2.2.2.1⟩) hD
  have bO := dov_bd (md := md) hv (fun i hi => by have := hb i hi; exact ⟨this.2.2.2.2.1, this.2.2.2.2.2.1, this.2.2.2.2.2.2.1, this.2.2.2.2.2.2.2.1⟩) hD
  have loop := iter_for (body := un3 (fb_M_findNext_11 now (zI (n : Int)) mode un sl ba ss sb)) (F := F) (s := ((0 : Int32), nO0, (0 : Int64)))
    (fun i z => ∃ (nO' : Int64) (nO nU : Int), z = (zI (i : Int), nO', zL nU) ∧ (0 < nU → nO' = zL nO ∧ -(400 * 299269) ≤ nO ∧ nO ≤ 400 * 299269) ∧ nU ≤ 25 * 299269 ∧ NxL i nv md D fr fs dr ds nO nU)
    (fun q => ∃ (nO' : Int64) (nO nU : Int), q = (nO', zL nU) ∧ (0 < nU → nO' = zL nO ∧ -(400 * 299269) ≤ nO ∧ nO ≤ 400 * 299269) ∧ nU ≤ 25 * 299269 ∧ NxL n nv md D fr fs dr ds nO nU) n (by omega)
    ⟨nO0, 0, 0, rfl, fun q => absurd q (by omega), by omega, by omega, fun _ j hj => absurd hj (by omega), fun q => absurd q (by omega)⟩ ?_ ?_
  · obtain ⟨q, e, nO', nO, nU, rfl, h5, h6, h7⟩ := loop
    have hpos : 0 < nU := by
      obtain ⟨i, hi, hi2⟩ := hs
      have hp : 0 < dun md true fr dr i := by
        have := Sol.fpos (geo_nv hv hA hB) (fun i hi => (kW_bd (md := md) hv i hi).1) hS i hi ((kW_pos hv hi).mpr hi2)
        unfold dun
        rcases hi2 with e | e
        · rw [if_neg (by omega), if_pos e]; exact this
        · rw [if_neg (by omega), if_neg (by omega), if_pos ⟨e, rfl⟩]; exact this
      have a := h7.1
      refine Classical.byContradiction fun q => ?_
      have := h7.2.1 (by omega) i hi
      omega
    obtain ⟨p1, p2, p3⟩ := h5 hpos
    refine ⟨D, fr, fs, dr, ds, nO, nU, un, sl, ba, ss, sb, of', be', bs', ma', ?_, hS, hD2, ⟨o1, o2, o3, o4, o5⟩, hpos, h6, p2, p3, h7⟩
    unfold f_M_findNext
    rw [e1]
    simp only [bd9, Option.bind_some]
    rw [e, p1]
    rfl
  · rintro i z hi ⟨nO', nO, nU, rfl, h5, h6, h7⟩
    obtain ⟨m1, m2⟩ := hm i hi
    have v := hv i hi
    have b := hb i hi
    have hu := bU i hi
    have ho := bO i hi
    have OF := fun {q : Nat} (hq : q < 7) => of_z hn h hi hq
    have LA := fun (f : Nat → Int64) => ldA_z (f := f) (j := i) (n := 5) (by omega) (by omega)
    have LI := fun (f : Nat → Int32) => ldA_z (f := f) (j := i) (n := 5) (by omega) (by omega)
    have e0 : mode i = (0 : Int32) ↔ md i = 0 := by
      have := m3_bd (md := md) m2
      rw [m1, i0, zI_eq (by omega) (by omega) (by omega) (by omega), m3_eq (by omega)]
    have e1 : mode i = (1 : Int32) ↔ md i = 1 := by
      have := m3_bd (md := md) m2
      rw [m1, i1, zI_eq (by omega) (by omega) (by omega) (by omega), m3_eq (by omega)]
    have e2 : mode i = (2 : Int32) ↔ md i = 2 := by
      have := m3_bd (md := md) m2
      rw [m1, i2, zI_eq (by omega) (by omega) (by omega) (by omega), m3_eq (by omega)]
    -- one bound that is met
    have key : 0 < dun md true fr dr i → ∀ sl2 ba2 bd2 : Int, dun md true fr dr i = sl2 → dov nv md D fs ds i = bd2 - ba2 → ∃ x, f_M_meets (zL sl2) (zL ba2) (zL bd2) nO' (zL nU) = some x ∧ ∃ (nO'' : Int64) (nO1 nU1 : Int), (zI ((i + 1 : Nat) : Int), x) = (zI ((i + 1 : Nat) : Int), nO'', zL nU1) ∧ (0 < nU1 → nO'' = zL nO1 ∧ -(400 * 299269) ≤ nO1 ∧ nO1 ≤ 400 * 299269) ∧ nU1 ≤ 25 * 299269 ∧ NxL (i + 1) nv md D fr fs dr ds nO1 nU1 := by
      intro hp sl2 ba2 bd2 es ed
      rcases meets_z (s := sl2) (b := ba2) (bd := bd2) (nO := nO) (nU := nU) (nO' := nO') (by omega) (by omega) (by omega) (by omega) h7.1 h6 h5 with ⟨c, e⟩ | ⟨c1, c2, e⟩
      · refine ⟨_, e, zL (bd2 - ba2), bd2 - ba2, sl2, rfl, fun _ => ⟨rfl, by omega, by omega⟩, by omega, ?_⟩
        rw [← ed, ← es]
        exact h7.take hp (by rw [ed, es]; exact c)
      · refine ⟨_, e, nO', nO, nU, rfl, h5, h6, ?_⟩
        exact h7.keep c1 (by rw [ed, es]; exact c2)
    dsimp only [un3]
    unfold fb_M_findNext_11
    rw [if_neg (by rw [zI_le (by omega) (by omega) (by omega) (by omega)]; omega), LI, Option.bind_some]
    by_cases q0 : md i = 0
    · have ed : dun md true fr dr i = dr i := if_pos q0
      have eo : dov nv md D fs ds i = nv i 1 * D - ds i := if_pos q0
      obtain ⟨x, ex, hx⟩ := key (by omega) (dr i) (ds i) (nv i 1 * D) ed eo
      rw [if_pos (e0.mpr q0), LA, Option.bind_some, LA, Option.bind_some, show (1 : Int32) = zI ((1 : Nat) : Int) from rfl, OF (by omega), Option.bind_some, o1, o4 i hi, o5 i hi, zI_l (by omega) (by omega), zL_mul, ex]
      simp only [bd2, Option.bind_some]
      unfold fj_M_findNext_56
      rw [LI, Option.bind_some, if_neg (fun w => by have := e1.mp w; omega)]
      unfold fj_M_findNext_94
      rw [LI, Option.bind_some, if_neg (fun w => by have := e2.mp w; omega)]
      simp only [fj_M_findNext_132, nm, zI_1]
      exact ⟨_, rfl, hx⟩
    · rw [if_neg (fun w => q0 (e0.mp w))]
      unfold fj_M_findNext_56
      rw [LI, Option.bind_some]
      by_cases q1 : md i = 1
      · have ed : dun md true fr dr i = fr i := by unfold dun; rw [if_neg q0, if_pos q1]
        have eo : dov nv md D fs ds i = nv i 2 * D - fs i := by unfold dov; rw [if_neg q0, if_pos q1]
        have hfp := b.2.2.2.2.2.2.2.2 ((kW_pos hv hi).mpr (Or.inl q1))
        obtain ⟨x, ex, hx⟩ := key (by omega) (fr i) (fs i) (nv i 2 * D) ed eo
        rw [if_pos (e1.mpr q1), LA, Option.bind_some, LA, Option.bind_some, show (2 : Int32) = zI ((2 : Nat) : Int) from rfl, OF (by omega), Option.bind_some, o1, o2 i hi, o3 i hi, zI_l (by omega) (by omega), zL_mul, ex]
        simp only [bd2, Option.bind_some]
        unfold fj_M_findNext_94
        rw [LI, Option.bind_some, if_neg (fun w => by have := e2.mp w; omega)]
        simp only [fj_M_findNext_132, nm, zI_1]
        exact ⟨_, rfl, hx⟩
      · rw [if_neg (fun w => q1 (e1.mp w))]
        unfold fj_M_findNext_94
        rw [LI, Option.bind_some]
        by_cases q2 : md i = 2
        · have ed : dun md true fr dr i = fr i := by unfold dun; rw [if_neg q0, if_neg q1, if_pos ⟨q2, rfl⟩]
          have eo : dov nv md D fs ds i = nv i 4 * D - fs i := by unfold dov; rw [if_neg q0, if_neg q1]
          have hfp := b.2.2.2.2.2.2.2.2 ((kW_pos hv hi).mpr (Or.inr q2))
          obtain ⟨x, ex, hx⟩ := key (by omega) (fr i) (fs i) (nv i 4 * D) ed eo
          rw [if_pos (e2.mpr q2), LA, Option.bind_some, LA, Option.bind_some, show (4 : Int32) = zI ((4 : Nat) : Int) from rfl, OF (by omega), Option.bind_some, o1, o2 i hi, o3 i hi, zI_l (by omega) (by omega), zL_mul, ex]
          simp only [bd2, Option.bind_some]
          simp only [fj_M_findNext_132, nm, zI_1]
          exact ⟨_, rfl, hx⟩
        · rw [if_neg (fun w => q2 (e2.mp w))]
          simp only [fj_M_findNext_132, nm, zI_1]
          refine ⟨_, rfl, nO', nO, nU, rfl, h5, h6, h7.skip ?_⟩
          unfold dun
          rw [if_neg q0, if_neg q1, if_neg (fun w => q2 w.1)]
          omega
  · rintro z ⟨nO', nO, nU, rfl, h5, h6, h7⟩
    refine ⟨_, ?_, nO', nO, nU, rfl, h5, h6, h7⟩
    dsimp only [un3]
    unfold fb_M_findNext_11
    rw [if_pos (by rw [zI_le (by omega) (by omega) (by omega) (by omega)]; omega)]
theorem isLive_z (hn : n ≤ 5) {i : Nat} (hi : i < n) (hm : mode i = zI (m3 md i)) (h0 : 0 ≤ md i) : f_M_isLive (zI (i : Int)) mode = some (zI (if md i ≤ 2 then 1 else 0)) := by
  have := m3_bd (md := md) h0
  unfold f_M_isLive
  rw [ldA_z (by omega) (by omega), Option.bind_some, hm]
  by_cases q : md i ≤ 2
  · have e : m3 md i = md i := if_pos q
    rw [if_neg (by rw [i3, zI_eq (by omega) (by omega) (by omega) (by omega)]; omega), if_pos q]; rfl
  · have e : m3 md i = 3 := if_neg q
    rw [if_pos (by rw [e]; rfl), if_neg q]; rfl
theorem isOver_z (hn : n ≤ 5) (hF : 10 < F) (hm : ∀ i, i < n → mode i = zI (m3 md i) ∧ 0 ≤ md i) : ((∃ i, i < n ∧ md i ≤ 2) → f_M_isOver F (zI (n : Int)) mode = some (0 : Int32)) ∧ ((∀ i, i < n → ¬ md i ≤ 2) → f_M_isOver F (zI (n : Int)) mode = some (1 : Int32)) := by
  have loop := iter_up (body := fb_M_isOver_2 (zI (n : Int)) mode)
    (fun i z => z = zI (i : Int) ∧ ∀ j, j < i → ¬ md j ≤ 2)
    (fun q => (q = 0 ∧ ∃ i, i < n ∧ md i ≤ 2) ∨ (q = 1 ∧ ∀ i, i < n → ¬ md i ≤ 2)) n ?_ ?_ n 0 F (0 : Int32) (by omega) (by omega) ⟨rfl, fun j hj => absurd hj (by omega)⟩
  · obtain ⟨q, e, hq⟩ := loop
    unfold f_M_isOver
    rw [e, Option.bind_some]
    rcases hq with ⟨rfl, i, hi, hi2⟩ | ⟨rfl, hq⟩
    · exact ⟨fun _ => rfl, fun w => absurd hi2 (w i hi)⟩
    · exact ⟨fun ⟨i, hi, hi2⟩ => absurd hi2 (hq i hi), fun _ => rfl⟩
  · rintro i z hi ⟨rfl, hz⟩
    unfold fb_M_isOver_2
    rw [if_neg (by rw [zI_le (by omega) (by omega) (by omega) (by omega)]; omega), isLive_z hn hi (hm i hi).1 (hm i hi).2, Option.bind_some]
    by_cases q : md i ≤ 2
    · right
      rw [if_pos q, if_neg (by decide)]
      exact ⟨_, rfl, Or.inl ⟨rfl, i, hi, q⟩⟩
    · left
      rw [if_neg q, if_pos (show zI 0 = 0 from rfl)]
      simp only [nm, zI_1]
      refine ⟨_, rfl, rfl, fun j hj => ?_⟩
      by_cases e : j = i
      · subst e; exact q
      · exact hz j (by omega)
  · rintro z ⟨rfl, hz⟩
    unfold fb_M_isOver_2
    rw [if_pos (by rw [zI_le (by omega) (by omega) (by omega) (by omega)]; omega)]
    exact ⟨_, rfl, Or.inr ⟨rfl, hz⟩⟩
theorem mnote_z (hn : n ≤ 5) {L : List (Int × Nat × Int × Int)} {tot : Int32} {kd wh : Nat → Int32} {ov un : Nat → Int64} (h : EvZ L tot kd wh ov un) (hL : L.length < 32) (a : Int) {i : Nat} (hi : i < n) (P Q : Int) (had : Nat → Int32) :
    ∃ tot' kd' wh' ov' un', f_M_note (zI a) (zI (i : Int)) (zL P) (zL Q) tot kd wh ov un had = some (tot', kd', wh', ov', un', upd had i (had i ||| ((1 : Int32) <<< (zI a &&& 31)))) ∧ EvZ (L ++ [(a, i, P, Q)]) tot' kd' wh' ov' un' := by
  refine ⟨_, _, _, _, _, ?_, h.add a i P Q⟩
  unfold f_M_note
  rw [h.1, stI_z hL (by omega), Option.bind_some, stI_z hL (by omega), Option.bind_some, stL_z hL (by omega), Option.bind_some, stL_z hL (by omega), Option.bind_some]
  simp only [nm]
  rw [ldA_z (by omega) (by omega), Option.bind_some, stI_z (by omega) (by omega), Option.bind_some, zI_1]
end MNEXT
