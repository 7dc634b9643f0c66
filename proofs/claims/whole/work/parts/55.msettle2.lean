section MSETTLE2
variable {n : Nat} {nv : Nat → Nat → Int} {A B : Int} {now mode : Nat → Int32} {md : Nat → Int} {F : Nat} {m : Nat} {P Q : Int}
theorem forceThere_z (hn : n ≤ 5) {fr fs : Nat → Int} {sl ba : Nat → Int64} (h2 : ∀ i, i < n → sl i = zL (fr i)) (h3 : ∀ i, i < n → ba i = zL (fs i)) {i : Nat} (hi : i < n) (P Q : Int) : f_M_forceThere (zI (i : Int)) sl ba (zL P) (zL Q) = some (zL (fr i * P + fs i * Q)) := by
  unfold f_M_forceThere
  rw [ldA_z (by omega) (by omega), Option.bind_some, ldA_z (by omega) (by omega), Option.bind_some, h2 i hi, h3 i hi, zL_mul, zL_mul, zL_add]
theorem slipThere_z (hn : n ≤ 5) {dr ds : Nat → Int} {ss sb : Nat → Int64} (h2 : ∀ i, i < n → ss i = zL (dr i)) (h3 : ∀ i, i < n → sb i = zL (ds i)) {i : Nat} (hi : i < n) (P Q : Int) : f_M_slipThere (zI (i : Int)) ss sb (zL P) (zL Q) = some (zL (dr i * P + ds i * Q)) := by
  unfold f_M_slipThere
  rw [ldA_z (by omega) (by omega), Option.bind_some, ldA_z (by omega) (by omega), Option.bind_some, h2 i hi, h3 i hi, zL_mul, zL_mul, zL_add]
theorem unitThere_z (D Q : Int) : f_M_unitThere (zL D) (zL Q) = some (zL (D * Q)) := by unfold f_M_unitThere; rw [zL_mul]
/-- forces and slips at a load fit -/
theorem there_bd (hn : n ≤ 5) (hv : NvOk n nv) (hA : 0 ≤ A ∧ A ≤ 2) (hB : 0 ≤ B ∧ B ≤ 2) {D : Int} {fr fs dr ds : Nat → Int} (hS : Lns n nv A B md D fr fs dr ds) (hD2 : D ≤ 299269) (hP : 0 ≤ P ∧ P ≤ 400 * 299269) (hQ : 0 < Q ∧ Q ≤ 25 * 299269) {i : Nat} (hi : i < n) :
    (-10000000000000000 ≤ fr i * P + fs i * Q ∧ fr i * P + fs i * Q ≤ 10000000000000000) ∧ (-10000000000000000 ≤ dr i * P + ds i * Q ∧ dr i * P + ds i * Q ≤ 10000000000000000) ∧ 0 < D * Q ∧ D * Q ≤ 10000000000000 := by
  have b := sol_bounds hn hv hA hB hS i hi
  have hD := hS.1
  have c1 := abs_mul_bd (a := fr i) (b := P) (x := 299269) (y := 400 * 299269) (by omega) (by omega) (by omega) (by omega)
  have c2 := abs_mul_bd (a := fs i) (b := Q) (x := 249 * 299269) (y := 25 * 299269) (by omega) (by omega) (by omega) (by omega)
  have c3 := abs_mul_bd (a := dr i) (b := P) (x := 25 * 299269) (y := 400 * 299269) (by omega) (by omega) (by omega) (by omega)
  have c4 := abs_mul_bd (a := ds i) (b := Q) (x := 240 * 299269) (y := 25 * 299269) (by omega) (by omega) (by omega) (by omega)
  have c5 := abs_mul_bd (a := D) (b := Q) (x := 299269) (y := 25 * 299269) (by omega) (by omega) (by omega) (by omega)
  have c6 := Int.mul_pos hD hQ.1
  omega
def Str1 (nv : Nat → Nat → Int) (md : Nat → Int) (D : Int) (fr fs dr ds : Nat → Int) (P Q : Int) (i : Nat) : Prop :=
  (md i = 0 → dr i * P + ds i * Q ≤ nv i 1 * (D * Q)) ∧ (md i = 1 → 0 < fr i * P + fs i * Q ∧ fr i * P + fs i * Q ≤ nv i 2 * (D * Q)) ∧ (md i = 2 → nv i 2 * (D * Q) < fr i * P + fs i * Q)
theorem isSo_z (hn : n ≤ 5) (hF : 40 < F) (hv : NvOk n nv) (hA : 0 ≤ A ∧ A ≤ 2) (hB : 0 ≤ B ∧ B ≤ 2) (h : ∀ i, i < n → ∀ q, q < 7 → now (7 * i + q) = zI (nv i q)) (hm : ∀ i, i < n → mode i = zI (m3 md i) ∧ 0 ≤ md i) (hs : ∃ i, i < n ∧ (md i = 1 ∨ md i = 2)) (hP : 0 ≤ P ∧ P ≤ 400 * 299269) (hQ : 0 < Q ∧ Q ≤ 25 * 299269)
    (un0 : Int64) (sl0 ba0 ss0 sb0 of0 : Nat → Int64) (be0 : Nat → Int32) (bs0 : Int32) (ma0 : Nat → Int64) :
    ∃ (r : Int32) (D : Int) (fr fs dr ds : Nat → Int) (un : Int64) (sl ba ss sb of' : Nat → Int64) (be' : Nat → Int32) (bs' : Int32) (ma' : Nat → Int64), f_M_isSo F now (zI (n : Int)) (zI A) (zI B) mode un0 sl0 ba0 ss0 sb0 of0 be0 bs0 ma0 (zL P) (zL Q) = some (r, un, sl, ba, ss, sb, of', be', bs', ma') ∧ Lns n nv A B md D fr fs dr ds ∧ D ≤ 299269 ∧ SOk n D fr fs dr ds un sl ba ss sb ∧
      ((r = 1 ∧ Strict n nv md D fr fs dr ds P Q) ∨ (r = 0 ∧ ¬ Strict n nv md D fr fs dr ds P Q)) := by
  obtain ⟨D, fr, fs, dr, ds, un, sl, ba, ss, sb, of', be', bs', ma', e1, hS, hD2, hSO⟩ := msolve_z (F := F) hn hF hv hA hB h hm hs un0 sl0 ba0 ss0 sb0 of0 be0 bs0 ma0
  obtain ⟨o1, o2, o3, o4, o5⟩ := hSO
  have hD := hS.1
  have loop := iter_up (body := fb_M_isSo_6 now (zI (n : Int)) mode un sl ba ss sb (zL P) (zL Q))
    (fun i z => z = zI (i : Int) ∧ ∀ j, j < i → Str1 nv md D fr fs dr ds P Q j)
    (fun q => (q = 3 ∧ ∀ j, j < n → Str1 nv md D fr fs dr ds P Q j) ∨ ((q = 0 ∨ q = 1 ∨ q = 2) ∧ ∃ j, j < n ∧ ¬ Str1 nv md D fr fs dr ds P Q j)) n ?_ ?_ n 0 F (0 : Int32) (by omega) (by omega) ⟨rfl, fun j hj => absurd hj (by omega)⟩
  · obtain ⟨q, e, hq⟩ := loop
    rcases hq with ⟨rfl, hq⟩ | ⟨hq, j, hj, hj2⟩
    · refine ⟨1, D, fr, fs, dr, ds, un, sl, ba, ss, sb, of', be', bs', ma', ?_, hS, hD2, ⟨o1, o2, o3, o4, o5⟩, Or.inl ⟨rfl, hq⟩⟩
      unfold f_M_isSo
      rw [e1]
      simp only [bd9, Option.bind_some]
      rw [e]
      rfl
    · refine ⟨0, D, fr, fs, dr, ds, un, sl, ba, ss, sb, of', be', bs', ma', ?_, hS, hD2, ⟨o1, o2, o3, o4, o5⟩, Or.inr ⟨rfl, fun w => hj2 (w j hj)⟩⟩
      unfold f_M_isSo
      rw [e1]
      simp only [bd9, Option.bind_some]
      rw [e]
      rcases hq with rfl | rfl | rfl <;> rfl
  · rintro i z hi ⟨rfl, hz⟩
    obtain ⟨m1, m2⟩ := hm i hi
    have v := hv i hi
    obtain ⟨tb1, tb2, tb3, tb4⟩ := there_bd hn hv hA hB hS hD2 hP hQ hi
    have OF := fun {q : Nat} (hq : q < 7) => of_z hn h hi hq
    have LI := fun (f : Nat → Int32) => ldA_z (f := f) (j := i) (n := 5) (by omega) (by omega)
    have e0 : mode i = (0 : Int32) ↔ md i = 0 := by
      have := m3_bd (md := md) m2
      rw [m1, i0, zI_eq (by omega) (by omega) (by omega) (by omega), m3_eq (by omega)]
    have e1' : mode i = (1 : Int32) ↔ md i = 1 := by
      have := m3_bd (md := md) m2
      rw [m1, i1, zI_eq (by omega) (by omega) (by omega) (by omega), m3_eq (by omega)]
    have e2 : mode i = (2 : Int32) ↔ md i = 2 := by
      have := m3_bd (md := md) m2
      rw [m1, i2, zI_eq (by omega) (by omega) (by omega) (by omega), m3_eq (by omega)]
    have b1 := mul_bd (show 0 ≤ nv i 1 by omega) (show 0 ≤ D * Q by omega) (show nv i 1 ≤ 60 by omega) (show D * Q ≤ 10000000000000 by omega)
    have b2 := mul_bd (show 0 ≤ nv i 2 by omega) (show 0 ≤ D * Q by omega) (show nv i 2 ≤ 60 by omega) (show D * Q ≤ 10000000000000 by omega)
    have good : Str1 nv md D fr fs dr ds P Q i → ∀ j, j < i + 1 → Str1 nv md D fr fs dr ds P Q j := fun w j hj => by
      by_cases e : j = i
      · subst e; exact w
      · exact hz j (by omega)
    unfold fb_M_isSo_6
    rw [if_neg (by rw [zI_le (by omega) (by omega) (by omega) (by omega)]; omega), LI, Option.bind_some]
    by_cases q0 : md i = 0
    · rw [if_pos (e0.mpr q0), slipThere_z hn o4 o5 hi, Option.bind_some, show (1 : Int32) = zI ((1 : Nat) : Int) from rfl, OF (by omega), Option.bind_some, o1, unitThere_z, Option.bind_some, zI_l (by omega) (by omega), zL_mul]
      by_cases c : dr i * P + ds i * Q ≤ nv i 1 * (D * Q)
      · left
        rw [if_pos (by rw [zL_le (by omega) (by omega) (by omega) (by omega)]; exact c)]
        unfold fj_M_isSo_46
        rw [LI, Option.bind_some, if_neg (fun w => by have := e1'.mp w; omega)]
        unfold fj_M_isSo_89
        rw [LI, Option.bind_some, if_neg (fun w => by have := e2.mp w; omega)]
        simp only [fj_M_isSo_122, nm, zI_1]
        exact ⟨_, rfl, rfl, good ⟨fun _ => c, fun w => by omega, fun w => by omega⟩⟩
      · right
        rw [if_neg (by rw [zL_le (by omega) (by omega) (by omega) (by omega)]; exact c)]
        exact ⟨_, rfl, Or.inr ⟨Or.inl rfl, i, hi, fun w => c (w.1 q0)⟩⟩
    · rw [if_neg (fun w => q0 (e0.mp w))]
      unfold fj_M_isSo_46
      rw [LI, Option.bind_some]
      by_cases q1 : md i = 1
      · rw [if_pos (e1'.mpr q1), forceThere_z hn o2 o3 hi, Option.bind_some]
        by_cases c : fr i * P + fs i * Q ≤ 0
        · right
          rw [if_pos (by rw [l0z, zL_le (by omega) (by omega) (by omega) (by omega)]; exact c)]
          exact ⟨_, rfl, Or.inr ⟨Or.inr (Or.inl rfl), i, hi, fun w => by have := (w.2.1 q1).1; omega⟩⟩
        · rw [if_neg (by rw [l0z, zL_le (by omega) (by omega) (by omega) (by omega)]; exact c), Option.bind_some, show (2 : Int32) = zI ((2 : Nat) : Int) from rfl, OF (by omega), Option.bind_some, o1, unitThere_z, Option.bind_some, zI_l (by omega) (by omega), zL_mul]
          by_cases c2 : fr i * P + fs i * Q ≤ nv i 2 * (D * Q)
          · left
            rw [if_pos (by rw [zL_le (by omega) (by omega) (by omega) (by omega)]; exact c2)]
            unfold fj_M_isSo_89
            rw [LI, Option.bind_some, if_neg (fun w => by have := e2.mp w; omega)]
            simp only [fj_M_isSo_122, nm, zI_1]
            exact ⟨_, rfl, rfl, good ⟨fun w => by omega, fun _ => ⟨by omega, c2⟩, fun w => by omega⟩⟩
          · right
            rw [if_neg (by rw [zL_le (by omega) (by omega) (by omega) (by omega)]; exact c2)]
            exact ⟨_, rfl, Or.inr ⟨Or.inr (Or.inl rfl), i, hi, fun w => c2 (w.2.1 q1).2⟩⟩
      · rw [if_neg (fun w => q1 (e1'.mp w))]
        unfold fj_M_isSo_89
        rw [LI, Option.bind_some]
        by_cases q2 : md i = 2
        · rw [if_pos (e2.mpr q2), forceThere_z hn o2 o3 hi, Option.bind_some, show (2 : Int32) = zI ((2 : Nat) : Int) from rfl, OF (by omega), Option.bind_some, o1, unitThere_z, Option.bind_some, zI_l (by omega) (by omega), zL_mul]
          by_cases c2 : nv i 2 * (D * Q) < fr i * P + fs i * Q
          · left
            rw [if_pos (by rw [zL_lt (by omega) (by omega) (by omega) (by omega)]; exact c2)]
            simp only [fj_M_isSo_122, nm, zI_1]
            exact ⟨_, rfl, rfl, good ⟨fun w => by omega, fun w => by omega, fun _ => c2⟩⟩
          · right
            rw [if_neg (by rw [zL_lt (by omega) (by omega) (by omega) (by omega)]; exact c2)]
            exact ⟨_, rfl, Or.inr ⟨Or.inr (Or.inr rfl), i, hi, fun w => c2 (w.2.2 q2)⟩⟩
        · left
          rw [if_neg (fun w => q2 (e2.mp w))]
          simp only [fj_M_isSo_122, nm, zI_1]
          exact ⟨_, rfl, rfl, good ⟨fun w => absurd w q0, fun w => absurd w q1, fun w => absurd w q2⟩⟩
  · rintro z ⟨rfl, hz⟩
    unfold fb_M_isSo_6
    rw [if_pos (by rw [zI_le (by omega) (by omega) (by omega) (by omega)]; omega)]
    exact ⟨_, rfl, Or.inl ⟨rfl, hz⟩⟩
theorem msettle_z (hn : n ≤ 5) (hF : 300 < F) (hv : NvOk n nv) (hA : 0 ≤ A ∧ A ≤ 2) (hB : 0 ≤ B ∧ B ≤ 2) (h : ∀ i, i < n → ∀ q, q < 7 → now (7 * i + q) = zI (nv i q)) (hL : Lvm n m mode) {mw : Nat → Int} {D0 : Int} {fr0 fs0 dr0 ds0 : Nat → Int} (hat : At n nv A B m mw D0 fr0 fs0 dr0 ds0 P Q) (hP : 0 < P ∧ P ≤ 400 * 299269) (hQ : 0 < Q ∧ Q ≤ 25 * 299269)
    (un0 : Int64) (sl0 ba0 ss0 sb0 of0 : Nat → Int64) (be0 : Nat → Int32) (bs0 : Int32) (ma0 : Nat → Int64) :
    ∃ (mode' : Nat → Int32) (D : Int) (fr fs dr ds : Nat → Int) (un : Int64) (sl ba ss sb of' : Nat → Int64) (be' : Nat → Int32) (bs' : Int32) (ma' : Nat → Int64), f_M_settle F now (zI (n : Int)) (zI A) (zI B) mode un0 sl0 ba0 ss0 sb0 of0 be0 bs0 ma0 (zL P) (zL Q) = some (mode', un, sl, ba, ss, sb, of', be', bs', ma') ∧ (∀ i, i < n → mode' i = zI (m3 mw i)) ∧ At n nv A B m mw D fr fs dr ds P Q ∧ SOk n D fr fs dr ds un sl ba ss sb := by
  have hmw : Mds n nv m mw := ⟨hat.2.2.1, hat.2.2.2.1⟩
  have hpw := pw_le m n
  have h3 : 3 ^ n ≤ 3 ^ 5 := Nat.pow_le_pow_right (by omega) hn
  have h35 : 3 ^ 5 = 243 := rfl
  obtain ⟨cd, c1, c2⟩ := code_ex (m := m) (md := mw) n hmw.1
  have hcd : 1 ≤ cd := by
    refine Classical.byContradiction fun q => ?_
    have hz : cd = 0 := by omega
    obtain ⟨i, hi, hk⟩ := hat.1.some (fun i hi => (kW_bd (md := mw) hv i hi).1)
    have hk2 := (kW_pos hv hi).mp hk
    have := c2 i hi (hmw.test hi (by omega))
    rw [hz, Nat.zero_div] at this
    simp at this
    omega
  have exd : ∀ i, i < n → xd nv m cd i = mw i := fun i hi => by
    unfold xd
    by_cases q : m.testBit i = true
    · rw [if_pos q]; exact c2 i hi q
    · rw [if_neg q]; exact (hmw.2 i hi (by simpa using q)).symm
  have loop := iter_dn (body := un12 (fb_M_settle_38 F (zI (pw m n : Int)) now (zI (n : Int)) (zI A) (zI B) (zL P) (zL Q)))
    (fun M z => ∃ (w : Nat) (r : Int32) (mode : Nat → Int32) (un : Int64) (sl ba ss sb of' : Nat → Int64) (be' : Nat → Int32) (bs' : Int32) (ma' : Nat → Int64), z = (zI (w : Int), r, mode, un, sl, ba, ss, sb, of', be', bs', ma') ∧ Lvm n m mode ∧
      ((r = 0 ∧ 1 ≤ w ∧ w + M = cd + 1 ∧ 1 ≤ M) ∨ (r = 1 ∧ M = 0 ∧ (∀ i, i < n → mode i = zI (m3 mw i)) ∧ ∃ (D : Int) (fr fs dr ds : Nat → Int), At n nv A B m mw D fr fs dr ds P Q ∧ SOk n D fr fs dr ds un sl ba ss sb)))
    (fun q => ∃ (mode : Nat → Int32) (un : Int64) (sl ba ss sb of' : Nat → Int64) (be' : Nat → Int32) (bs' : Int32) (ma' : Nat → Int64), q = (mode, un, sl, ba, ss, sb, of', be', bs', ma') ∧ (∀ i, i < n → mode i = zI (m3 mw i)) ∧ ∃ (D : Int) (fr fs dr ds : Nat → Int), At n nv A B m mw D fr fs dr ds P Q ∧ SOk n D fr fs dr ds un sl ba ss sb)
    ?_ F cd ((1 : Int32), (0 : Int32), mode, un0, sl0, ba0, ss0, sb0, of0, be0, bs0, ma0) (by omega) ⟨1, 0, mode, un0, sl0, ba0, ss0, sb0, of0, be0, bs0, ma0, rfl, hL, Or.inl ⟨rfl, Nat.le_refl _, by omega, hcd⟩⟩
  · obtain ⟨q, e, mode', un, sl, ba, ss, sb, of', be', bs', ma', rfl, hm', D, fr, fs, dr, ds, hA', hS'⟩ := loop
    refine ⟨mode', D, fr, fs, dr, ds, un, sl, ba, ss, sb, of', be', bs', ma', ?_, hm', hA', hS'⟩
    unfold f_M_settle
    rw [ways_z hn (by omega) hL, Option.bind_some, e]
    rfl
  · rintro M z ⟨w, r, mode, un, sl, ba, ss, sb, of', be', bs', ma', rfl, hL, hc⟩
    dsimp only [un12]
    unfold fb_M_settle_38
    rcases hc with ⟨rfl, w1, w2, w3⟩ | ⟨rfl, w1, w2, D, fr, fs, dr, ds, w3, w4⟩
    · right
      rw [if_pos rfl, if_neg (by rw [zI_le (by omega) (by omega) (by omega) (by omega)]; omega)]
      obtain ⟨mode2, ed, hd⟩ := digits_z (F := F) (nv := nv) hn (by omega) hL (w := w) (by omega)
      have hxm := xd_mds n nv m w
      have hbear : ∃ i, i < n ∧ (xd nv m w i = 1 ∨ xd nv m w i = 2) := by
        refine Classical.byContradiction fun hno => ?_
        have : w = 0 := code_zero (m := m) n (by omega) (fun i hi hl => by
          have e : xd nv m w i = ((w / pw m i % 3 : Nat) : Int) := if_pos hl
          have b := hxm.1 i hi hl
          refine Classical.byContradiction fun hne => hno ⟨i, hi, by omega⟩)
        omega
      obtain ⟨r2, D, fr, fs, dr, ds, un2, sl2, ba2, ss2, sb2, of2, be2, bs2, ma2, ei, hS, hD2, hSO, hr⟩ := isSo_z (F := F) (P := P) (Q := Q) hn (by omega) hv hA hB h (fun i hi => ⟨hd i hi, (hxm.bd i hi).1⟩) hbear ⟨by omega, hP.2⟩ hQ un sl ba ss sb of' be' bs' ma'
      rw [ed, Option.bind_some, ei]
      simp only [bd10, Option.bind_some, nm, zI_1]
      rcases hr with ⟨rfl, hst⟩ | ⟨rfl, hst⟩
      · have hat2 : At n nv A B m (xd nv m w) D fr fs dr ds P Q := ⟨hS, hD2, hxm.1, hxm.2, hst.near, fun _ => hst, fun e => by omega⟩
        have e := hat2.one hv hA hB hP.1 hQ.1 hat
        refine ⟨0, _, by omega, rfl, w + 1, 1, mode2, un2, sl2, ba2, ss2, sb2, of2, be2, bs2, ma2, rfl, hxm.lvm hd, Or.inr ⟨rfl, rfl, fun i hi => ?_, D, fr, fs, dr, ds, hat2.congr e, hSO⟩⟩
        rw [hd i hi]
        unfold m3
        rw [e i hi]
      · have hne : w ≠ cd := fun e => by
          subst e
          refine hst (Strict.sc hv hA hB (Lns.congr hat.1 exd) hS ((hat.2.2.2.2.2.1 hP.1).congr exd))
        refine ⟨M - 1, _, by omega, rfl, w + 1, 0, mode2, un2, sl2, ba2, ss2, sb2, of2, be2, bs2, ma2, rfl, hxm.lvm hd, Or.inl ⟨rfl, by omega, by omega, by omega⟩⟩
    · left
      rw [if_neg (by decide)]
      exact ⟨_, rfl, mode, un, sl, ba, ss, sb, of', be', bs', ma', rfl, w2, D, fr, fs, dr, ds, w3, w4⟩
end MSETTLE2
