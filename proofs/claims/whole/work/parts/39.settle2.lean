/-! SETTLES: the loop -/
theorem iter_dn {σ ρ : Type} {body : σ → Option (σ ⊕ ρ)} (I : Nat → σ → Prop) (X : ρ → Prop) (step : ∀ m s, I m s → (∃ r, body s = some (.inr r) ∧ X r) ∨ ∃ m' s', m' < m ∧ body s = some (.inl s') ∧ I m' s') : ∀ (F m : Nat) (s : σ), m < F → I m s → ∃ r, iter body F s = some r ∧ X r := by
  intro F
  induction F with
  | zero => intro m s h; omega
  | succ F ih =>
    intro m s hm hI
    rcases step m s hI with ⟨r, e, h⟩ | ⟨m', s', hlt, e, h⟩
    · refine ⟨r, ?_, h⟩
      simp only [iter, e]
    · obtain ⟨r, e2, h2⟩ := ih m' s' (by omega) h
      refine ⟨r, ?_, h2⟩
      simp only [iter, e]
      exact e2
/-- how often bolts can still change their ways -/
def mes (md : Nat → Int) : Nat → Nat
  | 0 => 0
  | i + 1 => mes md i + (2 - md i).toNat
theorem mes_le {md md' : Nat → Int} {n : Nat} (h : ∀ i, i < n → md i ≤ md' i) : mes md' n ≤ mes md n := by
  induction n with
  | zero => exact Nat.le_refl _
  | succ n ih =>
    have := ih (fun i hi => h i (by omega))
    have := h n (by omega)
    simp only [mes]; omega
theorem mes_lt {md md' : Nat → Int} {n : Nat} (h : ∀ i, i < n → md i ≤ md' i) {i : Nat} (hi : i < n) (h1 : md i < md' i) (h2 : md i < 2) : mes md' n < mes md n := by
  induction n with
  | zero => omega
  | succ n ih =>
    have q := h n (by omega)
    simp only [mes]
    by_cases e : i = n
    · subst e
      have := mes_le (n := i) (fun j hj => h j (by omega))
      omega
    · have := ih (fun j hj => h j (by omega)) (by omega)
      omega
theorem mes_bd {md : Nat → Int} {n : Nat} (h : ∀ i, i < n → 0 ≤ md i) : mes md n ≤ 2 * n := by
  induction n with
  | zero => exact Nat.le_refl _
  | succ n ih =>
    have := ih (fun i hi => h i (by omega))
    have := h n (by omega)
    simp only [mes]; omega
/-- the ways of those told by bits, none other, and those ones' lines, at a load -/
def At (n : Nat) (nv : Nat → Nat → Int) (A B : Int) (m : Nat) (md : Nat → Int) (D : Int) (fr fs dr ds : Nat → Int) (x y : Int) : Prop :=
  Sol n (fun i => nv i 6) A B (kW nv md) (rW nv md) D fr fs dr ds ∧ D ≤ 299269 ∧ (∀ i, i < n → m.testBit i = true → 0 ≤ md i ∧ md i ≤ 2) ∧ (∀ i, i < n → m.testBit i = false → md i = if nv i 5 = 0 then 3 else 4) ∧ Near n nv md D fr fs dr ds x y ∧ (0 < x → Strict n nv md D fr fs dr ds x y) ∧ (x = 0 → ∃ k, Lst n nv m k ∧ ∀ i, i < n → md i = mdS nv m k i)
section SETTLE2
variable {n : Nat} {nv : Nat → Nat → Int} {A B : Int} {F : Nat} {g c y s u pit o : Nat → Int32} {m : Nat} {lO lU : Int}
theorem settle_z (hn : n ≤ 5) (hF : 20 < F) (hv : NvOk n nv) (hA : 0 ≤ A ∧ A ≤ 2) (hB : 0 ≤ B ∧ B ≤ 2) (J : JOk n nv g c y s u pit) (ho : ∀ i, i < n → o i = zI (nv i 5)) (hm : m < 32) (hm1 : ∃ i, i < n ∧ m.testBit i = true)
    (hO : 0 ≤ lO) (hO2 : lO ≤ 40000000000) (hU : 0 < lU) (hU2 : lU ≤ 40000000000)
    (way : Nat → Int32) (dO0 dU0 : Nat → Int64) (sO0 sU0 : Int64) (st0 : Nat → Int32) (re0 fr0 fs0 dr0 ds0 : Nat → Int64) (un0 : Int64) (bf0 bl0 ba0 sc0 : Nat → Int64) (fR0 fS0 : Int64) :
    ∃ (way' : Nat → Int32) (dO dU : Nat → Int64) (sO' sU' : Int64) (st : Nat → Int32) (re fr' fs' dr' ds' : Nat → Int64) (un : Int64) (bf bl ba sc : Nat → Int64) (fR fS : Int64) (md : Nat → Int) (D : Int) (fr fs dr ds : Nat → Int),
      f_G_settle F (zI (m : Int)) (zL lO) (zL lU) way dO0 dU0 sO0 sU0 st0 re0 fr0 fs0 dr0 ds0 un0 bf0 bl0 ba0 sc0 fR0 fS0 g c y s u o pit (zI (n : Int)) (zI A) (zI B) = some (way', dO, dU, sO', sU', st, re, fr', fs', dr', ds', un, bf, bl, ba, sc, fR, fS) ∧
      At n nv A B m md D fr fs dr ds lO lU ∧ (∀ i, i < n → way' i = zI (md i)) ∧ un = zL D ∧ (∀ i, i < n → fr' i = zL (fr i)) ∧ (∀ i, i < n → fs' i = zL (fs i)) ∧ (∀ i, i < n → dr' i = zL (dr i)) ∧ (∀ i, i < n → ds' i = zL (ds i)) := by
  obtain ⟨k, way1, e1, hk, hw1⟩ := start_z (F := F) hn (by omega) hv J.2.1 ho hm way
  have loop := iter_dn (body := un19 (fb_G_settle_8 F (zL lO) (zL lU) g c y s u pit (zI (n : Int)) (zI A) (zI B)))
    (fun M z => ∃ (j : Int) (way : Nat → Int32) (dO dU : Nat → Int64) (sO sU : Int64) (st : Nat → Int32) (re fr fs dr ds : Nat → Int64) (un : Int64) (bf bl ba sc : Nat → Int64) (fR fS : Int64) (md : Nat → Int) (P Q : Int),
      z = (zI j, way, dO, dU, sO, sU, st, re, fr, fs, dr, ds, un, bf, bl, ba, sc, fR, fS) ∧ 0 ≤ j ∧ j + (M : Int) ≤ 10 ∧ mes md n = M ∧ (∀ i, i < n → way i = zI (md i)) ∧ (∀ i, i < n → m.testBit i = true → 0 ≤ md i ∧ md i ≤ 2) ∧ (∀ i, i < n → m.testBit i = false → md i = if nv i 5 = 0 then 3 else 4) ∧ (∃ i, i < n ∧ (md i = 1 ∨ md i = 2)) ∧
      0 ≤ P ∧ 0 < Q ∧ (P * lU < lO * Q ∨ (P = 0 ∧ lO = 0 ∧ ∀ i, i < n → md i = mdS nv m k i)) ∧ ∀ D fr fs dr ds, Sol n (fun i => nv i 6) A B (kW nv md) (rW nv md) D fr fs dr ds → Near n nv md D fr fs dr ds P Q)
    (fun r => ∃ (way' : Nat → Int32) (dO dU : Nat → Int64) (sO' sU' : Int64) (st : Nat → Int32) (re fr' fs' dr' ds' : Nat → Int64) (un : Int64) (bf bl ba sc : Nat → Int64) (fR fS : Int64) (md : Nat → Int) (D : Int) (fr fs dr ds : Nat → Int),
      r = (0, way', dO, dU, sO', sU', st, re, fr', fs', dr', ds', un, bf, bl, ba, sc, fR, fS) ∧
      At n nv A B m md D fr fs dr ds lO lU ∧ (∀ i, i < n → way' i = zI (md i)) ∧ un = zL D ∧ (∀ i, i < n → fr' i = zL (fr i)) ∧ (∀ i, i < n → fs' i = zL (fs i)) ∧ (∀ i, i < n → dr' i = zL (dr i)) ∧ (∀ i, i < n → ds' i = zL (ds i)))
    ?_ F (mes (mdS nv m k) n) ((0 : Int32), way1, dO0, dU0, sO0, sU0, st0, re0, fr0, fs0, dr0, ds0, un0, bf0, bl0, ba0, sc0, fR0, fS0) ?_ ?_
  · obtain ⟨r, e2, way', dO, dU, sO', sU', st, re, fr', fs', dr', ds', un, bf, bl, ba, sc, fR, fS, md, D, fr, fs, dr, ds, rfl, h⟩ := loop
    refine ⟨way', dO, dU, sO', sU', st, re, fr', fs', dr', ds', un, bf, bl, ba, sc, fR, fS, md, D, fr, fs, dr, ds, ?_, h⟩
    unfold f_G_settle
    rw [e1, Option.bind_some, e2]
    rfl
  · rintro M z ⟨j, way, dO, dU, sO, sU, st, re, fr, fs, dr, ds, un, bf, bl, ba, sc, fR, fS, md, P, Q, rfl, hj, hjM, hM, hw, hb, hb', hex, hP, hQ, hlt, hN⟩
    have hmd : ∀ i, i < n → 0 ≤ md i ∧ md i ≤ 4 := fun i hi => by
      by_cases b : m.testBit i = true
      · have := hb i hi b; omega
      · have := hb' i hi (by simpa using b)
        by_cases q : nv i 5 = 0
        · rw [if_pos q] at this; omega
        · rw [if_neg q] at this; omega
    obtain ⟨D, fr1, fs1, dr1, ds1, sO1, sU1, dO', dU', sO', st', re', fr', fs', dr', ds', bf', bl', ba', sc', fR', fS', e2, hS, hD2, h1, h2, h3, h4, hsO, hd, hsU, hsO2⟩ :=
      seek_z (F := F) hn hF hv hA hB J (fun i hi => ⟨hw i hi, hmd i hi⟩) false hex dO dU sO sU st re fr fs dr ds un bf bl ba sc fR fS
    have hb8 := fun i hi => by
      have := sol_bounds hn hv hA hB hS i hi
      exact (⟨this.1, this.2.1, this.2.2.1, this.2.2.2.1, this.2.2.2.2.1, this.2.2.2.2.2.1, this.2.2.2.2.2.2.1, this.2.2.2.2.2.2.2.1⟩ : 0 ≤ fr1 i ∧ fr1 i ≤ D ∧ 0 < dr1 i ∧ dr1 i ≤ 25 * D ∧ -(249 * D) ≤ fs1 i ∧ fs1 i ≤ 249 * D ∧ -(240 * D) ≤ ds1 i ∧ ds1 i ≤ 9 * D)
    have hNN := hN D fr1 fs1 dr1 ds1 hS
    have hPl : P * lU ≤ lO * Q := by
      rcases hlt with h | ⟨h, h', -⟩
      · omega
      · rw [h, h']; omega
    have fin : Till n nv md D fr1 fs1 dr1 ds1 lO lU → At n nv A B m md D fr1 fs1 dr1 ds1 lO lU := fun ht => by
      obtain ⟨a1, a2⟩ := hNN.go hv hA hB hS hQ hU hPl ht
      refine ⟨hS, hD2, hb, hb', a1, fun h0 => ?_, fun h0 => ?_⟩
      · rcases hlt with h | ⟨-, h', -⟩
        · exact a2 h
        · omega
      · rcases hlt with h | ⟨-, -, h'⟩
        · have := Int.mul_nonneg hP (show 0 ≤ lU by omega)
          rw [h0] at h; omega
        · exact ⟨k, hk, h'⟩
    dsimp only [un19]
    unfold fb_G_settle_8
    rw [if_neg (by rw [show (15 : Int32) = zI 15 from rfl, zI_lt (by omega) (by omega) (by omega) (by omega)]; omega), show (0 : Int32) = zI (if false = true then 1 else 0) from rfl, e2]
    simp only [bd18, Option.bind_some]
    have hs0 := hd.2.1
    by_cases q : 0 < sU1
    · rw [if_pos q, if_neg (by decide), hsO q, zL_mul, zL_mul]
      have hs2 := hsO2 q
      have c1 := abs_mul_bd (a := sO1) (b := lU) (x := 400 * 299269) (y := 40000000000) (by omega) (by omega) (by omega) (by omega)
      have c2 := abs_mul_bd (a := lO) (b := sU1) (x := 40000000000) (y := 25 * 299269) (by omega) (by omega) (by omega) (by omega)
      by_cases q2 : sO1 * lU < lO * sU1
      · rw [if_pos (by rw [zL_lt (by omega) (by omega) (by omega) (by omega)]; exact q2)]
        obtain ⟨way2, e3, hw2⟩ := raise_z (F := F) hn (by omega) hv hb8 hS.1 hD2 hd q hsU hs2 (fun i hi => ⟨hw i hi, hmd i hi⟩)
        rw [e3]
        right
        have hstep := due_step (n := n) (nv := nv) (md := md) (br := false) (D := D) (fr := fr1) (fs := fs1) (dr := dr1) (ds := ds1) (sO := sO1) (sU := sU1) (fun i hi => (hmd i hi).1)
        have hpast := due_past hv hA hB hS hQ hNN hd q
        have hle : ∀ i, i < n → md i ≤ upW nv md false D fr1 fs1 dr1 ds1 sO1 sU1 i := fun i hi => by
          unfold upW
          by_cases w : IsDue nv md false D fr1 fs1 dr1 ds1 sO1 sU1 i = true ∧ md i < 2
          · rw [if_pos w]; omega
          · rw [if_neg w]; exact Int.le_refl _
        have hmes : mes (upW nv md false D fr1 fs1 dr1 ds1 sO1 sU1) n < mes md n := by
          obtain ⟨⟨j, j1, j2, j3, j4⟩, -⟩ := hd.2.2.2 q
          have hj2 : md j < 2 := by
            have := hmd j j1
            unfold dun at j2
            by_cases m0 : md j = 0
            · omega
            · rw [if_neg m0] at j2
              by_cases m1 : md j = 1
              · omega
              · rw [if_neg m1, if_neg (by simp)] at j2; omega
          have e : upW nv md false D fr1 fs1 dr1 ds1 sO1 sU1 j = md j + 1 := if_pos ⟨decide_eq_true ⟨j2, by rw [j3, j4]⟩, hj2⟩
          exact mes_lt hle j1 (by omega) hj2
        refine ⟨mes (upW nv md false D fr1 fs1 dr1 ds1 sO1 sU1) n, _, by omega, rfl, j + 1, way2, dO', dU', zL sO1, zL sU1, st', re', fr', fs', dr', ds', zL D, bf', bl', ba', sc', fR', fS', upW nv md false D fr1 fs1 dr1 ds1 sO1 sU1, sO1, sU1, ?_, by omega, by omega, rfl, hw2, ?_, ?_, ?_, ?_, q, Or.inl q2, ?_⟩
        · simp only [i1, zI_add]
        · intro i hi b
          have := hb i hi b
          unfold upW
          by_cases w : IsDue nv md false D fr1 fs1 dr1 ds1 sO1 sU1 i = true ∧ md i < 2
          · rw [if_pos w]; omega
          · rw [if_neg w]; exact this
        · intro i hi b
          have := hb' i hi b
          have hge : ¬ md i < 2 := by
            by_cases q : nv i 5 = 0
            · rw [if_pos q] at this; omega
            · rw [if_neg q] at this; omega
          unfold upW
          rw [if_neg (fun w => hge w.2)]
          exact this
        · obtain ⟨i, hi, hi2⟩ := hex
          refine ⟨i, hi, ?_⟩
          rcases hstep i hi with w | ⟨w, -, -⟩ | ⟨-, w, -⟩
          · rw [w]; exact hi2
          · omega
          · exact Or.inr w
        · have h5 := Int.mul_nonneg hP (show 0 ≤ sU1 by omega)
          exact Int.not_lt.mp fun hneg => by
            have := Int.mul_neg_of_neg_of_pos hneg hQ
            omega
        · intro D2 fr2 fs2 dr2 ds2 hS2
          exact ((hNN.go hv hA hB hS hQ q hpast (due_till hd q)).1.up hv hA hB hS hS2 q hstep).1
      · rw [if_neg (by rw [zL_lt (by omega) (by omega) (by omega) (by omega)]; exact q2)]
        left
        refine ⟨_, rfl, way, dO', dU', zL sO1, zL sU1, st', re', fr', fs', dr', ds', zL D, bf', bl', ba', sc', fR', fS', md, D, fr1, fs1, dr1, ds1, rfl, fin ?_, hw, rfl, h1, h2, h3, h4⟩
        intro i hi hp
        have h5 := (hd.2.2.2 q).2 i hi hp
        generalize dun md false fr1 dr1 i = a at *
        generalize dov nv md D fs1 ds1 i = b at *
        refine Int.le_of_mul_le_mul_right ?_ q
        have h6 := Int.mul_le_mul_of_nonneg_right (show lO * sU1 ≤ sO1 * lU by omega) (show 0 ≤ a by omega)
        have h7 := Int.mul_le_mul_of_nonneg_right h5 (show 0 ≤ lU by omega)
        rw [Int.mul_right_comm] at h6 h7
        rw [Int.mul_right_comm b]
        have h8 : sO1 * lU * a = sO1 * a * lU := Int.mul_right_comm _ _ _
        have h9 : sO1 * lU * a = sO1 * lU * a := rfl
        omega
    · rw [if_neg q, if_pos (show zI 0 = zI (if false = true then 1 else 0) from rfl)]
      left
      refine ⟨_, rfl, way, dO', dU', sO', zL sU1, st', re', fr', fs', dr', ds', zL D, bf', bl', ba', sc', fR', fS', md, D, fr1, fs1, dr1, ds1, rfl, fin ?_, hw, rfl, h1, h2, h3, h4⟩
      intro i hi hp
      have := hd.2.2.1 (by omega) i hi
      omega
  · have := mes_bd (md := mdS nv m k) (n := n) (fun i hi => by unfold mdS; repeat' split <;> omega)
    omega
  · have hmes := mes_bd (md := mdS nv m k) (n := n) (fun i hi => by unfold mdS; repeat' split <;> omega)
    refine ⟨0, way1, dO0, dU0, sO0, sU0, st0, re0, fr0, fs0, dr0, ds0, un0, bf0, bl0, ba0, sc0, fR0, fS0, mdS nv m k, 0, 1, rfl, by omega, by omega, rfl, hw1, ?_, ?_, ?_, by omega, by omega, ?_, ?_⟩
    · intro i hi b
      unfold mdS; rw [if_pos b]
      by_cases q : nv i 1 = k
      · rw [if_pos q]; omega
      · rw [if_neg q]; omega
    · intro i hi b
      unfold mdS; rw [if_neg (by rw [b]; decide)]
    · rcases hk with ⟨-, h⟩ | ⟨⟨j, j1, j2, j3⟩, -⟩
      · obtain ⟨i, hi, b⟩ := hm1
        rw [h i hi] at b; cases b
      · exact ⟨j, j1, Or.inl (by unfold mdS; rw [if_pos j2, if_pos j3.symm])⟩
    · rcases Int.lt_or_eq_of_le hO with h | h
      · left; omega
      · exact Or.inr ⟨rfl, h.symm, fun i hi => rfl⟩
    · intro D fr fs dr ds hS
      exact (start_near hv hA hB hk hS).2
end SETTLE2
