/-! THE MODEL BREAKS: who is the worst, what is kept, what is noted -/
section MBREAK
variable {n : Nat} {nv : Nat → Nat → Int} {A B : Int} {now mode : Nat → Int32} {md mw : Nat → Int} {F : Nat} {m : Nat} {P Q : Int}
theorem wst_congr {p p' : Nat → Bool} {f u : Nat → Int} : ∀ k, (∀ i, i < k → p' i = p i) → wst p' f u k = wst p f u k
  | 0, _ => rfl
  | k + 1, h => by simp only [wst]; rw [wst_congr k (fun i hi => h i (by omega)), h k (by omega)]
theorem mworst_z (hn : n ≤ 5) (hF : 10 < F) (hv : NvOk n nv) (hA : 0 ≤ A ∧ A ≤ 2) (hB : 0 ≤ B ∧ B ≤ 2) (h : ∀ i, i < n → ∀ q, q < 7 → now (7 * i + q) = zI (nv i q)) {D : Int} {fr fs dr ds : Nat → Int} (hat : At n nv A B m md D fr fs dr ds P Q) (hm : ∀ i, i < n → mode i = zI (m3 md i)) (hP : 0 < P ∧ P ≤ 400 * 299269) (hQ : 0 < Q ∧ Q ≤ 25 * 299269) {un : Int64} {sl ba ss sb : Nat → Int64} (hSO : SOk n D fr fs dr ds un sl ba ss sb) :
    f_M_worst F now (zI (n : Int)) mode un sl ba (zL P) (zL Q) = some (zI (wors n nv A B md P Q)) := by
  have hmd : Mds n nv m md := ⟨hat.2.2.1, hat.2.2.2.1⟩
  obtain ⟨o1, o2, o3, o4, o5⟩ := hSO
  rw [← wors_eq hv hA hB hat.1 P Q]
  have hst := hat.2.2.2.2.2.1 hP.1
  have bd := fun i hi => there_bd (i := i) hn hv hA hB hat.1 hat.2.1 ⟨by omega, hP.2⟩ hQ hi
  rw [← wst_congr (p' := fun i => decide (md i ≤ 2 ∧ nv i 4 * (D * Q) ≤ fr i * P + fs i * Q)) n (fun i hi => by
    obtain ⟨s0, s1, s2⟩ := hst i hi
    have v := hv i hi
    obtain ⟨-, -, t3, -⟩ := bd i hi
    have y := Int.mul_pos (show 0 < nv i 2 by omega) t3
    have yu := Int.mul_lt_mul_of_pos_right (show nv i 2 < nv i 4 by omega) t3
    have b := hmd.bd i hi
    refine decide_eq_decide.mpr ⟨fun w => ?_, fun w => ⟨by omega, by rw [← Int.mul_assoc]; exact w.2.2⟩⟩
    have c : md i = 0 ∨ md i = 1 ∨ md i = 2 := by omega
    rcases c with c | c | c
    · have z := hat.1.2.1 i hi (by unfold kW; rw [if_neg (by omega), if_neg (by omega)])
      rw [z.1, z.2] at w
      omega
    · have := s1 c; omega
    · exact ⟨c, by omega, by rw [Int.mul_assoc]; exact w.2⟩)]
  generalize hp : (fun i => decide (md i ≤ 2 ∧ nv i 4 * (D * Q) ≤ fr i * P + fs i * Q)) = p at *
  generalize hf : (fun i => fr i * P + fs i * Q) = f at *
  have ef : ∀ i, fr i * P + fs i * Q = f i := fun i => by rw [← hf]
  have loop := iter_for (body := un2 (fb_M_worst_4 now (zI (n : Int)) mode un sl ba (zL P) (zL Q))) (F := F) (s := ((-1 : Int32), (0 : Int32)))
    (fun i z => z = (zI (wst p f (fun i => nv i 4) i), zI (i : Int)))
    (fun q => q = zI (wst p f (fun i => nv i 4) n)) n (by omega) rfl ?_ ?_
  · obtain ⟨q, e, rfl⟩ := loop
    unfold f_M_worst
    rw [e, Option.bind_some]
  · rintro i z hi rfl
    have v := hv i hi
    have OF := fun {q : Nat} (hq : q < 7) => of_z hn h hi hq
    obtain ⟨⟨t1, t2⟩, -, t3, t4⟩ := bd i hi
    have ft := forceThere_z hn o2 o3 hi P Q
    rw [ef] at ft t1 t2
    have pe : p i = decide (md i ≤ 2 ∧ nv i 4 * (D * Q) ≤ f i) := by rw [← hp, ← ef]
    have wb := wst_bd p f (fun i => nv i 4) i
    have ws : wst p f (fun i => nv i 4) (i + 1) = if p i = true ∧ (wst p f (fun i => nv i 4) i < 0 ∨ f (wst p f (fun i => nv i 4) i).toNat * nv i 4 < f i * nv (wst p f (fun i => nv i 4) i).toNat 4) then (i : Int) else wst p f (fun i => nv i 4) i := rfl
    generalize wst p f (fun i => nv i 4) i = b at *
    have stay : ¬ (p i = true ∧ (b < 0 ∨ f b.toNat * nv i 4 < f i * nv b.toNat 4)) → ∃ s', fj_M_worst_81 (zI b) (zI (i : Int)) = some (.inl s') ∧ s' = (zI (wst p f (fun i => nv i 4) (i + 1)), zI ((i + 1 : Nat) : Int)) := fun e =>
      ⟨(zI b, zI ((i + 1 : Nat) : Int)), by simp only [fj_M_worst_81, nm, zI_1], by rw [ws, if_neg e]⟩
    have take : (p i = true ∧ (b < 0 ∨ f b.toNat * nv i 4 < f i * nv b.toNat 4)) → ∃ s', fj_M_worst_79 (zI (i : Int)) = some (.inl s') ∧ s' = (zI (wst p f (fun i => nv i 4) (i + 1)), zI ((i + 1 : Nat) : Int)) := fun e =>
      ⟨(zI (i : Int), zI ((i + 1 : Nat) : Int)), by simp only [fj_M_worst_79, fj_M_worst_81, nm, zI_1], by rw [ws, if_pos e]⟩
    dsimp only [un2]
    unfold fb_M_worst_4
    rw [if_neg (by rw [zI_le (by omega) (by omega) (by omega) (by omega)]; omega), isLive_z hn hi (hm i hi) (hmd.bd i hi).1, Option.bind_some]
    by_cases q : md i ≤ 2
    · have c1 := mul_bd (show 0 ≤ nv i 4 by omega) (show 0 ≤ D * Q by omega) (show nv i 4 ≤ 60 by omega) (show D * Q ≤ 10000000000000 by omega)
      rw [if_pos q, if_neg (by decide), ft, Option.bind_some, show (4 : Int32) = zI ((4 : Nat) : Int) from rfl, OF (by omega), Option.bind_some, o1, unitThere_z, Option.bind_some, zI_l (by omega) (by omega), zL_mul]
      by_cases q3 : nv i 4 * (D * Q) ≤ f i
      · have pt : p i = true := by rw [pe]; exact decide_eq_true ⟨q, q3⟩
        rw [if_pos (by rw [zL_le (by omega) (by omega) (by omega) (by omega)]; exact q3)]
        by_cases q4 : b < 0
        · rw [if_pos (by rw [im1, zI_eq (by omega) (by omega) (by omega) (by omega)]; omega)]
          exact take ⟨pt, Or.inl q4⟩
        · rw [if_neg (by rw [im1, zI_eq (by omega) (by omega) (by omega) (by omega)]; omega)]
          have hbn : b.toNat < n := by omega
          have eb : zI b = zI ((b.toNat : Nat) : Int) := by congr 1; omega
          have vb := hv b.toNat hbn
          obtain ⟨⟨s1, s2⟩, -⟩ := bd b.toNat hbn
          have fb := forceThere_z hn o2 o3 hbn P Q
          rw [ef] at fb s1 s2
          have d1 := abs_mul_bd (a := f i) (b := nv b.toNat 4) (x := 10000000000000000) (y := 60) (by omega) (by omega) (by omega) (by omega)
          have d2 := abs_mul_bd (a := f b.toNat) (b := nv i 4) (x := 10000000000000000) (y := 60) (by omega) (by omega) (by omega) (by omega)
          have OFb : f_M_of (zI b) (zI ((4 : Nat) : Int)) now = some (zI (nv b.toNat 4)) := by rw [eb]; exact of_z hn h hbn (by omega)
          have fb' : f_M_forceThere (zI b) sl ba (zL P) (zL Q) = some (zL (f b.toNat)) := by rw [eb]; exact fb
          rw [Option.bind_some, OFb, Option.bind_some, fb', Option.bind_some, Option.bind_some, zI_l (by omega) (by omega), zI_l (by omega) (by omega), zL_mul, zL_mul]
          by_cases q5 : f i * nv b.toNat 4 ≤ f b.toNat * nv i 4
          · rw [if_pos (by rw [zL_le (by omega) (by omega) (by omega) (by omega)]; exact q5)]
            exact stay (fun w => by omega)
          · rw [if_neg (by rw [zL_le (by omega) (by omega) (by omega) (by omega)]; exact q5)]
            exact take ⟨pt, Or.inr (by omega)⟩
      · rw [if_neg (by rw [zL_le (by omega) (by omega) (by omega) (by omega)]; exact q3)]
        exact stay (fun w => by have := w.1; rw [pe] at this; have := of_decide_eq_true this; omega)
    · rw [if_neg q, if_pos (show zI 0 = 0 from rfl)]
      exact stay (fun w => by have := w.1; rw [pe] at this; have := of_decide_eq_true this; omega)
  · rintro z rfl
    refine ⟨_, ?_, rfl⟩
    dsimp only [un2]
    unfold fb_M_worst_4
    rw [if_pos (by rw [zI_le (by omega) (by omega) (by omega) (by omega)]; omega)]
theorem zI_5b (b k : Nat) : (5 : Int32) * zI (b : Int) + zI (k : Int) = zI ((5 * b + k : Nat) : Int) := by
  rw [show (5 : Int32) = zI 5 from rfl, zI_mul, zI_add]; rfl
/-- forces are kept -/
theorem ahead_z (hn : n ≤ 5) (hF : 10 < F) {b : Nat} (hb : b < n) {fr fs : Nat → Int} {sl ba : Nat → Int64} (h2 : ∀ i, i < n → sl i = zL (fr i)) (h3 : ∀ i, i < n → ba i = zL (fs i)) (a0 : Nat → Int64) :
    ∃ a1, iter (un2 (fb_M_breaks_6 (zI (b : Int)) (zI (n : Int)) sl ba (zL P) (zL Q))) F ((0 : Int32), a0) = some a1 ∧ (∀ k, k < n → a1 (5 * b + k) = zL (fr k * P + fs k * Q)) ∧ ∀ j, (∀ k, k < n → j ≠ 5 * b + k) → a1 j = a0 j := by
  have loop := iter_for (body := un2 (fb_M_breaks_6 (zI (b : Int)) (zI (n : Int)) sl ba (zL P) (zL Q))) (F := F) (s := ((0 : Int32), a0)) (fun i z => ∃ f, z = (zI (i : Int), f) ∧ (∀ k, k < i → f (5 * b + k) = zL (fr k * P + fs k * Q)) ∧ ∀ j, (∀ k, k < n → j ≠ 5 * b + k) → f j = a0 j) (fun q => (∀ k, k < n → q (5 * b + k) = zL (fr k * P + fs k * Q)) ∧ ∀ j, (∀ k, k < n → j ≠ 5 * b + k) → q j = a0 j) n (by omega) ⟨a0, rfl, fun j hj => absurd hj (by omega), fun _ _ => rfl⟩ ?_ ?_
  · obtain ⟨q, e, h⟩ := loop
    exact ⟨q, e, h⟩
  · rintro i z hi ⟨f, rfl, k1, k2⟩
    dsimp only [un2]
    unfold fb_M_breaks_6
    rw [if_neg (by rw [zI_le (by omega) (by omega) (by omega) (by omega)]; omega), forceThere_z hn h2 h3 hi, Option.bind_some, zI_5b, stL_z (by omega) (by omega), Option.bind_some]
    simp only [nm, zI_1]
    refine ⟨_, rfl, _, rfl, fun k hk => ?_, fun j hj => ?_⟩
    · rw [updL_at]
      by_cases e : k = i
      · subst e; rw [if_pos rfl]
      · rw [if_neg (by omega)]; exact k1 k (by omega)
    · rw [updL_at, if_neg (hj i hi)]; exact k2 j hj
  · rintro z ⟨f, rfl, k1, k2⟩
    refine ⟨f, ?_, k1, k2⟩
    dsimp only [un2]
    unfold fb_M_breaks_6
    rw [if_pos (by rw [zI_le (by omega) (by omega) (by omega) (by omega)]; omega)]
theorem behind_z (hn : n ≤ 5) (hF : 10 < F) {b : Nat} (hb : b < n) {fr fs : Nat → Int} {sl ba : Nat → Int64} (h2 : ∀ i, i < n → sl i = zL (fr i)) (h3 : ∀ i, i < n → ba i = zL (fs i)) (a0 : Nat → Int64) :
    ∃ a1, iter (un2 (fb_M_breaks_72 (zI (b : Int)) (zI (n : Int)) sl ba (zL P) (zL Q))) F ((0 : Int32), a0) = some a1 ∧ (∀ k, k < n → a1 (5 * b + k) = zL (fr k * P + fs k * Q)) ∧ ∀ j, (∀ k, k < n → j ≠ 5 * b + k) → a1 j = a0 j := by
  have e : fb_M_breaks_72 (zI (b : Int)) (zI (n : Int)) sl ba (zL P) (zL Q) = fb_M_breaks_6 (zI (b : Int)) (zI (n : Int)) sl ba (zL P) (zL Q) := rfl
  rw [e]
  exact ahead_z hn hF hb h2 h3 a0
/-! what is had -/
def hd (x : Int) : Int := if x = 0 then 0 else if x = 1 then 1 else 3
def HadOk (n m : Nat) (md : Nat → Int) (had : Nat → Int32) : Prop := ∀ i, i < n → m.testBit i = true → had i = zI (hd (md i))
theorem sel5 (p : Nat → Bool) : ∀ k, (sel p k).length ≤ k
  | 0 => Nat.le_refl _
  | k + 1 => by
    have := sel5 p k
    rw [sel_s]; unfold c1
    by_cases q : p k = true
    · rw [if_pos q]; omega
    · rw [if_neg q]; omega
theorem raised0_z (hn : n ≤ 5) (hF : 10 < F) {b : Nat} (hm : ∀ i, i < n → mode i = zI (m3 mw i)) (hmw : Mds n nv m mw) (h01 : ∀ i, i < n → m.testBit i = true → 0 ≤ md i ∧ md i ≤ mw i) {had : Nat → Int32} (hh : HadOk n m md had) {L : List (Int × Nat × Int × Int)} {tot : Int32} {kd wh : Nat → Int32} {ov un : Nat → Int64} (hE : EvZ L tot kd wh ov un) (hL : L.length ≤ 20) :
    ∃ tot' kd' wh' ov' un' had', iter (un7 (fb_M_breaks_113 (zI (n : Int)) mode (zL P) (zL Q))) F ((0 : Int32), tot, kd, wh, ov, un, had) = some (tot', kd', wh', ov', un', had') ∧ EvZ (L ++ evs 0 P Q (rsd md mw 0 n)) tot' kd' wh' ov' un' ∧ ∀ i, i < n → m.testBit i = true → had' i = zI (if md i = 0 ∧ 0 < mw i then 1 else hd (md i)) := by
  unfold rsd
  generalize hp : (fun i => decide (md i ≤ 0 ∧ 0 < mw i ∧ mw i ≤ 2)) = p at *
  have loop := iter_for (body := un7 (fb_M_breaks_113 (zI (n : Int)) mode (zL P) (zL Q))) (F := F) (s := ((0 : Int32), tot, kd, wh, ov, un, had))
    (fun i z => ∃ tot' kd' wh' ov' un' had', z = (zI (i : Int), tot', kd', wh', ov', un', had') ∧ EvZ (L ++ evs 0 P Q (sel p i)) tot' kd' wh' ov' un' ∧ (∀ j, j < n → j < i → m.testBit j = true → had' j = zI (if md j = 0 ∧ 0 < mw j then 1 else hd (md j))) ∧ ∀ j, i ≤ j → had' j = had j)
    (fun q => ∃ tot' kd' wh' ov' un' had', q = (tot', kd', wh', ov', un', had') ∧ EvZ (L ++ evs 0 P Q (sel p n)) tot' kd' wh' ov' un' ∧ ∀ j, j < n → m.testBit j = true → had' j = zI (if md j = 0 ∧ 0 < mw j then 1 else hd (md j))) n (by omega) ⟨tot, kd, wh, ov, un, had, rfl, by simpa [sel, evs] using hE, fun j _ hj => absurd hj (by omega), fun _ _ => rfl⟩ ?_ ?_
  · obtain ⟨q, e, tot', kd', wh', ov', un', had', rfl, h1, h2⟩ := loop
    exact ⟨tot', kd', wh', ov', un', had', e, h1, h2⟩
  · rintro i z hi ⟨tot', kd', wh', ov', un', had', rfl, h1, h2, h3⟩
    have b := hmw.bd i hi
    have pe : p i = decide (md i ≤ 0 ∧ 0 < mw i ∧ mw i ≤ 2) := by rw [← hp]
    dsimp only [un7]
    unfold fb_M_breaks_113
    rw [if_neg (by rw [zI_le (by omega) (by omega) (by omega) (by omega)]; omega), isLive_z hn hi (hm i hi) b.1, Option.bind_some]
    have stay : ¬ p i = true → (m.testBit i = true → ¬ (md i = 0 ∧ 0 < mw i)) → ∃ s', fj_M_breaks_155 (zI (i : Int)) tot' kd' wh' ov' un' had' = some (.inl s') ∧ ∃ tot' kd' wh' ov' un' had', s' = (zI ((i + 1 : Nat) : Int), tot', kd', wh', ov', un', had') ∧ EvZ (L ++ evs 0 P Q (sel p (i + 1))) tot' kd' wh' ov' un' ∧ (∀ j, j < n → j < i + 1 → m.testBit j = true → had' j = zI (if md j = 0 ∧ 0 < mw j then 1 else hd (md j))) ∧ ∀ j, i + 1 ≤ j → had' j = had j := fun e e2 => by
      have es : sel p (i + 1) = sel p i := if_neg e
      refine ⟨_, by simp only [fj_M_breaks_155, nm, zI_1], tot', kd', wh', ov', un', had', rfl, by rw [es]; exact h1, fun j hj hj2 hl => ?_, fun j hj => h3 j (by omega)⟩
      by_cases w : j = i
      · subst w
        rw [h3 j (by omega), hh j hj hl, if_neg (e2 hl)]
      · exact h2 j hj (by omega) hl
    by_cases q : mw i ≤ 2
    · have hl := hmw.test hi q
      have hm01 := h01 i hi hl
      have e3 : m3 mw i = mw i := if_pos q
      rw [if_pos q, if_neg (by decide), ldA_z (by omega) (by omega), Option.bind_some, hm i hi, e3]
      by_cases q2 : mw i ≤ 0
      · rw [if_pos (by rw [i0, zI_le (by omega) (by omega) (by omega) (by omega)]; exact q2)]
        exact stay (by rw [pe]; simp; omega) (fun _ w => by omega)
      · rw [if_neg (by rw [i0, zI_le (by omega) (by omega) (by omega) (by omega)]; exact q2), ldA_z (by omega) (by omega), Option.bind_some, h3 i (by omega), hh i hi hl]
        by_cases q4 : md i = 0
        · have pt : p i = true := by rw [pe]; simp; omega
          have e : sel p (i + 1) = sel p i ++ [i] := if_pos pt
          have hl5 := sel5 p i
          obtain ⟨t', k', b', o', u', e1, e2⟩ := mnote_z hn h1 (by rw [List.length_append, evs_len]; omega) 0 hi P Q had'
          rw [if_pos (by rw [q4]; decide), show (0 : Int32) = zI 0 from rfl, e1]
          refine ⟨_, by simp only [bd6, Option.bind_some, fj_M_breaks_155, nm, zI_1], t', k', b', o', u', upd had' i (had' i ||| ((1 : Int32) <<< (zI 0 &&& 31))), rfl, ?_, fun j hj hj2 hjl => ?_, fun j hj => ?_⟩
          · rw [e, evs_snoc, ← List.append_assoc]; exact e2
          · rw [upd_at]
            by_cases w : j = i
            · subst w
              rw [if_pos rfl, h3 j (by omega), hh j hj hjl, if_pos ⟨q4, by omega⟩, q4]; decide
            · rw [if_neg w]; exact h2 j hj (by omega) hjl
          · rw [upd_at, if_neg (by omega)]; exact h3 j (by omega)
        · rw [if_neg (by
            unfold hd
            rw [if_neg q4]
            by_cases w : md i = 1
            · rw [if_pos w]; decide
            · rw [if_neg w]; decide)]
          exact stay (by rw [pe]; simp; omega) (fun _ w => q4 w.1)
    · rw [if_neg q, if_pos (show zI 0 = 0 from rfl)]
      exact stay (by rw [pe]; simp; omega) (fun w => by
        have := hmw.1 i hi w
        omega)
  · rintro z ⟨tot', kd', wh', ov', un', had', rfl, h1, h2, h3⟩
    refine ⟨_, ?_, tot', kd', wh', ov', un', had', rfl, h1, fun j hj => h2 j hj hj⟩
    dsimp only [un7]
    unfold fb_M_breaks_113
    rw [if_pos (by rw [zI_le (by omega) (by omega) (by omega) (by omega)]; omega)]
theorem raised1_z (hn : n ≤ 5) (hF : 10 < F) {b : Nat} (hm : ∀ i, i < n → mode i = zI (m3 mw i)) (hmw : Mds n nv m mw) (h01 : ∀ i, i < n → m.testBit i = true → 0 ≤ md i ∧ md i ≤ mw i) {had : Nat → Int32} (hh : ∀ i, i < n → m.testBit i = true → had i = zI (if md i = 0 ∧ 0 < mw i then 1 else hd (md i))) (hno : ∀ i, i < n → m.testBit i = false → 1 < md i) {L : List (Int × Nat × Int × Int)} {tot : Int32} {kd wh : Nat → Int32} {ov un : Nat → Int64} (hE : EvZ L tot kd wh ov un) (hL : L.length ≤ 25) :
    ∃ tot' kd' wh' ov' un' had', iter (un7 (fb_M_breaks_163 (zI (n : Int)) mode (zL P) (zL Q))) F ((0 : Int32), tot, kd, wh, ov, un, had) = some (tot', kd', wh', ov', un', had') ∧ EvZ (L ++ evs 1 P Q (rsd md mw 1 n)) tot' kd' wh' ov' un' ∧ HadOk n m mw had' := by
  unfold rsd
  generalize hp : (fun i => decide (md i ≤ 1 ∧ 1 < mw i ∧ mw i ≤ 2)) = p at *
  have loop := iter_for (body := un7 (fb_M_breaks_163 (zI (n : Int)) mode (zL P) (zL Q))) (F := F) (s := ((0 : Int32), tot, kd, wh, ov, un, had))
    (fun i z => ∃ tot' kd' wh' ov' un' had', z = (zI (i : Int), tot', kd', wh', ov', un', had') ∧ EvZ (L ++ evs 1 P Q (sel p i)) tot' kd' wh' ov' un' ∧ (∀ j, j < n → j < i → m.testBit j = true → had' j = zI (hd (mw j))) ∧ ∀ j, i ≤ j → had' j = had j)
    (fun q => ∃ tot' kd' wh' ov' un' had', q = (tot', kd', wh', ov', un', had') ∧ EvZ (L ++ evs 1 P Q (sel p n)) tot' kd' wh' ov' un' ∧ ∀ j, j < n → m.testBit j = true → had' j = zI (hd (mw j))) n (by omega) ⟨tot, kd, wh, ov, un, had, rfl, by simpa [sel, evs] using hE, fun j _ hj => absurd hj (by omega), fun _ _ => rfl⟩ ?_ ?_
  · obtain ⟨q, e, tot', kd', wh', ov', un', had', rfl, h1, h2⟩ := loop
    exact ⟨tot', kd', wh', ov', un', had', e, h1, h2⟩
  · rintro i z hi ⟨tot', kd', wh', ov', un', had', rfl, h1, h2, h3⟩
    have b := hmw.bd i hi
    have pe : p i = decide (md i ≤ 1 ∧ 1 < mw i ∧ mw i ≤ 2) := by rw [← hp]
    have b3 := m3_bd (md := mw) b.1
    dsimp only [un7]
    unfold fb_M_breaks_163
    rw [if_neg (by rw [zI_le (by omega) (by omega) (by omega) (by omega)]; omega), ldA_z (by omega) (by omega), Option.bind_some, hm i hi]
    have stay : ¬ p i = true → (m.testBit i = true → (if md i = 0 ∧ 0 < mw i then 1 else hd (md i)) = hd (mw i)) → ∃ s', fj_M_breaks_198 (zI (i : Int)) tot' kd' wh' ov' un' had' = some (.inl s') ∧ ∃ tot' kd' wh' ov' un' had', s' = (zI ((i + 1 : Nat) : Int), tot', kd', wh', ov', un', had') ∧ EvZ (L ++ evs 1 P Q (sel p (i + 1))) tot' kd' wh' ov' un' ∧ (∀ j, j < n → j < i + 1 → m.testBit j = true → had' j = zI (hd (mw j))) ∧ ∀ j, i + 1 ≤ j → had' j = had j := fun e e2 => by
      have es : sel p (i + 1) = sel p i := if_neg e
      refine ⟨_, by simp only [fj_M_breaks_198, nm, zI_1], tot', kd', wh', ov', un', had', rfl, by rw [es]; exact h1, fun j hj hj2 hl => ?_, fun j hj => h3 j (by omega)⟩
      by_cases w : j = i
      · subst w
        rw [h3 j (by omega), hh j hj hl, e2 hl]
      · exact h2 j hj (by omega) hl
    by_cases q : mw i = 2
    · have hl := hmw.test hi (by omega)
      have hm01 := h01 i hi hl
      rw [if_pos (by rw [i2, zI_eq (by omega) (by omega) (by omega) (by omega), m3_eq (by omega)]; exact q), ldA_z (by omega) (by omega), Option.bind_some, h3 i (by omega), hh i hi hl]
      by_cases q4 : md i ≤ 1
      · have pt : p i = true := by rw [pe]; simp; omega
        have e : sel p (i + 1) = sel p i ++ [i] := if_pos pt
        have hl5 := sel5 p i
        have eh : (if md i = 0 ∧ 0 < mw i then (1 : Int) else hd (md i)) = 1 := by
          by_cases w : md i = 0
          · rw [if_pos ⟨w, by omega⟩]
          · rw [if_neg (fun x => w x.1)]
            unfold hd
            rw [if_neg w, if_pos (by omega)]
        obtain ⟨t', k', b', o', u', e1, e2⟩ := mnote_z hn h1 (by rw [List.length_append, evs_len]; omega) 1 hi P Q had'
        rw [if_pos (by rw [eh]; decide), show (1 : Int32) = zI 1 from rfl, e1]
        refine ⟨_, by simp only [bd6, Option.bind_some, fj_M_breaks_198, nm, zI_1], t', k', b', o', u', upd had' i (had' i ||| ((1 : Int32) <<< (zI 1 &&& 31))), rfl, ?_, fun j hj hj2 hjl => ?_, fun j hj => ?_⟩
        · rw [e, evs_snoc, ← List.append_assoc]; exact e2
        · rw [upd_at]
          by_cases w : j = i
          · subst w
            rw [if_pos rfl, h3 j (by omega), hh j hj hjl, eh, q]; decide
          · rw [if_neg w]; exact h2 j hj (by omega) hjl
        · rw [upd_at, if_neg (by omega)]; exact h3 j (by omega)
      · have q5 : md i = 2 := by omega
        have eh : (if md i = 0 ∧ 0 < mw i then (1 : Int) else hd (md i)) = 3 := by
          rw [if_neg (fun x => by omega), q5]; rfl
        rw [if_neg (by rw [eh]; decide)]
        exact stay (by rw [pe]; simp; omega) (fun _ => by rw [eh, q]; rfl)
    · rw [if_neg (by rw [i2, zI_eq (by omega) (by omega) (by omega) (by omega), m3_eq (by omega)]; exact q)]
      refine stay (by rw [pe]; simp; omega) (fun w => ?_)
      have c := hmw.1 i hi w
      have c2 := h01 i hi w
      by_cases x : mw i = 0
      · have : md i = 0 := by omega
        rw [if_neg (by omega), this, x]
      · have x1 : mw i = 1 := by omega
        by_cases y : md i = 0
        · rw [if_pos ⟨y, by omega⟩, x1]; rfl
        · have : md i = 1 := by omega
          rw [if_neg (fun z => y z.1), this, x1]
  · rintro z ⟨tot', kd', wh', ov', un', had', rfl, h1, h2, h3⟩
    refine ⟨_, ?_, tot', kd', wh', ov', un', had', rfl, h1, fun j hj => h2 j hj hj⟩
    dsimp only [un7]
    unfold fb_M_breaks_163
    rw [if_pos (by rw [zI_le (by omega) (by omega) (by omega) (by omega)]; omega)]
end MBREAK
