/-! THE MODEL GOES ON to the next load: who is met, who begins, who is gone -/
section MGO
variable {n : Nat} {nv : Nat → Nat → Int} {A B : Int} {now mode : Nat → Int32} {md : Nat → Int} {F : Nat} {m : Nat} {P Q : Int} {L : List (Int × Nat × Int × Int)}
theorem met_z (hn : n ≤ 5) (hF : 10 < F) (hv : NvOk n nv) (hA : 0 ≤ A ∧ A ≤ 2) (hB : 0 ≤ B ∧ B ≤ 2) (h : ∀ i, i < n → ∀ q, q < 7 → now (7 * i + q) = zI (nv i q)) (hm : ∀ i, i < n → mode i = zI (m3 md i) ∧ 0 ≤ md i) {D : Int} {fr fs dr ds : Nat → Int} (hS : Lns n nv A B md D fr fs dr ds) (hD2 : D ≤ 299269) (hN : Nxt n nv A B md P Q) (hL : LOk P Q) {un : Int64} {sl ba ss sb : Nat → Int64} (hSO : SOk n D fr fs dr ds un sl ba ss sb) (met0 : Nat → Int32) :
    ∃ met, iter (un2 (fb_M_goNext_14 now (zI (n : Int)) mode un sl ba ss sb (zL P) (zL Q))) F ((0 : Int32), met0) = some met ∧ ∀ i, i < n → met i = zI (if due n nv A B md i = true then 1 else 0) := by
  obtain ⟨o1, o2, o3, o4, o5⟩ := hSO
  have hG := geo_nv hv hA hB
  have hk := fun i hi => (kW_bd (md := md) hv i hi).1
  have hQ := hL.2.2.1
  have loop := iter_for (body := un2 (fb_M_goNext_14 now (zI (n : Int)) mode un sl ba ss sb (zL P) (zL Q))) (F := F) (s := ((0 : Int32), met0)) (fun i z => ∃ f, z = (zI (i : Int), f) ∧ ∀ j, j < i → f j = zI (if due n nv A B md j = true then 1 else 0)) (fun q => ∀ j, j < n → q j = zI (if due n nv A B md j = true then 1 else 0)) n (by omega) ⟨met0, rfl, fun j hj => absurd hj (by omega)⟩ ?_ ?_
  · obtain ⟨q, e, h⟩ := loop
    exact ⟨q, e, h⟩
  · rintro i z hi ⟨f, rfl, hf⟩
    obtain ⟨m1, m2⟩ := hm i hi
    have v := hv i hi
    obtain ⟨tb1, tb2, tb3, tb4⟩ := there_bd hn hv hA hB hS hD2 ⟨hL.1, hL.2.1⟩ ⟨hQ, hL.2.2.2.1⟩ hi
    have OF := fun {q : Nat} (hq : q < 7) => of_z hn h hi hq
    have LI := fun (f : Nat → Int32) => ldA_z (f := f) (j := i) (n := 5) (by omega) (by omega)
    have e0 : mode i = (0 : Int32) ↔ md i = 0 := by
      have := m3_bd (md := md) m2
      rw [m1, i0, zI_eq (by omega) (by omega) (by omega) (by omega), m3_eq (by omega)]
    have e1 : mode i = (1 : Int32) ↔ md i = 1 := by
      have := m3_bd (md := md) m2
      rw [m1, i1, zI_eq (by omega) (by omega) (by omega) (by omega), m3_eq (by omega)]
    have e2 : mode i = (2 : Int32) ↔ md i = 2 := by
      have := m3_bd (md := md) m2
      rw [m1, i2, zI_eq (by omega) (by omega) (by omega) (by omega), m3_eq (by omega)]
    have b1 := mul_bd (show 0 ≤ nv i 1 by omega) (show 0 ≤ D * Q by omega) (show nv i 1 ≤ 60 by omega) (show D * Q ≤ 10000000000000 by omega)
    have b2 := mul_bd (show 0 ≤ nv i 2 by omega) (show 0 ≤ D * Q by omega) (show nv i 2 ≤ 60 by omega) (show D * Q ≤ 10000000000000 by omega)
    have b4 := mul_bd (show 0 ≤ nv i 4 by omega) (show 0 ≤ D * Q by omega) (show nv i 4 ≤ 60 by omega) (show D * Q ≤ 10000000000000 by omega)
    have ed := due_eq hv hA hB hS hN hQ rfl hi
    have fin : ∀ x : Int, x = (if due n nv A B md i = true then 1 else 0) → ∃ s', fj_M_goNext_140 (zI (i : Int)) (zI (i : Int)) (zI x) f = some (.inl s') ∧ ∃ f', s' = (zI ((i + 1 : Nat) : Int), f') ∧ ∀ j, j < i + 1 → f' j = zI (if due n nv A B md j = true then 1 else 0) := by
      rintro x rfl
      unfold fj_M_goNext_140
      rw [stZ_z (by omega) (by omega) (by
        by_cases q : due n nv A B md i = true
        · rw [if_pos q]; rfl
        · rw [if_neg q]; rfl), Option.bind_some]
      simp only [nm, zI_1]
      refine ⟨_, rfl, _, rfl, fun j hj => ?_⟩
      rw [upd_at]
      by_cases w : j = i
      · subst w; rw [if_pos rfl]
      · rw [if_neg w]; exact hf j (by omega)
    have isd : ∀ (a b t : Int), dun md true fr dr i = a → dov nv md D fs ds i = t * D - b → 0 < a → (due n nv A B md i = true ↔ a * P + b * Q = t * (D * Q)) := fun a b t ea eb ha => by
      rw [← ed]
      unfold IsDue
      rw [decide_eq_true_iff, ea, eb]
      constructor
      · intro w; exact till_eq.mp w.2
      · intro w; exact ⟨ha, till_eq.mpr w⟩
    dsimp only [un2]
    unfold fb_M_goNext_14
    rw [if_neg (by rw [zI_le (by omega) (by omega) (by omega) (by omega)]; omega), LI, Option.bind_some]
    by_cases q0 : md i = 0
    · have k := isd (dr i) (ds i) (nv i 1) (if_pos q0) (if_pos q0) (hS.pos hG hk i hi)
      rw [if_pos (e0.mpr q0), slipThere_z hn o4 o5 hi, Option.bind_some, show (1 : Int32) = zI ((1 : Nat) : Int) from rfl, OF (by omega), Option.bind_some, o1, unitThere_z, Option.bind_some, zI_l (by omega) (by omega), zL_mul]
      by_cases c : dr i * P + ds i * Q = nv i 1 * (D * Q)
      · rw [if_pos (by rw [c])]
        exact fin 1 (by rw [if_pos (k.mpr c)])
      · rw [if_neg (by rw [zL_eq (by omega) (by omega) (by omega) (by omega)]; exact c)]
        exact fin 0 (by rw [if_neg (fun w => c (k.mp w))])
    · rw [if_neg (fun w => q0 (e0.mp w)), Option.bind_some]
      by_cases q1 : md i = 1
      · have k := isd (fr i) (fs i) (nv i 2) (by unfold dun; rw [if_neg q0, if_pos q1]) (by unfold dov; rw [if_neg q0, if_pos q1]) (hS.fpos hG hk i hi ((kW_pos hv hi).mpr (Or.inl q1)))
        rw [if_pos (e1.mpr q1), forceThere_z hn o2 o3 hi, Option.bind_some, show (2 : Int32) = zI ((2 : Nat) : Int) from rfl, OF (by omega), Option.bind_some, o1, unitThere_z, Option.bind_some, zI_l (by omega) (by omega), zL_mul]
        by_cases c : fr i * P + fs i * Q = nv i 2 * (D * Q)
        · rw [if_pos (by rw [c])]
          exact fin 1 (by rw [if_pos (k.mpr c)])
        · rw [if_neg (by rw [zL_eq (by omega) (by omega) (by omega) (by omega)]; exact c)]
          exact fin 0 (by rw [if_neg (fun w => c (k.mp w))])
      · rw [if_neg (fun w => q1 (e1.mp w)), Option.bind_some]
        by_cases q2 : md i = 2
        · have k := isd (fr i) (fs i) (nv i 4) (by unfold dun; rw [if_neg q0, if_neg q1, if_pos ⟨q2, rfl⟩]) (by unfold dov; rw [if_neg q0, if_neg q1]) (hS.fpos hG hk i hi ((kW_pos hv hi).mpr (Or.inr q2)))
          rw [if_pos (e2.mpr q2), forceThere_z hn o2 o3 hi, Option.bind_some, show (4 : Int32) = zI ((4 : Nat) : Int) from rfl, OF (by omega), Option.bind_some, o1, unitThere_z, Option.bind_some, zI_l (by omega) (by omega), zL_mul]
          by_cases c : fr i * P + fs i * Q = nv i 4 * (D * Q)
          · rw [if_pos (by rw [c])]
            exact fin 1 (by rw [if_pos (k.mpr c)])
          · rw [if_neg (by rw [zL_eq (by omega) (by omega) (by omega) (by omega)]; exact c)]
            exact fin 0 (by rw [if_neg (fun w => c (k.mp w))])
        · rw [if_neg (fun w => q2 (e2.mp w))]
          refine fin 0 ?_
          rw [if_neg]
          rw [← ed]
          unfold IsDue
          rw [decide_eq_true_iff]
          unfold dun
          rw [if_neg q0, if_neg q1, if_neg (fun w => q2 w.1)]
          omega
  · rintro z ⟨f, rfl, hf⟩
    refine ⟨f, ?_, hf⟩
    dsimp only [un2]
    unfold fb_M_goNext_14
    rw [if_pos (by rw [zI_le (by omega) (by omega) (by omega) (by omega)]; omega)]
theorem begins_z (hn : n ≤ 5) {i : Nat} (hi : i < n) {x : Int} (hx : mode i = zI x) (a : Int) {fresh had : Nat → Int32} {tot : Int32} {kd wh : Nat → Int32} {ov un : Nat → Int64} (hE : EvZ L tot kd wh ov un) (hL : L.length < 32) :
    ∃ tot' kd' wh' ov' un', f_M_begins (zI (i : Int)) (zI a) mode (zL P) (zL Q) tot kd wh ov un had fresh = some (upd mode i (zI (x + 1)), tot', kd', wh', ov', un', upd had i (had i ||| ((1 : Int32) <<< (zI a &&& 31))), upd fresh i 1) ∧ EvZ (L ++ [(a, i, P, Q)]) tot' kd' wh' ov' un' := by
  obtain ⟨t', k', b', o', u', e1, e2⟩ := mnote_z hn hE hL a hi P Q had
  refine ⟨t', k', b', o', u', ?_, e2⟩
  unfold f_M_begins
  rw [ldA_z (by omega) (by omega), Option.bind_some, stI_z (by omega) (by omega), Option.bind_some, stZ_z (by omega) (by omega) rfl, Option.bind_some, e1, hx, i1, zI_add]
  rfl
/-- those that begin -/
theorem begin0_z (hn : n ≤ 5) (hF : 10 < F) {p : Nat → Bool} (hmd : ∀ i, i < n → 0 ≤ md i) (hm : ∀ i, i < n → mode i = zI (m3 md i)) {met fresh had : Nat → Int32} (hmet : ∀ i, i < n → met i = zI (if p i = true then 1 else 0)) (hfr : ∀ i, i < n → fresh i = 0) {tot : Int32} {kd wh : Nat → Int32} {ov un : Nat → Int64} (hE : EvZ L tot kd wh ov un) (hL : L.length ≤ 20) :
    ∃ mode' tot' kd' wh' ov' un' had' fresh', iter (un9 (fb_M_goNext_149 (zI (n : Int)) (zL P) (zL Q) met)) F ((0 : Int32), mode, tot, kd, wh, ov, un, had, fresh) = some (mode', tot', kd', wh', ov', un', had', fresh') ∧ EvZ (L ++ evs 0 P Q (sel (fun i => decide (md i = 0) && p i) n)) tot' kd' wh' ov' un' ∧
      (∀ i, i < n → (md i = 0 ∧ p i = true → mode' i = zI 1 ∧ fresh' i = 1 ∧ had' i = (had i ||| ((1 : Int32) <<< (zI 0 &&& 31)))) ∧ (¬ (md i = 0 ∧ p i = true) → mode' i = zI (m3 md i) ∧ fresh' i = 0 ∧ had' i = had i)) ∧ ∀ i, n ≤ i → fresh' i = fresh i := by
  have loop := iter_for (body := un9 (fb_M_goNext_149 (zI (n : Int)) (zL P) (zL Q) met)) (F := F) (s := ((0 : Int32), mode, tot, kd, wh, ov, un, had, fresh))
    (fun i z => ∃ mode' tot' kd' wh' ov' un' had' fresh', z = (zI (i : Int), mode', tot', kd', wh', ov', un', had', fresh') ∧ EvZ (L ++ evs 0 P Q (sel (fun i => decide (md i = 0) && p i) i)) tot' kd' wh' ov' un' ∧
      (∀ j, j < n → (j < i ∧ md j = 0 ∧ p j = true → mode' j = zI 1 ∧ fresh' j = 1 ∧ had' j = (had j ||| ((1 : Int32) <<< (zI 0 &&& 31)))) ∧ (¬ (j < i ∧ md j = 0 ∧ p j = true) → mode' j = zI (m3 md j) ∧ fresh' j = 0 ∧ had' j = had j)) ∧ ∀ j, n ≤ j → fresh' j = fresh j)
    (fun q => ∃ mode' tot' kd' wh' ov' un' had' fresh', q = (mode', tot', kd', wh', ov', un', had', fresh') ∧ EvZ (L ++ evs 0 P Q (sel (fun i => decide (md i = 0) && p i) n)) tot' kd' wh' ov' un' ∧
      (∀ j, j < n → (j < n ∧ md j = 0 ∧ p j = true → mode' j = zI 1 ∧ fresh' j = 1 ∧ had' j = (had j ||| ((1 : Int32) <<< (zI 0 &&& 31)))) ∧ (¬ (j < n ∧ md j = 0 ∧ p j = true) → mode' j = zI (m3 md j) ∧ fresh' j = 0 ∧ had' j = had j)) ∧ ∀ j, n ≤ j → fresh' j = fresh j) n (by omega)
    ⟨mode, tot, kd, wh, ov, un, had, fresh, rfl, by simpa [sel, evs] using hE, fun j hj => ⟨fun w => absurd w.1 (by omega), fun _ => ⟨hm j hj, hfr j hj, rfl⟩⟩, fun _ _ => rfl⟩ ?_ ?_
  · obtain ⟨q, e, mode', tot', kd', wh', ov', un', had', fresh', rfl, h1, h2, h9⟩ := loop
    exact ⟨mode', tot', kd', wh', ov', un', had', fresh', e, h1, fun i hi => ⟨fun w => (h2 i hi).1 ⟨hi, w⟩, fun w => (h2 i hi).2 (fun x => w x.2)⟩, h9⟩
  · rintro i z hi ⟨mode', tot', kd', wh', ov', un', had', fresh', rfl, h1, h2, h9⟩
    have hme : mode' i = zI (m3 md i) ∧ fresh' i = 0 ∧ had' i = had i := (h2 i hi).2 (fun w => by omega)
    have b3 := m3_bd (md := md) (hmd i hi)
    dsimp only [un9]
    unfold fb_M_goNext_149
    rw [if_neg (by rw [zI_le (by omega) (by omega) (by omega) (by omega)]; omega), ldA_z (by omega) (by omega), Option.bind_some, hmet i hi]
    have stay : ¬ (md i = 0 ∧ p i = true) → ∃ s', fj_M_goNext_181 (zI (i : Int)) mode' tot' kd' wh' ov' un' had' fresh' = some (.inl s') ∧ ∃ mode' tot' kd' wh' ov' un' had' fresh', s' = (zI ((i + 1 : Nat) : Int), mode', tot', kd', wh', ov', un', had', fresh') ∧ EvZ (L ++ evs 0 P Q (sel (fun i => decide (md i = 0) && p i) (i + 1))) tot' kd' wh' ov' un' ∧
      (∀ j, j < n → (j < i + 1 ∧ md j = 0 ∧ p j = true → mode' j = zI 1 ∧ fresh' j = 1 ∧ had' j = (had j ||| ((1 : Int32) <<< (zI 0 &&& 31)))) ∧ (¬ (j < i + 1 ∧ md j = 0 ∧ p j = true) → mode' j = zI (m3 md j) ∧ fresh' j = 0 ∧ had' j = had j)) ∧ ∀ j, n ≤ j → fresh' j = fresh j := fun e => by
      have es : sel (fun i => decide (md i = 0) && p i) (i + 1) = sel (fun i => decide (md i = 0) && p i) i := if_neg (by simpa using e)
      refine ⟨_, by simp only [fj_M_goNext_181, nm, zI_1], mode', tot', kd', wh', ov', un', had', fresh', rfl, by rw [es]; exact h1, fun j hj => ⟨fun w => (h2 j hj).1 ⟨?_, w.2⟩, fun w => (h2 j hj).2 (fun x => w ⟨by omega, x.2⟩)⟩, h9⟩
      by_cases q : j = i
      · subst q; exact absurd w.2 e
      · omega
    by_cases q : p i = true
    · rw [if_pos q, if_neg (by decide), ldA_z (by omega) (by omega), Option.bind_some, hme.1]
      by_cases q2 : md i = 0
      · have e3 : m3 md i = 0 := (m3_eq (by omega)).mpr q2
        have es : sel (fun i => decide (md i = 0) && p i) (i + 1) = sel (fun i => decide (md i = 0) && p i) i ++ [i] := if_pos (by simp [q2, q])
        have hl5 := sel5 (fun i => decide (md i = 0) && p i) i
        obtain ⟨t', k', b', o', u', e1, e2⟩ := begins_z (P := P) (Q := Q) (fresh := fresh') (had := had') hn hi hme.1 0 h1 (by rw [List.length_append, evs_len]; omega)
        rw [if_pos (by rw [e3]; rfl), show (0 : Int32) = zI 0 from rfl, e1]
        refine ⟨_, by simp only [bd8, Option.bind_some, fj_M_goNext_181, nm, zI_1], upd mode' i (zI (m3 md i + 1)), t', k', b', o', u', upd had' i (had' i ||| ((1 : Int32) <<< (zI 0 &&& 31))), upd fresh' i 1, rfl, ?_, fun j hj => ?_, fun j hj => by rw [upd_at, if_neg (by omega)]; exact h9 j hj⟩
        · rw [es, evs_snoc, ← List.append_assoc]; exact e2
        · rw [upd_at, upd_at, upd_at]
          by_cases w : j = i
          · subst w
            rw [if_pos rfl, if_pos rfl, if_pos rfl, hme.2.2, e3]
            exact ⟨fun _ => ⟨rfl, rfl, rfl⟩, fun x => absurd ⟨by omega, q2, q⟩ x⟩
          · rw [if_neg w, if_neg w, if_neg w]
            exact ⟨fun x => (h2 j hj).1 ⟨by omega, x.2⟩, fun x => (h2 j hj).2 (fun y => x ⟨by omega, y.2⟩)⟩
      · rw [if_neg (by rw [i0, zI_eq (by omega) (by omega) (by omega) (by omega), m3_eq (by omega)]; exact q2)]
        exact stay (fun w => q2 w.1)
    · rw [if_neg q, if_pos (show zI 0 = 0 from rfl)]
      exact stay (fun w => q w.2)
  · rintro z ⟨mode', tot', kd', wh', ov', un', had', fresh', rfl, h1, h2, h9⟩
    refine ⟨_, ?_, mode', tot', kd', wh', ov', un', had', fresh', rfl, h1, h2, h9⟩
    dsimp only [un9]
    unfold fb_M_goNext_149
    rw [if_pos (by rw [zI_le (by omega) (by omega) (by omega) (by omega)]; omega)]
/-- those that yield -/
theorem begin1_z (hn : n ≤ 5) (hF : 10 < F) {p : Nat → Bool} (hmd : ∀ i, i < n → 0 ≤ md i) {met fresh had had0 : Nat → Int32} (hmet : ∀ i, i < n → met i = zI (if p i = true then 1 else 0))
    (hst : ∀ i, i < n → (md i = 0 ∧ p i = true → mode i = zI 1 ∧ fresh i = 1 ∧ had i = (had0 i ||| ((1 : Int32) <<< (zI 0 &&& 31)))) ∧ (¬ (md i = 0 ∧ p i = true) → mode i = zI (m3 md i) ∧ fresh i = 0 ∧ had i = had0 i)) {tot : Int32} {kd wh : Nat → Int32} {ov un : Nat → Int64} (hE : EvZ L tot kd wh ov un) (hL : L.length ≤ 25) :
    ∃ mode' tot' kd' wh' ov' un' had' fresh', iter (un9 (fb_M_goNext_189 (zI (n : Int)) (zL P) (zL Q) met)) F ((0 : Int32), mode, tot, kd, wh, ov, un, had, fresh) = some (mode', tot', kd', wh', ov', un', had', fresh') ∧ EvZ (L ++ evs 1 P Q (sel (fun i => decide (md i = 1) && p i) n)) tot' kd' wh' ov' un' ∧
      (∀ i, i < n → (md i = 1 ∧ p i = true → mode' i = zI 2 ∧ fresh' i = 1 ∧ had' i = (had0 i ||| ((1 : Int32) <<< (zI 1 &&& 31)))) ∧ (¬ (md i = 1 ∧ p i = true) → mode' i = mode i ∧ fresh' i = fresh i ∧ had' i = had i)) ∧ ∀ i, n ≤ i → fresh' i = fresh i := by
  have loop := iter_for (body := un9 (fb_M_goNext_189 (zI (n : Int)) (zL P) (zL Q) met)) (F := F) (s := ((0 : Int32), mode, tot, kd, wh, ov, un, had, fresh))
    (fun i z => ∃ mode' tot' kd' wh' ov' un' had' fresh', z = (zI (i : Int), mode', tot', kd', wh', ov', un', had', fresh') ∧ EvZ (L ++ evs 1 P Q (sel (fun i => decide (md i = 1) && p i) i)) tot' kd' wh' ov' un' ∧
      (∀ j, j < n → (j < i ∧ md j = 1 ∧ p j = true → mode' j = zI 2 ∧ fresh' j = 1 ∧ had' j = (had0 j ||| ((1 : Int32) <<< (zI 1 &&& 31)))) ∧ (¬ (j < i ∧ md j = 1 ∧ p j = true) → mode' j = mode j ∧ fresh' j = fresh j ∧ had' j = had j)) ∧ ∀ j, n ≤ j → fresh' j = fresh j)
    (fun q => ∃ mode' tot' kd' wh' ov' un' had' fresh', q = (mode', tot', kd', wh', ov', un', had', fresh') ∧ EvZ (L ++ evs 1 P Q (sel (fun i => decide (md i = 1) && p i) n)) tot' kd' wh' ov' un' ∧
      (∀ j, j < n → (j < n ∧ md j = 1 ∧ p j = true → mode' j = zI 2 ∧ fresh' j = 1 ∧ had' j = (had0 j ||| ((1 : Int32) <<< (zI 1 &&& 31)))) ∧ (¬ (j < n ∧ md j = 1 ∧ p j = true) → mode' j = mode j ∧ fresh' j = fresh j ∧ had' j = had j)) ∧ ∀ j, n ≤ j → fresh' j = fresh j) n (by omega)
    ⟨mode, tot, kd, wh, ov, un, had, fresh, rfl, by simpa [sel, evs] using hE, fun j hj => ⟨fun w => absurd w.1 (by omega), fun _ => ⟨rfl, rfl, rfl⟩⟩, fun _ _ => rfl⟩ ?_ ?_
  · obtain ⟨q, e, mode', tot', kd', wh', ov', un', had', fresh', rfl, h1, h2, h9⟩ := loop
    exact ⟨mode', tot', kd', wh', ov', un', had', fresh', e, h1, fun i hi => ⟨fun w => (h2 i hi).1 ⟨hi, w⟩, fun w => (h2 i hi).2 (fun x => w x.2)⟩, h9⟩
  · rintro i z hi ⟨mode', tot', kd', wh', ov', un', had', fresh', rfl, h1, h2, h9⟩
    have hme : mode' i = mode i ∧ fresh' i = fresh i ∧ had' i = had i := (h2 i hi).2 (fun w => by omega)
    have b3 := m3_bd (md := md) (hmd i hi)
    dsimp only [un9]
    unfold fb_M_goNext_189
    rw [if_neg (by rw [zI_le (by omega) (by omega) (by omega) (by omega)]; omega), ldA_z (by omega) (by omega), Option.bind_some, hmet i hi]
    have stay : ¬ (md i = 1 ∧ p i = true) → ∃ s', fj_M_goNext_231 (zI (i : Int)) mode' tot' kd' wh' ov' un' had' fresh' = some (.inl s') ∧ ∃ mode' tot' kd' wh' ov' un' had' fresh', s' = (zI ((i + 1 : Nat) : Int), mode', tot', kd', wh', ov', un', had', fresh') ∧ EvZ (L ++ evs 1 P Q (sel (fun i => decide (md i = 1) && p i) (i + 1))) tot' kd' wh' ov' un' ∧
      (∀ j, j < n → (j < i + 1 ∧ md j = 1 ∧ p j = true → mode' j = zI 2 ∧ fresh' j = 1 ∧ had' j = (had0 j ||| ((1 : Int32) <<< (zI 1 &&& 31)))) ∧ (¬ (j < i + 1 ∧ md j = 1 ∧ p j = true) → mode' j = mode j ∧ fresh' j = fresh j ∧ had' j = had j)) ∧ ∀ j, n ≤ j → fresh' j = fresh j := fun e => by
      have es : sel (fun i => decide (md i = 1) && p i) (i + 1) = sel (fun i => decide (md i = 1) && p i) i := if_neg (by simpa using e)
      refine ⟨_, by simp only [fj_M_goNext_231, nm, zI_1], mode', tot', kd', wh', ov', un', had', fresh', rfl, by rw [es]; exact h1, fun j hj => ⟨fun w => (h2 j hj).1 ⟨?_, w.2⟩, fun w => (h2 j hj).2 (fun x => w ⟨by omega, x.2⟩)⟩, h9⟩
      by_cases q : j = i
      · subst q; exact absurd w.2 e
      · omega
    by_cases q : p i = true
    · rw [if_pos q, if_neg (by decide), ldA_z (by omega) (by omega), Option.bind_some, hme.1]
      by_cases q0 : md i = 0
      · obtain ⟨s1, s2, s3⟩ := (hst i hi).1 ⟨q0, q⟩
        rw [s1, if_pos (show zI 1 = 1 from rfl), ldA_z (by omega) (by omega), Option.bind_some, hme.2.1, s2, if_neg (by decide)]
        exact stay (fun w => by omega)
      · obtain ⟨s1, s2, s3⟩ := (hst i hi).2 (fun w => q0 w.1)
        rw [s1]
        by_cases q2 : md i = 1
        · have e3 : m3 md i = 1 := (m3_eq (by omega)).mpr q2
          have es : sel (fun i => decide (md i = 1) && p i) (i + 1) = sel (fun i => decide (md i = 1) && p i) i ++ [i] := if_pos (by simp [q2, q])
          have hl5 := sel5 (fun i => decide (md i = 1) && p i) i
          obtain ⟨t', k', b', o', u', e1, e2⟩ := begins_z (mode := mode') (x := 1) (P := P) (Q := Q) (fresh := fresh') (had := had') hn hi (by rw [hme.1, s1, e3]) 1 h1 (by rw [List.length_append, evs_len]; omega)
          rw [if_pos (by rw [e3]; rfl), ldA_z (by omega) (by omega), Option.bind_some, hme.2.1, s2, if_pos rfl, show (1 : Int32) = zI 1 from rfl, e1]
          refine ⟨_, by simp only [bd8, Option.bind_some, fj_M_goNext_231, nm, zI_1], upd mode' i (zI (1 + 1)), t', k', b', o', u', upd had' i (had' i ||| ((1 : Int32) <<< (zI 1 &&& 31))), upd fresh' i 1, rfl, ?_, fun j hj => ?_, fun j hj => by rw [upd_at, if_neg (by omega)]; exact h9 j hj⟩
          · rw [es, evs_snoc, ← List.append_assoc]; exact e2
          · rw [upd_at, upd_at, upd_at]
            by_cases w : j = i
            · subst w
              rw [if_pos rfl, if_pos rfl, if_pos rfl, hme.2.2, s3]
              exact ⟨fun _ => ⟨rfl, rfl, rfl⟩, fun x => absurd ⟨by omega, q2, q⟩ x⟩
            · rw [if_neg w, if_neg w, if_neg w]
              exact ⟨fun x => (h2 j hj).1 ⟨by omega, x.2⟩, fun x => (h2 j hj).2 (fun y => x ⟨by omega, y.2⟩)⟩
        · rw [if_neg (by rw [i1, zI_eq (by omega) (by omega) (by omega) (by omega), m3_eq (by omega)]; exact q2)]
          exact stay (fun w => q2 w.1)
    · rw [if_neg q, if_pos (show zI 0 = 0 from rfl)]
      exact stay (fun w => q w.2)
  · rintro z ⟨mode', tot', kd', wh', ov', un', had', fresh', rfl, h1, h2, h9⟩
    refine ⟨_, ?_, mode', tot', kd', wh', ov', un', had', fresh', rfl, h1, h2, h9⟩
    dsimp only [un9]
    unfold fb_M_goNext_189
    rw [if_pos (by rw [zI_le (by omega) (by omega) (by omega) (by omega)]; omega)]
theorem fst1_is {p : Nat → Bool} {g : Int} (h : (g = -1 ∧ ∀ i, i < n → p i = false) ∨ ∃ i, i < n ∧ g = (i : Int) ∧ p i = true ∧ ∀ k, k < i → p k = false) : fst1 p n = g := by
  have cs := fst1_cs p n
  have no := fst1_none (p := p) n
  rcases h with ⟨rfl, h⟩ | ⟨i, hi, rfl, hp, h⟩
  · rcases cs with c | ⟨c1, c2, c3⟩
    · exact c
    · rw [h _ c2] at c3; cases c3
  · -- the first i has it
    have e : fst1 p (i + 1) = (i : Int) := by
      have e0 : fst1 p i = -1 := by
        rcases fst1_cs p i with c | ⟨c1, c2, c3⟩
        · exact c
        · rw [h _ c2] at c3; cases c3
      simp only [fst1]
      rw [if_pos e0, if_pos hp]
    have := fst1_up (p := p) (i := i + 1) (by omega) (n - (i + 1))
    rw [show i + 1 + (n - (i + 1)) = n by omega, e] at this
    exact this
/-- who is gone -/
theorem gone_z (hn : n ≤ 5) (hF : 10 < F) {p : Nat → Bool} {md2 : Nat → Bool} {met fresh : Nat → Int32} (hmet : ∀ i, i < n → met i = zI (if p i = true then 1 else 0)) (hq : ∀ i, i < n → p i = true → ((mode i = 2 ∧ fresh i = 0) ↔ md2 i = true)) :
    ∃ fresh', iter (un3 (fb_M_goNext_246 mode met)) F ((-1 : Int32), zI ((n : Int) - 1), fresh) = some (zI (fst1 (fun i => md2 i && p i) n), fresh') ∧ (∀ i, i < n → fresh' i = 0) ∧ ∀ i, n ≤ i → fresh' i = fresh i := by
  have loop := iter_dn (body := un3 (fb_M_goNext_246 mode met))
    (fun M z => ∃ (g : Int) (f : Nat → Int32), M ≤ n ∧ z = (zI g, zI ((M : Int) - 1), f) ∧ ((g = -1 ∧ ∀ i, M ≤ i → i < n → (md2 i && p i) = false) ∨ ∃ i, M ≤ i ∧ i < n ∧ g = (i : Int) ∧ (md2 i && p i) = true ∧ ∀ k, M ≤ k → k < i → (md2 k && p k) = false) ∧ (∀ i, M ≤ i → i < n → f i = 0) ∧ (∀ i, i < M → f i = fresh i) ∧ ∀ i, n ≤ i → f i = fresh i)
    (fun q => ∃ f, q = (zI (fst1 (fun i => md2 i && p i) n), f) ∧ (∀ i, i < n → f i = 0) ∧ ∀ i, n ≤ i → f i = fresh i)
    ?_ F n ((-1 : Int32), zI ((n : Int) - 1), fresh) (by omega) ⟨-1, fresh, Nat.le_refl _, rfl, Or.inl ⟨rfl, fun i h1 h2 => absurd h1 (by omega)⟩, fun i h1 h2 => absurd h1 (by omega), fun _ _ => rfl, fun _ _ => rfl⟩
  · obtain ⟨q, e, f, rfl, h⟩ := loop
    exact ⟨f, e, h⟩
  · rintro M z ⟨g, f, hM, rfl, hg, hf, hf2, hf3⟩
    dsimp only [un3]
    unfold fb_M_goNext_246
    cases M with
    | zero =>
      left
      rw [if_pos (by decide)]
      refine ⟨_, rfl, f, ?_, fun i hi => hf i (by omega) hi, hf3⟩
      rw [fst1_is (g := g)]
      rcases hg with ⟨g1, g2⟩ | ⟨i, i1, i2, i3, i4, i5⟩
      · exact Or.inl ⟨g1, fun i hi => g2 i (by omega) hi⟩
      · exact Or.inr ⟨i, i2, i3, i4, fun k hk => i5 k (by omega) hk⟩
    | succ i =>
      right
      have hi : i < n := by omega
      have ei : ((i + 1 : Nat) : Int) - 1 = (i : Int) := by omega
      rw [ei, if_neg (by rw [i0, zI_lt (by omega) (by omega) (by omega) (by omega)]; omega), ldA_z (by omega) (by omega), Option.bind_some, hmet i hi]
      have fin : ∀ g' : Int, ((md2 i && p i) = true ∧ g' = (i : Int) ∨ (md2 i && p i) = false ∧ g' = g) → ∃ m' s', m' < i + 1 ∧ fj_M_goNext_280 (zI g') (zI (i : Int)) f = some (.inl s') ∧ ∃ (g : Int) (f : Nat → Int32), m' ≤ n ∧ s' = (zI g, zI ((m' : Int) - 1), f) ∧ ((g = -1 ∧ ∀ i, m' ≤ i → i < n → (md2 i && p i) = false) ∨ ∃ i, m' ≤ i ∧ i < n ∧ g = (i : Int) ∧ (md2 i && p i) = true ∧ ∀ k, m' ≤ k → k < i → (md2 k && p k) = false) ∧ (∀ i, m' ≤ i → i < n → f i = 0) ∧ (∀ i, i < m' → f i = fresh i) ∧ ∀ i, n ≤ i → f i = fresh i := by
        intro g' hc
        refine ⟨i, (zI g', zI ((i : Int) - 1), upd f i 0), by omega, ?_, g', _, by omega, rfl, ?_, fun k k1 k2 => ?_, fun k hk => ?_, fun k hk => by rw [upd_at, if_neg (by omega)]; exact hf3 k hk⟩
        · unfold fj_M_goNext_280
          rw [stZ_z (by omega) (by omega) rfl, Option.bind_some]
          simp only [nm]
          rw [im1, zI_add]; rfl
        · rcases hc with ⟨c1, rfl⟩ | ⟨c1, rfl⟩
          · exact Or.inr ⟨i, Nat.le_refl _, hi, rfl, c1, fun k k1 k2 => absurd k1 (by omega)⟩
          · rcases hg with ⟨g1, g2⟩ | ⟨l, l1, l2, l3, l4, l5⟩
            · refine Or.inl ⟨g1, fun k k1 k2 => ?_⟩
              by_cases e : k = i
              · subst e; exact c1
              · exact g2 k (by omega) k2
            · refine Or.inr ⟨l, by omega, l2, l3, l4, fun k k1 k2 => ?_⟩
              by_cases e : k = i
              · subst e; exact c1
              · exact l5 k (by omega) k2
        · rw [upd_at]
          by_cases e : k = i
          · rw [if_pos e]
          · rw [if_neg e]; exact hf k (by omega) k2
        · rw [upd_at, if_neg (by omega)]; exact hf2 k (by omega)
      by_cases q : p i = true
      · have hqi := hq i hi q
        rw [if_pos q, if_neg (by decide), ldA_z (by omega) (by omega), Option.bind_some]
        by_cases q2 : mode i = 2
        · rw [if_pos q2, ldA_z (by omega) (by omega), Option.bind_some, hf2 i (by omega)]
          by_cases q3 : fresh i = 0
          · rw [if_pos q3]
            exact fin (i : Int) (Or.inl ⟨by rw [hqi.mp ⟨q2, q3⟩, q]; rfl, rfl⟩)
          · rw [if_neg q3]
            refine fin g (Or.inr ⟨?_, rfl⟩)
            have : ¬ md2 i = true := fun w => q3 (hqi.mpr w).2
            simp [this]
        · rw [if_neg q2]
          refine fin g (Or.inr ⟨?_, rfl⟩)
          have : ¬ md2 i = true := fun w => q2 (hqi.mpr w).1
          simp [this]
      · rw [if_neg q, if_pos (show zI 0 = 0 from rfl)]
        exact fin g (Or.inr ⟨by simp [q], rfl⟩)
end MGO
