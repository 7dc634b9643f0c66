/-! SETTLES: who is due, and the ways at a load -/
def IsDue (nv : Nat → Nat → Int) (md : Nat → Int) (br : Bool) (D : Int) (fr fs dr ds : Nat → Int) (sO sU : Int) (i : Nat) : Bool := decide (0 < dun md br fr dr i ∧ dov nv md D fs ds i * sU = sO * dun md br fr dr i)
/-- the way of a bolt past the load that is next -/
def upW (nv : Nat → Nat → Int) (md : Nat → Int) (br : Bool) (D : Int) (fr fs dr ds : Nat → Int) (sO sU : Int) (i : Nat) : Int := if IsDue nv md br D fr fs dr ds sO sU i = true ∧ md i < 2 then md i + 1 else md i
section SETTLE
variable {n : Nat} {nv : Nat → Nat → Int} {A B : Int} {md : Nat → Int} {br : Bool} {D : Int} {fr fs dr ds : Nat → Int} {sO sU : Int} {dO dU : Nat → Int64} {F : Nat}
theorem isDue_z (hn : n ≤ 5) (hv : NvOk n nv) (hb : ∀ i, i < n → 0 ≤ fr i ∧ fr i ≤ D ∧ 0 < dr i ∧ dr i ≤ 25 * D ∧ -(249 * D) ≤ fs i ∧ fs i ≤ 249 * D ∧ -(240 * D) ≤ ds i ∧ ds i ≤ 9 * D) (hD : 0 < D) (hD2 : D ≤ 299269) (h : DueOk n nv md br D fr fs dr ds dO dU sO sU) (h0 : 0 < sU) (h1 : sU ≤ 25 * 299269) (h2 : -(400 * 299269) ≤ sO ∧ sO ≤ 400 * 299269) {i : Nat} (hi : i < n) :
    f_G_isDue (zI (i : Int)) dO dU (zL sO) (zL sU) = some (zI (if IsDue nv md br D fr fs dr ds sO sU i = true then 1 else 0)) := by
  obtain ⟨d1, d2⟩ := h.1 i hi
  have b1 := dun_bd (md := md) (br := br) (fun i hi => by have := hb i hi; exact ⟨this.1, this.2.1, this.2.2.1, this.2.2.2.1⟩) hD i hi
  have b2 := dov_bd (md := md) hv (fun i hi => by have := hb i hi; exact ⟨this.2.2.2.2.1, this.2.2.2.2.2.1, this.2.2.2.2.2.2.1, this.2.2.2.2.2.2.2⟩) hD i hi
  unfold f_G_isDue
  rw [ldA_z (by omega) (by omega), Option.bind_some, d1, l0z]
  by_cases q : 0 < dun md br fr dr i
  · have c1 := abs_mul_bd (a := dov nv md D fs ds i) (b := sU) (x := 400 * 299269) (y := 25 * 299269) (by omega) (by omega) (by omega) (by omega)
    have c2 := abs_mul_bd (a := sO) (b := dun md br fr dr i) (x := 400 * 299269) (y := 25 * 299269) (by omega) (by omega) (by omega) (by omega)
    rw [if_neg (by rw [zL_le (by omega) (by omega) (by omega) (by omega)]; omega), ldA_z (by omega) (by omega), Option.bind_some, Option.bind_some, d2 q, zL_mul, zL_mul]
    by_cases e : dov nv md D fs ds i * sU = sO * dun md br fr dr i
    · rw [if_pos (by rw [e]), if_pos (show IsDue nv md br D fr fs dr ds sO sU i = true from decide_eq_true ⟨q, e⟩)]; rfl
    · rw [if_neg (by rw [zL_eq (by omega) (by omega) (by omega) (by omega)]; exact e), if_neg (fun w => e (of_decide_eq_true w).2)]; rfl
  · rw [if_pos (by rw [zL_le (by omega) (by omega) (by omega) (by omega)]; omega), if_neg (fun w => q (of_decide_eq_true w).1)]; rfl
theorem raise_z (hn : n ≤ 5) (hF : 10 < F) (hv : NvOk n nv) (hb : ∀ i, i < n → 0 ≤ fr i ∧ fr i ≤ D ∧ 0 < dr i ∧ dr i ≤ 25 * D ∧ -(249 * D) ≤ fs i ∧ fs i ≤ 249 * D ∧ -(240 * D) ≤ ds i ∧ ds i ≤ 9 * D) (hD : 0 < D) (hD2 : D ≤ 299269) (h : DueOk n nv md br D fr fs dr ds dO dU sO sU) (h0 : 0 < sU) (h1 : sU ≤ 25 * 299269) (h2 : -(400 * 299269) ≤ sO ∧ sO ≤ 400 * 299269) {way : Nat → Int32} (hw : ∀ i, i < n → way i = zI (md i) ∧ 0 ≤ md i ∧ md i ≤ 4) :
    ∃ way' : Nat → Int32, f_G_raiseDue F way dO dU (zL sO) (zL sU) (zI (n : Int)) = some way' ∧ ∀ i, i < n → way' i = zI (upW nv md br D fr fs dr ds sO sU i) := by
  have loop := iter_for (body := un2 (fb_G_raiseDue_2 dO dU (zL sO) (zL sU) (zI (n : Int)))) (F := F) (s := ((0 : Int32), way)) (fun i z => ∃ w, z = (zI (i : Int), w) ∧ (∀ j, j < i → w j = zI (upW nv md br D fr fs dr ds sO sU j)) ∧ ∀ j, i ≤ j → w j = way j) (fun q => ∀ j, j < n → q j = zI (upW nv md br D fr fs dr ds sO sU j)) n (by omega) ⟨way, rfl, fun j hj => absurd hj (by omega), fun j hj => rfl⟩ ?_ ?_
  · obtain ⟨q, e, h⟩ := loop
    refine ⟨q, ?_, h⟩
    unfold f_G_raiseDue
    rw [e, Option.bind_some]
  · rintro i z hi ⟨w, rfl, hl, hr⟩
    obtain ⟨w1, w2, w3⟩ := hw i hi
    have u1 := upI_of (g := upW nv md br D fr fs dr ds sO sU) hl
    dsimp only [un2]
    unfold fb_G_raiseDue_2
    rw [if_neg (by rw [zI_le (by omega) (by omega) (by omega) (by omega)]; omega), isDue_z hn hv hb hD hD2 h h0 h1 h2 hi, Option.bind_some]
    have stay : upW nv md br D fr fs dr ds sO sU i = md i → (fj_G_raiseDue_41 (zI (i : Int)) w = some (.inl (zI ((i + 1 : Nat) : Int), w)) ∧ ∃ w', (zI ((i + 1 : Nat) : Int), w) = (zI ((i + 1 : Nat) : Int), w') ∧ (∀ j, j < i + 1 → w' j = zI (upW nv md br D fr fs dr ds sO sU j)) ∧ ∀ j, i + 1 ≤ j → w' j = way j) := fun e => by
      refine ⟨by simp only [fj_G_raiseDue_41, nm, zI_1], w, rfl, fun j hj => ?_, fun j hj => hr j (by omega)⟩
      by_cases q : j = i
      · subst q; rw [hr j (by omega), w1, e]
      · exact hl j (by omega)
    by_cases q : IsDue nv md br D fr fs dr ds sO sU i = true
    · rw [if_pos q, if_neg (by decide), ldA_z (by omega) (by omega), Option.bind_some, hr i (by omega), w1, i2]
      by_cases q2 : md i < 2
      · have ea : zI (md i) + (1 : Int32) = zI (md i + 1) := by rw [i1, zI_add]
        rw [if_neg (by rw [zI_le (by omega) (by omega) (by omega) (by omega)]; omega), Option.bind_some, ea, stI_z (by omega) (by omega), Option.bind_some]
        have e : upW nv md br D fr fs dr ds sO sU i = md i + 1 := if_pos ⟨q, q2⟩
        rw [e] at u1
        refine ⟨(zI ((i + 1 : Nat) : Int), upd w i (zI (md i + 1))), by simp only [fj_G_raiseDue_41, nm, zI_1], _, rfl, u1, fun j hj => ?_⟩
        rw [upd_at, if_neg (by omega), hr j (by omega)]
      · rw [if_pos (by rw [zI_le (by omega) (by omega) (by omega) (by omega)]; omega)]
        obtain ⟨s1, s2⟩ := stay (if_neg (fun w => q2 w.2))
        exact ⟨_, s1, s2⟩
    · rw [if_neg q, if_pos (show zI 0 = 0 from rfl)]
      obtain ⟨s1, s2⟩ := stay (if_neg (fun w => q w.1))
      exact ⟨_, s1, s2⟩
  · rintro z ⟨w, rfl, hl, -⟩
    refine ⟨w, ?_, hl⟩
    dsimp only [un2]
    unfold fb_G_raiseDue_2
    rw [if_pos (by rw [zI_le (by omega) (by omega) (by omega) (by omega)]; omega)]
/-- at the load that is next -/
theorem due_step (hw : ∀ i, i < n → 0 ≤ md i) : Step n nv md (upW nv md br D fr fs dr ds sO sU) D fr fs dr ds sO sU := by
  intro i hi
  unfold upW
  by_cases q : IsDue nv md br D fr fs dr ds sO sU i = true ∧ md i < 2
  · rw [if_pos q]
    have := hw i hi
    obtain ⟨q0, q3⟩ := q
    obtain ⟨q1, q2⟩ := of_decide_eq_true q0
    by_cases m : md i = 0
    · refine Or.inr (Or.inl ⟨m, by omega, ?_⟩)
      have e1 : dun md br fr dr i = dr i := if_pos m
      have e2 : dov nv md D fs ds i = nv i 1 * D - ds i := if_pos m
      rw [e1, e2] at q2
      exact till_eq.mp q2
    · have m1 : md i = 1 := by omega
      refine Or.inr (Or.inr ⟨m1, by omega, ?_⟩)
      have e1 : dun md br fr dr i = fr i := by unfold dun; rw [if_neg m, if_pos m1]
      have e2 : dov nv md D fs ds i = nv i 2 * D - fs i := by unfold dov; rw [if_neg m, if_pos m1]
      rw [e1, e2] at q2
      exact till_eq.mp q2
  · rw [if_neg q]; exact Or.inl rfl
theorem due_till (h : DueOk n nv md br D fr fs dr ds dO dU sO sU) (h0 : 0 < sU) : Till n nv md D fr fs dr ds sO sU := by
  intro i hi hp
  have e : dun md false fr dr i = dun md br fr dr i := by
    unfold dun at hp ⊢
    by_cases m0 : md i = 0
    · rw [if_pos m0, if_pos m0]
    · rw [if_neg m0, if_neg m0]
      by_cases m1 : md i = 1
      · rw [if_pos m1, if_pos m1]
      · rw [if_neg m0, if_neg m1, if_neg (by simp)] at hp; omega
  rw [e] at hp ⊢
  exact (h.2.2.2 h0).2 i hi hp
/-- the next load is not before the one at which the ways hold -/
theorem due_past {P Q : Int} (hv : NvOk n nv) (hA : 0 ≤ A ∧ A ≤ 2) (hB : 0 ≤ B ∧ B ≤ 2) (hS : Sol n (fun i => nv i 6) A B (kW nv md) (rW nv md) D fr fs dr ds) (hQ : 0 < Q) (hN : Near n nv md D fr fs dr ds P Q) (h : DueOk n nv md false D fr fs dr ds dO dU sO sU) (h0 : 0 < sU) : P * sU ≤ sO * Q := by
  obtain ⟨⟨j, j1, j2, j3, j4⟩, -⟩ := h.2.2.2 h0
  obtain ⟨n0, n1, n2⟩ := hN j j1
  rw [j3, j4]
  by_cases m0 : md j = 0
  · have e1 : dun md false fr dr j = dr j := if_pos m0
    have e2 : dov nv md D fs ds j = nv j 1 * D - ds j := if_pos m0
    rw [e1, e2]
    exact till_iff.mpr (n0 m0)
  · by_cases m1 : md j = 1
    · have e1 : dun md false fr dr j = fr j := by unfold dun; rw [if_neg m0, if_pos m1]
      have e2 : dov nv md D fs ds j = nv j 2 * D - fs j := by unfold dov; rw [if_neg m0, if_pos m1]
      rw [e1, e2]
      exact till_iff.mpr (n1 m1).2
    · have e1 : dun md false fr dr j = 0 := by unfold dun; rw [if_neg m0, if_neg m1, if_neg (by simp)]
      omega
/-- the state at no load -/
theorem start_near {m : Nat} {k : Int} (hv : NvOk n nv) (hA : 0 ≤ A ∧ A ≤ 2) (hB : 0 ≤ B ∧ B ≤ 2) (hk : Lst n nv m k) (hS : Sol n (fun i => nv i 6) A B (kW nv (mdS nv m k)) (rW nv (mdS nv m k)) D fr fs dr ds) : (∀ i, i < n → fs i = 0 ∧ ds i = k * D) ∧ Near n nv (mdS nv m k) D fr fs dr ds 0 1 := by
  have hG := geo_nv hv hA hB
  have hkk := fun i hi => (kW_bd (md := mdS nv m k) hv i hi).1
  have hD := hS.1
  have md12 : ∀ i, ¬ mdS nv m k i = 2 ∧ (mdS nv m k i = 1 → nv i 1 = k) ∧ (mdS nv m k i = 0 → m.testBit i = true) := fun i => by
    unfold mdS
    by_cases b : m.testBit i = true
    · rw [if_pos b]
      by_cases q : nv i 1 = k
      · rw [if_pos q]; exact ⟨by omega, fun _ => q, fun w => by omega⟩
      · rw [if_neg q]; exact ⟨by omega, fun w => by omega, fun _ => b⟩
    · rw [if_neg b]
      by_cases q : nv i 5 = 0
      · rw [if_pos q]; exact ⟨by omega, fun w => by omega, fun w => by omega⟩
      · rw [if_neg q]; exact ⟨by omega, fun w => by omega, fun w => by omega⟩
  have hz := lin_zero (k := kW nv (mdS nv m k)) (g := fs) (e := fun i => ds i - k * D) hG hkk (hS.some hkk) (fun i hi e0 => (hS.2.1 i hi e0).2)
    (fun i hi hp => by
      have l := (hS.2.2.1 i hi hp).2
      have m1 : mdS nv m k i = 1 := by have := (kW_pos hv hi).mp hp; have := (md12 i).1; omega
      have er : rW nv (mdS nv m k) i = k := by unfold rW; rw [if_neg (by omega), (md12 i).2.1 m1]
      show ds i - k * D = _
      rw [l, er]; omega) hS.2.2.2.2.1
    (fun i hi => by
      have := hS.2.2.2.2.2.2 i hi
      dsimp only at this ⊢
      omega)
  have hz' : ∀ i, i < n → fs i = 0 ∧ ds i = k * D := fun i hi => by obtain ⟨a, b⟩ := hz i hi; omega
  refine ⟨hz', fun i hi => ?_⟩
  obtain ⟨z1, z2⟩ := hz' i hi
  obtain ⟨m2, m1, m0⟩ := md12 i
  have v := hv i hi
  rw [z1, z2]
  simp only [Int.mul_one, Int.mul_zero, Int.zero_add]
  refine ⟨fun e => ?_, fun e => ?_, fun e => absurd e m2⟩
  · rcases hk with ⟨-, h⟩ | ⟨-, h⟩
    · have := m0 e; rw [h i hi] at this; cases this
    · have := Int.mul_le_mul_of_nonneg_right (h i hi (m0 e)) (show 0 ≤ D by omega)
      omega
  · have := Int.mul_nonneg (show 0 ≤ nv i 2 by omega) (show 0 ≤ D by omega)
    omega
end SETTLE
