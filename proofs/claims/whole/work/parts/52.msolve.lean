/-! THE MODEL: lines of the modes, the next load -/
/-- the lines stand in the model's fields -/
def SOk (n : Nat) (D : Int) (fr fs dr ds : Nat → Int) (un : Int64) (sl ba ss sb : Nat → Int64) : Prop :=
  un = zL D ∧ (∀ i, i < n → sl i = zL (fr i)) ∧ (∀ i, i < n → ba i = zL (fs i)) ∧ (∀ i, i < n → ss i = zL (dr i)) ∧ ∀ i, i < n → sb i = zL (ds i)
/-- the model's modes: one for all that are not live -/
def m3 (md : Nat → Int) (i : Nat) : Int := if md i ≤ 2 then md i else 3
theorem m3_bd {md : Nat → Int} {i : Nat} (h : 0 ≤ md i) : 0 ≤ m3 md i ∧ m3 md i ≤ 3 := by
  unfold m3
  by_cases q : md i ≤ 2
  · rw [if_pos q]; omega
  · rw [if_neg q]; omega
theorem m3_eq {md : Nat → Int} {i : Nat} {c : Int} (hc : c ≤ 2) : m3 md i = c ↔ md i = c := by
  unfold m3
  by_cases q : md i ≤ 2
  · rw [if_pos q]
  · rw [if_neg q]; omega
theorem kW_m3 {nv : Nat → Nat → Int} {md : Nat → Int} {i : Nat} : kW nv (m3 md) i = kW nv md i := by
  unfold kW
  simp only [m3_eq (md := md) (i := i) (c := 1) (by omega), m3_eq (md := md) (i := i) (c := 2) (by omega)]
theorem rW_m3 {nv : Nat → Nat → Int} {md : Nat → Int} {i : Nat} : rW nv (m3 md) i = rW nv md i := by
  unfold rW
  simp only [m3_eq (md := md) (i := i) (c := 2) (by omega)]
theorem lns_m3 {n : Nat} {nv : Nat → Nat → Int} {A B : Int} {md : Nat → Int} {D : Int} {fr fs dr ds : Nat → Int} (h : Lns n nv A B (m3 md) D fr fs dr ds) : Lns n nv A B md D fr fs dr ds := by
  have e1 : kW nv (m3 md) = kW nv md := by funext i; exact kW_m3
  have e2 : rW nv (m3 md) = rW nv md := by funext i; exact rW_m3
  unfold Lns at h ⊢
  rw [e1, e2] at h
  exact h
section MSOLVE
variable {n : Nat} {nv : Nat → Nat → Int} {A B : Int} {now mode : Nat → Int32} {md : Nat → Int} {F : Nat}
theorem offsets_z (hn : n ≤ 5) (hF : 10 < F) (hv : NvOk n nv) (h : ∀ i, i < n → ∀ q, q < 7 → now (7 * i + q) = zI (nv i q)) (hm : ∀ i, i < n → mode i = zI (md i) ∧ 0 ≤ md i ∧ md i ≤ 3) (of0 : Nat → Int64) :
    ∃ of', f_M_layOffsets F now (zI (n : Int)) mode of0 = some of' ∧ ∀ i, i < n → of' i = zL (rW nv md i) := by
  have loop := iter_for (body := un2 (fb_M_layOffsets_2 now (zI (n : Int)) mode)) (F := F) (s := ((0 : Int32), of0)) (fun i z => ∃ f, z = (zI (i : Int), f) ∧ ∀ j, j < i → f j = zL (rW nv md j)) (fun q => ∀ j, j < n → q j = zL (rW nv md j)) n (by omega) ⟨of0, rfl, fun j hj => absurd hj (by omega)⟩ ?_ ?_
  · obtain ⟨q, e, h⟩ := loop
    refine ⟨q, ?_, h⟩
    unfold f_M_layOffsets
    rw [e, Option.bind_some]
  · rintro i z hi ⟨f, rfl, hf⟩
    obtain ⟨m1, m2, m3'⟩ := hm i hi
    have v := hv i hi
    have u1 := upL_of (g := rW nv md) hf
    have OF := fun {q : Nat} (hq : q < 7) => of_z hn h hi hq
    dsimp only [un2]
    unfold fb_M_layOffsets_2
    rw [if_neg (by rw [zI_le (by omega) (by omega) (by omega) (by omega)]; omega), show (1 : Int32) = zI ((1 : Nat) : Int) from rfl, OF (by omega), Option.bind_some, ldA_z (by omega) (by omega), Option.bind_some, m1]
    have b := rW_bd (md := md) hv i hi
    have fin : ∀ x : Int, x = rW nv md i → ∃ s', fj_M_layOffsets_55 (zI (i : Int)) (zI (i : Int)) (zI (nv i 1)) (zI (x - nv i 1)) f = some (.inl s') ∧ ∃ f', s' = (zI ((i + 1 : Nat) : Int), f') ∧ ∀ j, j < i + 1 → f' j = zL (rW nv md j) := by
      rintro x rfl
      unfold fj_M_layOffsets_55
      rw [zI_add, show nv i 1 + (rW nv md i - nv i 1) = rW nv md i by omega, zI_l (by omega) (by omega), stL_z (by omega) (by omega), Option.bind_some]
      simp only [nm, zI_1]
      exact ⟨_, rfl, _, rfl, u1⟩
    by_cases q : md i = 2
    · rw [if_pos (by rw [q]; rfl), show (0 : Int32) = zI ((0 : Nat) : Int) from rfl, OF (by omega), Option.bind_some, show (3 : Int32) = zI ((3 : Nat) : Int) from rfl, OF (by omega), Option.bind_some, show (2 : Int32) = zI ((2 : Nat) : Int) from rfl, OF (by omega), Option.bind_some, zI_sub, zI_mul]
      have e : (nv i 0 - nv i 3) * nv i 2 = rW nv md i - nv i 1 := by unfold rW; rw [if_pos q]; omega
      rw [e]
      exact fin _ rfl
    · rw [if_neg (by rw [i2, zI_eq (by omega) (by omega) (by omega) (by omega)]; exact q)]
      have e : (0 : Int32) = zI (rW nv md i - nv i 1) := by unfold rW; rw [if_neg q, Int.sub_self]; rfl
      rw [e]
      exact fin _ rfl
  · rintro z ⟨f, rfl, hf⟩
    refine ⟨f, ?_, hf⟩
    dsimp only [un2]
    unfold fb_M_layOffsets_2
    rw [if_pos (by rw [zI_le (by omega) (by omega) (by omega) (by omega)]; omega)]
theorem msolve_z (hn : n ≤ 5) (hF : 40 < F) (hv : NvOk n nv) (hA : 0 ≤ A ∧ A ≤ 2) (hB : 0 ≤ B ∧ B ≤ 2) (h : ∀ i, i < n → ∀ q, q < 7 → now (7 * i + q) = zI (nv i q)) (hm : ∀ i, i < n → mode i = zI (m3 md i) ∧ 0 ≤ md i) (hs : ∃ i, i < n ∧ (md i = 1 ∨ md i = 2))
    (un0 : Int64) (sl0 ba0 ss0 sb0 of0 : Nat → Int64) (be0 : Nat → Int32) (bs0 : Int32) (ma0 : Nat → Int64) :
    ∃ (D : Int) (fr fs dr ds : Nat → Int) (un : Int64) (sl ba ss sb of' : Nat → Int64) (be' : Nat → Int32) (bs' : Int32) (ma' : Nat → Int64), f_M_solve F now (zI (n : Int)) (zI A) (zI B) mode un0 sl0 ba0 ss0 sb0 of0 be0 bs0 ma0 = some (un, sl, ba, ss, sb, of', be', bs', ma') ∧ Lns n nv A B md D fr fs dr ds ∧ D ≤ 299269 ∧ SOk n D fr fs dr ds un sl ba ss sb := by
  have hm' : ∀ i, i < n → mode i = zI (m3 md i) ∧ 0 ≤ m3 md i ∧ m3 md i ≤ 3 := fun i hi => ⟨(hm i hi).1, m3_bd (hm i hi).2⟩
  obtain ⟨of1, e1, ho⟩ := offsets_z (F := F) hn (by omega) hv h hm' of0
  obtain ⟨i, hi, hi2⟩ := hs
  obtain ⟨D, fr, fs, dr, ds, s1, b1, ss1, sb1, be1, bs1, mat1, e2, hS, hD, h1, h2, h3, h4⟩ := solveBy_z (F := F) (A := A) (B := B) (rr := rW nv (m3 md)) (off := of1) hn hF (geo_nv hv hA hB) hv h hm' ho (fun i hi => by have := rW_bd (md := m3 md) hv i hi; omega) ⟨i, hi, (kM_pos hv hi).mpr (by rw [m3_eq (by omega), m3_eq (by omega)]; exact hi2)⟩ un0 sl0 ba0 ss0 sb0 be0 bs0 ma0
  refine ⟨D, fr, fs, dr, ds, zL D, s1, b1, ss1, sb1, of1, be1, bs1, mat1, ?_, lns_m3 hS, hD, rfl, h1, h2, h3, h4⟩
  unfold f_M_solve
  rw [e1, Option.bind_some, e2]
  rfl
theorem meets_z {s b bd nO nU : Int} {nO' : Int64} (hs : 0 < s) (hs2 : s ≤ 25 * 299269) (h1 : -(400 * 299269) ≤ bd - b) (h2 : bd - b ≤ 400 * 299269) (hU : 0 ≤ nU) (hU2 : nU ≤ 25 * 299269) (hO : 0 < nU → nO' = zL nO ∧ -(400 * 299269) ≤ nO ∧ nO ≤ 400 * 299269) :
    ((nU = 0 ∨ (bd - b) * nU < nO * s) ∧ f_M_meets (zL s) (zL b) (zL bd) nO' (zL nU) = some (zL (bd - b), zL s)) ∨ (0 < nU ∧ nO * s ≤ (bd - b) * nU ∧ f_M_meets (zL s) (zL b) (zL bd) nO' (zL nU) = some (nO', zL nU)) := by
  unfold f_M_meets
  rw [if_pos (by rw [l0z, zL_lt (by omega) (by omega) (by omega) (by omega)]; exact hs)]
  simp only [nm, zL_sub]
  by_cases q : nU = 0
  · left
    rw [if_pos (by rw [q]; rfl)]
    exact ⟨Or.inl q, rfl⟩
  · rw [if_neg (by rw [l0z, zL_eq (by omega) (by omega) (by omega) (by omega)]; exact q)]
    obtain ⟨o1, o2, o3⟩ := hO (by omega)
    have c1 := abs_mul_bd (a := bd - b) (b := nU) (x := 400 * 299269) (y := 25 * 299269) h1 h2 (by omega) hU2
    have c2 := abs_mul_bd (a := nO) (b := s) (x := 400 * 299269) (y := 25 * 299269) o2 o3 (by omega) hs2
    rw [o1, zL_mul, zL_mul]
    by_cases q2 : (bd - b) * nU < nO * s
    · left
      rw [if_pos (by rw [zL_lt (by omega) (by omega) (by omega) (by omega)]; exact q2)]
      exact ⟨Or.inr q2, rfl⟩
    · right
      rw [if_neg (by rw [zL_lt (by omega) (by omega) (by omega) (by omega)]; exact q2)]
      exact ⟨by omega, by omega, rfl⟩
/-- the least load so far -/
def NxL (i : Nat) (nv : Nat → Nat → Int) (md : Nat → Int) (D : Int) (fr fs dr ds : Nat → Int) (nO nU : Int) : Prop :=
  0 ≤ nU ∧ (nU = 0 → ∀ j, j < i → dun md true fr dr j ≤ 0) ∧ (0 < nU → (∃ j, j < i ∧ 0 < dun md true fr dr j ∧ nO = dov nv md D fs ds j ∧ nU = dun md true fr dr j) ∧ ∀ j, j < i → 0 < dun md true fr dr j → nO * dun md true fr dr j ≤ dov nv md D fs ds j * nU)
theorem NxL.skip {i : Nat} {D : Int} {fr fs dr ds : Nat → Int} {nO nU : Int} (h : NxL i nv md D fr fs dr ds nO nU) (hz : dun md true fr dr i ≤ 0) : NxL (i + 1) nv md D fr fs dr ds nO nU := by
  obtain ⟨h1, h2, h3⟩ := h
  refine ⟨h1, fun q j hj => ?_, fun q => ?_⟩
  · by_cases e : j = i
    · subst e; exact hz
    · exact h2 q j (by omega)
  · obtain ⟨⟨j, j1, j2⟩, k⟩ := h3 q
    refine ⟨⟨j, by omega, j2⟩, fun l hl hl2 => ?_⟩
    by_cases e : l = i
    · subst e; omega
    · exact k l (by omega) hl2
theorem NxL.take {i : Nat} {D : Int} {fr fs dr ds : Nat → Int} {nO nU : Int} (h : NxL i nv md D fr fs dr ds nO nU) (hp : 0 < dun md true fr dr i) (ht : nU = 0 ∨ dov nv md D fs ds i * nU < nO * dun md true fr dr i) : NxL (i + 1) nv md D fr fs dr ds (dov nv md D fs ds i) (dun md true fr dr i) := by
  obtain ⟨h1, h2, h3⟩ := h
  refine ⟨by omega, fun q => absurd q (by omega), fun _ => ⟨⟨i, by omega, hp, rfl, rfl⟩, fun l hl hl2 => ?_⟩⟩
  by_cases e : l = i
  · subst e; exact Int.le_refl _
  · rcases Int.lt_or_eq_of_le h1 with q | q
    · obtain ⟨-, k⟩ := h3 q
      have a1 := k l (by omega) hl2
      have a0 := ht.resolve_left (by omega)
      refine Int.not_lt.mp fun hlt => ?_
      have a2 : dov nv md D fs ds i * nU * dun md true fr dr l < nO * dun md true fr dr i * dun md true fr dr l := Int.mul_lt_mul_of_pos_right a0 hl2
      have a3 : nO * dun md true fr dr l * dun md true fr dr i ≤ dov nv md D fs ds l * nU * dun md true fr dr i := Int.mul_le_mul_of_nonneg_right a1 (by omega)
      have a4 : 0 < (dov nv md D fs ds i * dun md true fr dr l - dov nv md D fs ds l * dun md true fr dr i) * nU := Int.mul_pos (by omega) q
      have e1 : (dov nv md D fs ds i * dun md true fr dr l - dov nv md D fs ds l * dun md true fr dr i) * nU = dov nv md D fs ds i * nU * dun md true fr dr l - dov nv md D fs ds l * nU * dun md true fr dr i := by grind
      have e2 : nO * dun md true fr dr i * dun md true fr dr l = nO * dun md true fr dr l * dun md true fr dr i := by grind
      omega
    · have := h2 q.symm l (by omega)
      omega
theorem NxL.keep {i : Nat} {D : Int} {fr fs dr ds : Nat → Int} {nO nU : Int} (h : NxL i nv md D fr fs dr ds nO nU) (hU : 0 < nU) (ht : nO * dun md true fr dr i ≤ dov nv md D fs ds i * nU) : NxL (i + 1) nv md D fr fs dr ds nO nU := by
  obtain ⟨h1, h2, h3⟩ := h
  refine ⟨h1, fun q => absurd q (by omega), fun q => ?_⟩
  obtain ⟨⟨j, j1, j2⟩, k⟩ := h3 q
  refine ⟨⟨j, by omega, j2⟩, fun l hl hl2 => ?_⟩
  by_cases e : l = i
  · subst e; exact ht
  · exact k l (by omega) hl2
end MSOLVE
