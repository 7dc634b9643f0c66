/-! THE CLASS: the next load at which a bolt leaves its line -/
def JOk (n : Nat) (nv : Nat → Nat → Int) (g c y s u pit : Nat → Int32) : Prop :=
  (∀ i, i < n → g i = zI (nv i 0)) ∧ (∀ i, i < n → c i = zI (nv i 1)) ∧ (∀ i, i < n → y i = zI (nv i 2)) ∧ (∀ i, i < n → s i = zI (nv i 3)) ∧ (∀ i, i < n → u i = zI (nv i 4)) ∧ ∀ i, i + 1 < n → pit i = zI (nv i 6)
def dov (nv : Nat → Nat → Int) (md : Nat → Int) (D : Int) (fs ds : Nat → Int) (i : Nat) : Int := if md i = 0 then nv i 1 * D - ds i else if md i = 1 then nv i 2 * D - fs i else nv i 4 * D - fs i
def dun (md : Nat → Int) (br : Bool) (fr dr : Nat → Int) (i : Nat) : Int := if md i = 0 then dr i else if md i = 1 then fr i else if md i = 2 ∧ br = true then fr i else 0
theorem upI_of {f : Nat → Int32} {g : Nat → Int} {i : Nat} (h : ∀ j, j < i → f j = zI (g j)) : ∀ j, j < i + 1 → upd f i (zI (g i)) j = zI (g j) := by
  intro j hj
  rw [upd_at]
  by_cases q : j = i
  · rw [if_pos q, q]
  · rw [if_neg q]; exact h j (by omega)
theorem rW_bd {n : Nat} {nv : Nat → Nat → Int} {md : Nat → Int} (hv : NvOk n nv) : ∀ i, i < n → -240 ≤ rW nv md i ∧ rW nv md i ≤ 9 := by
  intro i hi
  have := hv i hi
  unfold rW
  by_cases h : md i = 2
  · rw [if_pos h]
    have h1 := mul_bd (show 0 ≤ nv i 3 - nv i 0 by omega) (show 0 ≤ nv i 2 by omega) (show nv i 3 - nv i 0 ≤ 8 by omega) (show nv i 2 ≤ 30 by omega)
    have h2 : (nv i 0 - nv i 3) * nv i 2 = - ((nv i 3 - nv i 0) * nv i 2) := by rw [← Int.neg_mul]; congr 1; omega
    omega
  · rw [if_neg h]; omega
theorem kW_bd {n : Nat} {nv : Nat → Nat → Int} {md : Nat → Int} (h : NvOk n nv) : ∀ i, i < n → 0 ≤ kW nv md i ∧ kW nv md i ≤ 9 := kM_bd h
theorem kW_pos {n : Nat} {nv : Nat → Nat → Int} {md : Nat → Int} (h : NvOk n nv) {i : Nat} (hi : i < n) : 0 < kW nv md i ↔ md i = 1 ∨ md i = 2 := kM_pos h hi
/-- all that is in lines, by their unit -/
theorem Sol.bounds {n : Nat} (hn : n ≤ 5) {w : Nat → Int} {A B : Int} {k r : Nat → Int} {D : Int} {fr fs dr ds : Nat → Int} (hG : Geo n w A B) (hk : ∀ i, i < n → 0 ≤ k i ∧ k i ≤ 9) (hr : ∀ i, i < n → -240 ≤ r i ∧ r i ≤ 9) (h : Sol n w A B k r D fr fs dr ds) :
    ∀ i, i < n → 0 ≤ fr i ∧ fr i ≤ D ∧ 0 < dr i ∧ dr i ≤ 25 * D ∧ -(249 * D) ≤ fs i ∧ fs i ≤ 249 * D ∧ -(240 * D) ≤ ds i ∧ ds i ≤ 9 * D ∧ (0 < k i → 0 < fr i) := by
  intro i hi
  have hk' : ∀ i, i < n → 0 ≤ k i := fun i hi => (hk i hi).1
  have hD := h.1
  have l := h.low hG hk' (-240) (fun i hi _ => (hr i hi).1) i hi
  have u := h.high hG hk' 9 (fun i hi _ => (hr i hi).2) i hi
  refine ⟨h.fnn hG hk' i hi, h.fle hG hk' i hi, h.pos hG hk' i hi, h.dle hn hG hk i hi, ?_, ?_, by omega, by omega, h.fpos hG hk' i hi⟩
  all_goals
    rcases Int.lt_or_eq_of_le (hk i hi).1 with q | q
    · have e := (h.2.2.1 i hi q).2
      have b := abs_mul_bd (a := r i) (b := D) (x := 240) (y := D) (by have := hr i hi; omega) (by have := hr i hi; omega) (by omega) (by omega)
      have b2 : r i * D ≤ 9 * D := Int.mul_le_mul_of_nonneg_right (hr i hi).2 (by omega)
      rcases Int.le_total 0 (fs i) with p | p
      · have : fs i * 1 ≤ fs i * k i := Int.mul_le_mul_of_nonneg_left (by omega) p
        rw [Int.mul_comm (k i)] at e
        omega
      · have : (- fs i) * 1 ≤ (- fs i) * k i := Int.mul_le_mul_of_nonneg_left (by omega) (by omega)
        have e2 : (- fs i) * k i = - (k i * fs i) := by rw [Int.neg_mul, Int.mul_comm]
        omega
    · have e := (h.2.1 i hi q.symm).2
      omega
section SEEK
variable {n : Nat} {nv : Nat → Nat → Int} {A B : Int} {md : Nat → Int} {F : Nat} {g c y s u pit way : Nat → Int32}
theorem lay_z (hn : n ≤ 5) (hF : 10 < F) (hv : NvOk n nv) (J : JOk n nv g c y s u pit) (hw : ∀ i, i < n → way i = zI (md i) ∧ 0 ≤ md i ∧ md i ≤ 4) (st0 : Nat → Int32) (re0 : Nat → Int64) :
    ∃ st re, iter (un3 (fb_G_seek_2 way g c y s (zI (n : Int)))) F ((0 : Int32), st0, re0) = some (st, re) ∧ (∀ i, i < n → st i = zI (kW nv md i)) ∧ ∀ i, i < n → re i = zL (rW nv md i) := by
  have loop := iter_for (body := un3 (fb_G_seek_2 way g c y s (zI (n : Int)))) (F := F) (s := ((0 : Int32), st0, re0)) (fun i z => ∃ f r, z = (zI (i : Int), f, r) ∧ (∀ j, j < i → f j = zI (kW nv md j)) ∧ ∀ j, j < i → r j = zL (rW nv md j)) (fun q => ∃ f r, q = (f, r) ∧ (∀ j, j < n → f j = zI (kW nv md j)) ∧ ∀ j, j < n → r j = zL (rW nv md j)) n (by omega) ⟨st0, re0, rfl, fun j hj => absurd hj (by omega), fun j hj => absurd hj (by omega)⟩ ?_ ?_
  · obtain ⟨q, e, f, r, rfl, h1, h2⟩ := loop
    exact ⟨f, r, e, h1, h2⟩
  · rintro i z hi ⟨f, r, rfl, h1, h2⟩
    obtain ⟨w1, w2, w3⟩ := hw i hi
    have hvi := hv i hi
    have LA := fun {α : Type} (f : Nat → α) => ldA_z (f := f) (j := i) (n := 5) (by omega) (by omega)
    have SI := fun (f : Nat → Int32) (x : Int32) => stI_z (f := f) (x := x) (j := i) (n := 5) (by omega) (by omega)
    have SL := fun (f : Nat → Int64) (x : Int64) => stL_z (f := f) (x := x) (j := i) (n := 5) (by omega) (by omega)
    have again : ∀ (f : Nat → Int32) (x y : Int32), upd (upd f i x) i y = upd f i y := fun f x y => by funext j; simp only [upd_at]; by_cases q : j = i <;> simp [q]
    have againL : ∀ (f : Nat → Int64) (x y : Int64), vp_updL (vp_updL f i x) i y = vp_updL f i y := fun f x y => by funext j; simp only [updL_at]; by_cases q : j = i <;> simp [q]
    have k1 := upI_of (g := kW nv md) h1
    have r1 := upL_of (g := rW nv md) h2
    have key : ∃ z, f_G_layLine (zI (i : Int)) way f r g c y s = some z ∧ z = (upd f i (zI (kW nv md i)), vp_updL r i (zL (rW nv md i))) := by
      unfold f_G_layLine
      simp only [LA, SI, SL, Option.bind_some, J.2.1 i hi, J.1 i hi, J.2.2.1 i hi, J.2.2.2.1 i hi, w1]
      by_cases m1 : md i = 1
      · rw [if_pos (by rw [m1]; rfl)]
        refine ⟨_, rfl, ?_⟩
        rw [again, show kW nv md i = nv i 0 from if_pos m1, show rW nv md i = nv i 1 from if_neg (by omega), zI_l (by omega) (by omega)]
      · rw [if_neg (by rw [i1, zI_eq (by omega) (by omega) (by omega) (by omega)]; exact m1)]
        by_cases m2 : md i = 2
        · rw [if_pos (by rw [m2]; rfl)]
          have b := rW_bd (md := md) hv i hi
          have er : rW nv md i = nv i 1 + (nv i 0 - nv i 3) * nv i 2 := if_pos m2
          refine ⟨_, rfl, ?_⟩
          rw [again, againL, zI_sub, zI_mul, zI_add, ← er, zI_l (by omega) (by omega), show kW nv md i = nv i 3 by unfold kW; rw [if_neg m1, if_pos m2]]
        · rw [if_neg (by rw [i2, zI_eq (by omega) (by omega) (by omega) (by omega)]; exact m2)]
          refine ⟨_, rfl, ?_⟩
          rw [show kW nv md i = 0 by unfold kW; rw [if_neg m1, if_neg m2], show rW nv md i = nv i 1 from if_neg m2, zI_l (by omega) (by omega)]
          rfl
    obtain ⟨zz, ek, rfl⟩ := key
    simp only [un3, fb_G_seek_2]
    rw [if_neg (by rw [zI_le (by omega) (by omega) (by omega) (by omega)]; omega), ek]
    simp only [bd2, Option.bind_some, nm, zI_1]
    exact ⟨_, rfl, _, _, rfl, k1, r1⟩
  · rintro z ⟨f, r, rfl, h1, h2⟩
    simp only [un3, fb_G_seek_2]
    rw [if_pos (Int32.le_refl _)]
    exact ⟨_, rfl, f, r, rfl, h1, h2⟩
/-- what seek() leaves of the dues -/
def DueOk (n : Nat) (nv : Nat → Nat → Int) (md : Nat → Int) (br : Bool) (D : Int) (fr fs dr ds : Nat → Int) (dO dU : Nat → Int64) (sO sU : Int) : Prop :=
  (∀ i, i < n → dU i = zL (dun md br fr dr i) ∧ (0 < dun md br fr dr i → dO i = zL (dov nv md D fs ds i))) ∧ 0 ≤ sU ∧ (sU = 0 → ∀ i, i < n → dun md br fr dr i ≤ 0) ∧
  (0 < sU → (∃ i, i < n ∧ 0 < dun md br fr dr i ∧ sO = dov nv md D fs ds i ∧ sU = dun md br fr dr i) ∧ ∀ i, i < n → 0 < dun md br fr dr i → sO * dun md br fr dr i ≤ dov nv md D fs ds i * sU)
theorem dun_bd {n : Nat} {md : Nat → Int} {br : Bool} {fr dr : Nat → Int} {D : Int} (hb : ∀ i, i < n → 0 ≤ fr i ∧ fr i ≤ D ∧ 0 < dr i ∧ dr i ≤ 25 * D) (hD : 0 < D) : ∀ i, i < n → 0 ≤ dun md br fr dr i ∧ dun md br fr dr i ≤ 25 * D := by
  intro i hi
  have := hb i hi
  unfold dun
  by_cases h0 : md i = 0
  · rw [if_pos h0]; omega
  · rw [if_neg h0]
    by_cases h1 : md i = 1
    · rw [if_pos h1]; omega
    · rw [if_neg h1]
      by_cases h2 : md i = 2 ∧ br = true
      · rw [if_pos h2]; omega
      · rw [if_neg h2]; omega
theorem dov_bd {n : Nat} {nv : Nat → Nat → Int} {md : Nat → Int} {fs ds : Nat → Int} {D : Int} (hv : NvOk n nv) (hb : ∀ i, i < n → -(249 * D) ≤ fs i ∧ fs i ≤ 249 * D ∧ -(240 * D) ≤ ds i ∧ ds i ≤ 9 * D) (hD : 0 < D) : ∀ i, i < n → -(400 * D) ≤ dov nv md D fs ds i ∧ dov nv md D fs ds i ≤ 400 * D := by
  intro i hi
  have := hb i hi
  have v := hv i hi
  have a1 := mul_bd (show 0 ≤ nv i 1 by omega) (show 0 ≤ D by omega) (show nv i 1 ≤ 9 by omega) (Int.le_refl D)
  have a2 := mul_bd (show 0 ≤ nv i 2 by omega) (show 0 ≤ D by omega) (show nv i 2 ≤ 30 by omega) (Int.le_refl D)
  have a3 := mul_bd (show 0 ≤ nv i 4 by omega) (show 0 ≤ D by omega) (show nv i 4 ≤ 60 by omega) (Int.le_refl D)
  unfold dov
  by_cases h0 : md i = 0
  · rw [if_pos h0]; omega
  · rw [if_neg h0]
    by_cases h1 : md i = 1
    · rw [if_pos h1]; omega
    · rw [if_neg h1]; omega
set_option maxHeartbeats 4000000 in
theorem due_z (hn : n ≤ 5) (hF : 10 < F) (hv : NvOk n nv) (J : JOk n nv g c y s u pit) (hw : ∀ i, i < n → way i = zI (md i) ∧ 0 ≤ md i ∧ md i ≤ 4) (br : Bool) {D : Int} {fr fs dr ds : Nat → Int} (hD : 0 < D) (hD2 : D ≤ 299269)
    (hb : ∀ i, i < n → 0 ≤ fr i ∧ fr i ≤ D ∧ 0 < dr i ∧ dr i ≤ 25 * D ∧ -(249 * D) ≤ fs i ∧ fs i ≤ 249 * D ∧ -(240 * D) ≤ ds i ∧ ds i ≤ 9 * D) {fr' fs' dr' ds' : Nat → Int64} (h1 : ∀ i, i < n → fr' i = zL (fr i)) (h2 : ∀ i, i < n → fs' i = zL (fs i)) (h3 : ∀ i, i < n → dr' i = zL (dr i)) (h4 : ∀ i, i < n → ds' i = zL (ds i)) (dO0 dU0 : Nat → Int64) (sO0 : Int64) :
    ∃ (dO dU : Nat → Int64) (sO' : Int64) (sO sU : Int), iter (un5 (fb_G_seek_45 (zI (if br = true then 1 else 0)) way fr' fs' dr' ds' (zL D) c y u (zI (n : Int)))) F ((0 : Int32), dO0, dU0, sO0, (0 : Int64)) = some (dO, dU, sO', zL sU) ∧ (0 < sU → sO' = zL sO) ∧ DueOk n nv md br D fr fs dr ds dO dU sO sU := by
  have bU := dun_bd (md := md) (br := br) (fun i hi => ⟨(hb i hi).1, (hb i hi).2.1, (hb i hi).2.2.1, (hb i hi).2.2.2.1⟩) hD
  have bO := dov_bd (md := md) hv (fun i hi => (hb i hi).2.2.2.2) hD
  have loop := iter_for (body := un5 (fb_G_seek_45 (zI (if br = true then 1 else 0)) way fr' fs' dr' ds' (zL D) c y u (zI (n : Int)))) (F := F) (s := ((0 : Int32), dO0, dU0, sO0, (0 : Int64)))
    (fun i z => ∃ dO dU sO' sO sU, z = (zI (i : Int), dO, dU, sO', zL sU) ∧ (0 < sU → sO' = zL sO) ∧ DueOk i nv md br D fr fs dr ds dO dU sO sU)
    (fun q => ∃ dO dU sO' sO sU, q = (dO, dU, sO', zL sU) ∧ (0 < sU → sO' = zL sO) ∧ DueOk n nv md br D fr fs dr ds dO dU sO sU) n (by omega)
    ⟨dO0, dU0, sO0, 0, 0, rfl, fun h => absurd h (by omega), fun i hi => absurd hi (by omega), Int.le_refl 0, fun _ i hi => absurd hi (by omega), fun h => absurd h (by omega)⟩ ?_ ?_
  · obtain ⟨q, e, dO, dU, sO', sO, sU, rfl, h5, h6⟩ := loop
    exact ⟨dO, dU, sO', sO, sU, e, h5, h6⟩
  · rintro i z hi ⟨dO, dU, sO', sO, sU, rfl, h5, h6, h7, h8, h9⟩
    obtain ⟨w1, w2, w3⟩ := hw i hi
    have hvi := hv i hi
    have b := hb i hi
    have LA := fun {α : Type} (f : Nat → α) => ldA_z (f := f) (j := i) (n := 5) (by omega) (by omega)
    have SL := fun (f : Nat → Int64) (x : Int64) => stL_z (f := f) (x := x) (j := i) (n := 5) (by omega) (by omega)
    have againL : ∀ (f : Nat → Int64) (x y : Int64), vp_updL (vp_updL f i x) i y = vp_updL f i y := fun f x y => by funext j; simp only [updL_at]; by_cases q : j = i <;> simp [q]
    -- this bolt's due
    have key : ∃ dO', f_G_seekDue (zI (i : Int)) (zI (if br = true then 1 else 0)) way dO dU fr' fs' dr' ds' (zL D) c y u = some (dO', vp_updL dU i (zL (dun md br fr dr i))) ∧ (∀ j, j ≠ i → dO' j = dO j) ∧ (0 < dun md br fr dr i → dO' i = zL (dov nv md D fs ds i)) := by
      unfold f_G_seekDue
      simp only [LA, SL, Option.bind_some, J.2.1 i hi, w1, h3 i hi, h4 i hi]
      by_cases m0 : md i = 0
      · rw [if_pos (by rw [m0]; rfl), zI_l (by omega) (by omega), zL_mul, zL_sub, againL, show dun md br fr dr i = dr i from if_pos m0, show dov nv md D fs ds i = nv i 1 * D - ds i from if_pos m0]
        exact ⟨_, rfl, fun j hj => by rw [updL_at, if_neg hj], fun _ => by rw [updL_at, if_pos rfl]⟩
      · rw [if_neg (by rw [i0, zI_eq (by omega) (by omega) (by omega) (by omega)]; exact m0)]
        have tail : (md i = 1 ∨ md i = 2 ∧ br = true) → ∃ dO', fj_G_seekDue_92 (zI (i : Int)) way dO (vp_updL dU i (0 : Int64)) fr' fs' (zL D) y u = some (dO', vp_updL dU i (zL (dun md br fr dr i))) ∧ (∀ j, j ≠ i → dO' j = dO j) ∧ (0 < dun md br fr dr i → dO' i = zL (dov nv md D fs ds i)) := by
          intro hm
          have ed : dun md br fr dr i = fr i := by
            unfold dun
            rw [if_neg m0]
            by_cases m1 : md i = 1
            · rw [if_pos m1]
            · rw [if_neg m1, if_pos (by rcases hm with q | q; exact absurd q m1; exact q)]
          unfold fj_G_seekDue_92 fj_G_seekDue_123
          simp only [LA, SL, Option.bind_some, w1, J.2.2.1 i hi, J.2.2.2.2.1 i hi, h1 i hi, h2 i hi, againL]
          by_cases m1 : md i = 1
          · rw [if_pos (by rw [m1]; rfl), zI_l (by omega) (by omega), zL_mul, zL_sub, ed, show dov nv md D fs ds i = nv i 2 * D - fs i by unfold dov; rw [if_neg m0, if_pos m1]]
            exact ⟨_, rfl, fun j hj => by rw [updL_at, if_neg hj], fun _ => by rw [updL_at, if_pos rfl]⟩
          · rw [if_neg (by rw [i1, zI_eq (by omega) (by omega) (by omega) (by omega)]; exact m1), zI_l (by omega) (by omega), zL_mul, zL_sub, ed, show dov nv md D fs ds i = nv i 4 * D - fs i by unfold dov; rw [if_neg m0, if_neg m1]]
            exact ⟨_, rfl, fun j hj => by rw [updL_at, if_neg hj], fun _ => by rw [updL_at, if_pos rfl]⟩
        by_cases m1 : md i = 1
        · rw [if_pos (by rw [m1]; rfl)]
          exact tail (Or.inl m1)
        · rw [if_neg (by rw [i1, zI_eq (by omega) (by omega) (by omega) (by omega)]; exact m1)]
          by_cases m2 : md i = 2
          · rw [if_pos (by rw [m2]; rfl)]
            cases br with
            | true =>
              rw [if_neg (by rw [if_pos rfl, i0, zI_eq (by omega) (by omega) (by omega) (by omega)]; omega)]
              exact tail (Or.inr ⟨m2, rfl⟩)
            | false =>
              have ed : dun md false fr dr i = 0 := by unfold dun; rw [if_neg m0, if_neg m1, if_neg (by simp)]
              rw [if_pos (show zI (if false = true then (1 : Int) else 0) = 0 from rfl), ed]
              exact ⟨dO, rfl, fun _ _ => rfl, fun h => absurd h (by omega)⟩
          · have ed : dun md br fr dr i = 0 := by unfold dun; rw [if_neg m0, if_neg m1, if_neg (fun q => m2 q.1)]
            rw [if_neg (by rw [i2, zI_eq (by omega) (by omega) (by omega) (by omega)]; exact m2), ed]
            exact ⟨dO, rfl, fun _ _ => rfl, fun h => absurd h (by omega)⟩
    obtain ⟨dO', ek, kO1, kO2⟩ := key
    have bUi := bU i hi
    have bOi := bO i hi
    have c1 : ∀ j, j < i + 1 → vp_updL dU i (zL (dun md br fr dr i)) j = zL (dun md br fr dr j) ∧ (0 < dun md br fr dr j → dO' j = zL (dov nv md D fs ds j)) := by
      intro j hj
      rw [updL_at]
      by_cases q : j = i
      · subst q; rw [if_pos rfl]; exact ⟨rfl, kO2⟩
      · rw [if_neg q, kO1 j q]; exact h6 j (by omega)
    simp only [un5, fb_G_seek_45]
    rw [if_neg (by rw [zI_le (by omega) (by omega) (by omega) (by omega)]; omega), ek]
    simp only [bd2, Option.bind_some, LA, (c1 i (by omega)).1]
    by_cases hz : 0 < dun md br fr dr i
    · rw [if_neg (by rw [l0z, zL_le (by omega) (by omega) (by omega) (by omega)]; omega)]
      have take : ∃ z, fj_G_seek_108 (zI (i : Int)) dO' (vp_updL dU i (zL (dun md br fr dr i))) = some (.inl z) ∧ z = (zI ((i + 1 : Nat) : Int), dO', vp_updL dU i (zL (dun md br fr dr i)), zL (dov nv md D fs ds i), zL (dun md br fr dr i)) := by
        unfold fj_G_seek_108 fj_G_seek_128
        simp only [LA, Option.bind_some, nm, zI_1, kO2 hz, (c1 i (by omega)).1]
        exact ⟨_, rfl, rfl⟩
      obtain ⟨zt, et, ezt⟩ := take
      by_cases hs0 : sU = 0
      · rw [if_pos (by rw [hs0]; rfl)]
        refine ⟨zt, et, _, _, _, _, _, ezt, fun _ => rfl, c1, by omega, fun h => absurd h (by omega), fun _ => ⟨⟨i, by omega, hz, rfl, rfl⟩, fun j hj hjz => ?_⟩⟩
        by_cases q : j = i
        · subst q; omega
        · have := h8 hs0 j (by omega); omega
      · have hsp : 0 < sU := by omega
        obtain ⟨⟨i1', p1, p2, p3, p4⟩, p5⟩ := h9 hsp
        have bU1 := bU i1' (by omega)
        have bO1 := bO i1' (by omega)
        have x1 := abs_mul_bd (a := sO) (b := dun md br fr dr i) (x := 400 * 299269) (y := 25 * 299269) (by omega) (by omega) (by omega) (by omega)
        have x2 := abs_mul_bd (a := dov nv md D fs ds i) (b := sU) (x := 400 * 299269) (y := 25 * 299269) (by omega) (by omega) (by omega) (by omega)
        rw [if_neg (by rw [l0z, zL_eq (by omega) (by omega) (by omega) (by omega)]; exact hs0)]
        rw [kO2 hz, h5 hsp, zL_mul, zL_mul]
        by_cases hle : sO * dun md br fr dr i ≤ dov nv md D fs ds i * sU
        · rw [if_pos (by rw [zL_le (by omega) (by omega) (by omega) (by omega)]; exact hle)]
          unfold fj_G_seek_128
          simp only [nm, zI_1]
          refine ⟨_, rfl, _, _, _, sO, sU, rfl, fun _ => rfl, c1, h7, fun h => absurd h hs0, fun _ => ⟨⟨i1', by omega, p2, p3, p4⟩, fun j hj hjz => ?_⟩⟩
          by_cases q : j = i
          · subst q; exact hle
          · exact p5 j (by omega) hjz
        · rw [if_neg (by rw [zL_le (by omega) (by omega) (by omega) (by omega)]; exact hle)]
          refine ⟨zt, et, _, _, _, _, _, ezt, fun _ => rfl, c1, by omega, fun h => absurd h (by omega), fun _ => ⟨⟨i, by omega, hz, rfl, rfl⟩, fun j hj hjz => ?_⟩⟩
          by_cases q : j = i
          · subst q; omega
          · -- the new least is below the old one
            have a1 := p5 j (by omega) hjz
            have a2 : dov nv md D fs ds i * sU * dun md br fr dr j ≤ sO * dun md br fr dr i * dun md br fr dr j := Int.mul_le_mul_of_nonneg_right (by omega) (by omega)
            have a3 : sO * dun md br fr dr j * dun md br fr dr i ≤ dov nv md D fs ds j * sU * dun md br fr dr i := Int.mul_le_mul_of_nonneg_right a1 (by omega)
            refine Int.not_lt.mp fun hlt => ?_
            have a4 : 0 < (dov nv md D fs ds i * dun md br fr dr j - dov nv md D fs ds j * dun md br fr dr i) * sU := Int.mul_pos (by omega) hsp
            have e1 : (dov nv md D fs ds i * dun md br fr dr j - dov nv md D fs ds j * dun md br fr dr i) * sU = dov nv md D fs ds i * sU * dun md br fr dr j - dov nv md D fs ds j * sU * dun md br fr dr i := by grind
            have e2 : sO * dun md br fr dr i * dun md br fr dr j = sO * dun md br fr dr j * dun md br fr dr i := by grind
            omega
    · have hz0 : dun md br fr dr i = 0 := by omega
      rw [if_pos (by rw [l0z, zL_le (by omega) (by omega) (by omega) (by omega)]; omega)]
      unfold fj_G_seek_128
      simp only [nm, zI_1]
      refine ⟨_, rfl, _, _, _, sO, sU, rfl, h5, c1, h7, fun h j hj => ?_, fun h => ⟨?_, fun j hj hjz => ?_⟩⟩
      · by_cases q : j = i
        · subst q; omega
        · exact h8 h j (by omega)
      · obtain ⟨⟨i1', p1, p2, p3, p4⟩, -⟩ := h9 h
        exact ⟨i1', by omega, p2, p3, p4⟩
      · by_cases q : j = i
        · subst q; omega
        · exact (h9 h).2 j (by omega) hjz
  · rintro z ⟨dO, dU, sO', sO, sU, rfl, h5, h6⟩
    simp only [un5, fb_G_seek_45]
    rw [if_pos (Int32.le_refl _)]
    exact ⟨_, rfl, dO, dU, sO', sO, sU, rfl, h5, h6⟩
end SEEK
