/-! WHO BREAKS: the most overloaded -/
/-- of the first n that p tells, the first of the greatest f by u -/
def wst (p : Nat → Bool) (f u : Nat → Int) : Nat → Int
  | 0 => -1
  | i + 1 => if p i = true ∧ (wst p f u i < 0 ∨ f (wst p f u i).toNat * u i < f i * u (wst p f u i).toNat) then (i : Int) else wst p f u i
theorem wst_bd (p : Nat → Bool) (f u : Nat → Int) (n : Nat) : wst p f u n = -1 ∨ (0 ≤ wst p f u n ∧ wst p f u n < n ∧ p (wst p f u n).toNat = true) := by
  induction n with
  | zero => exact Or.inl rfl
  | succ n ih =>
    simp only [wst]
    by_cases q : p n = true ∧ (wst p f u n < 0 ∨ f (wst p f u n).toNat * u n < f n * u (wst p f u n).toNat)
    · rw [if_pos q]
      exact Or.inr ⟨by omega, by omega, by simpa using q.1⟩
    · rw [if_neg q]
      rcases ih with h | h
      · exact Or.inl h
      · exact Or.inr ⟨h.1, by omega, h.2.2⟩
section WORST2
variable {n : Nat} {nv : Nat → Nat → Int} {md : Nat → Int} {D : Int} {fr fs : Nat → Int} {F : Nat}
theorem mostOver_z (hn : n ≤ 5) (hF : 10 < F) (hv : NvOk n nv) (hb : ∀ i, i < n → 0 ≤ fr i ∧ fr i ≤ D ∧ -(249 * D) ≤ fs i ∧ fs i ≤ 249 * D) (hD : 0 < D) (hD2 : D ≤ 299269) {P Q : Int} (hP : 0 ≤ P ∧ P ≤ 400 * 299269) (hQ : 0 < Q ∧ Q ≤ 25 * 299269) {way uu : Nat → Int32} {fr' fs' : Nat → Int64} (hw : ∀ i, i < n → way i = zI (md i) ∧ 0 ≤ md i ∧ md i ≤ 4) (hu : ∀ i, i < n → uu i = zI (nv i 4)) (h1 : ∀ i, i < n → fr' i = zL (fr i)) (h2 : ∀ i, i < n → fs' i = zL (fs i)) :
    f_G_mostOverloaded F way (zL P) (zL Q) fr' fs' (zL D) uu (zI (n : Int)) = some (zI (wst (fun i => decide (md i = 2 ∧ 0 < fr i * P + fs i * Q ∧ nv i 4 * D * Q ≤ fr i * P + fs i * Q)) (fun i => fr i * P + fs i * Q) (fun i => nv i 4) n)) := by
  have hfb : ∀ i, i < n → -1000000000000000 ≤ fr i * P + fs i * Q ∧ fr i * P + fs i * Q ≤ 1000000000000000 := fun i hi => by
    have b := hb i hi
    have c1 := abs_mul_bd (a := fr i) (b := P) (x := 299269) (y := 400 * 299269) (by omega) (by omega) (by omega) (by omega)
    have c2 := abs_mul_bd (a := fs i) (b := Q) (x := 249 * 299269) (y := 25 * 299269) (by omega) (by omega) (by omega) (by omega)
    omega
  generalize hp : (fun i => decide (md i = 2 ∧ 0 < fr i * P + fs i * Q ∧ nv i 4 * D * Q ≤ fr i * P + fs i * Q)) = p at *
  generalize hf : (fun i => fr i * P + fs i * Q) = f at *
  have ef : ∀ i, f i = fr i * P + fs i * Q := fun i => by rw [← hf]
  have loop := iter_for (body := un3 (fb_G_mostOverloaded_7 way (zL P) (zL Q) fr' fs' (zL D) uu (zI (n : Int)))) (F := F) (s := ((-1 : Int32), (0 : Int64), (0 : Int32)))
    (fun i z => ∃ x : Int64, z = (zI (wst p f (fun i => nv i 4) i), x, zI (i : Int)) ∧ (0 ≤ wst p f (fun i => nv i 4) i → x = zL (f (wst p f (fun i => nv i 4) i).toNat)))
    (fun q => q = zI (wst p f (fun i => nv i 4) n)) n (by omega) ⟨0, rfl, fun h => absurd h (by show ¬ (0 ≤ (-1 : Int)); decide)⟩ ?_ ?_
  · obtain ⟨q, e, rfl⟩ := loop
    unfold f_G_mostOverloaded
    rw [e, Option.bind_some]
  · rintro i z hi ⟨x, rfl, hx⟩
    obtain ⟨w1, w2, w3⟩ := hw i hi
    have v := hv i hi
    have hfi := hfb i hi
    rw [← ef i] at hfi
    have pe : p i = decide (md i = 2 ∧ 0 < f i ∧ nv i 4 * D * Q ≤ f i) := by rw [ef i, ← hp]
    have wb := wst_bd p f (fun i => nv i 4) i
    have ws : wst p f (fun i => nv i 4) (i + 1) = if p i = true ∧ (wst p f (fun i => nv i 4) i < 0 ∨ f (wst p f (fun i => nv i 4) i).toNat * nv i 4 < f i * nv (wst p f (fun i => nv i 4) i).toNat 4) then (i : Int) else wst p f (fun i => nv i 4) i := rfl
    generalize wst p f (fun i => nv i 4) i = b at *
    have stay : ¬ (p i = true ∧ (b < 0 ∨ f b.toNat * nv i 4 < f i * nv b.toNat 4)) → ∃ s', fj_G_mostOverloaded_142 (zI b) x (zI (i : Int)) = some (.inl s') ∧ ∃ x : Int64, s' = (zI (wst p f (fun i => nv i 4) (i + 1)), x, zI ((i + 1 : Nat) : Int)) ∧ (0 ≤ wst p f (fun i => nv i 4) (i + 1) → x = zL (f (wst p f (fun i => nv i 4) (i + 1)).toNat)) := fun e =>
      ⟨(zI b, x, zI ((i + 1 : Nat) : Int)), by simp only [fj_G_mostOverloaded_142, nm, zI_1], x, by rw [ws, if_neg e], by rw [ws, if_neg e]; exact hx⟩
    have take : (p i = true ∧ (b < 0 ∨ f b.toNat * nv i 4 < f i * nv b.toNat 4)) → ∃ s', fj_G_mostOverloaded_136 (zI (i : Int)) (zL (f i)) = some (.inl s') ∧ ∃ x : Int64, s' = (zI (wst p f (fun i => nv i 4) (i + 1)), x, zI ((i + 1 : Nat) : Int)) ∧ (0 ≤ wst p f (fun i => nv i 4) (i + 1) → x = zL (f (wst p f (fun i => nv i 4) (i + 1)).toNat)) := fun e =>
      ⟨(zI (i : Int), zL (f i), zI ((i + 1 : Nat) : Int)), by simp only [fj_G_mostOverloaded_136, fj_G_mostOverloaded_142, nm, zI_1], zL (f i), by rw [ws, if_pos e], fun _ => by rw [ws, if_pos e]; rfl⟩
    dsimp only [un3]
    unfold fb_G_mostOverloaded_7
    rw [if_neg (by rw [zI_le (by omega) (by omega) (by omega) (by omega)]; omega), ldA_z (by omega) (by omega), Option.bind_some, w1]
    by_cases q : md i = 2
    · have ea : f_L_forceAt (zI (i : Int)) (zL P) (zL Q) fr' fs' = some (zL (f i)) := by
        unfold f_L_forceAt
        rw [ldA_z (by omega) (by omega), Option.bind_some, ldA_z (by omega) (by omega), Option.bind_some, h1 i hi, h2 i hi, zL_mul, zL_mul, zL_add, ef i]
      rw [if_pos (by rw [q]; rfl), ea, Option.bind_some]
      unfold fj_G_mostOverloaded_51 fj_G_mostOverloaded_94 fj_G_mostOverloaded_95
      by_cases q2 : 0 < f i
      · have c1 := abs_mul_bd (a := nv i 4) (b := D) (x := 60) (y := 299269) (by omega) (by omega) (by omega) (by omega)
        have c2 := abs_mul_bd (a := nv i 4 * D) (b := Q) (x := 60 * 299269) (y := 25 * 299269) (by omega) (by omega) (by omega) (by omega)
        rw [if_neg (by rw [l0z, zL_le (by omega) (by omega) (by omega) (by omega)]; omega), ldA_z (by omega) (by omega), Option.bind_some, hu i hi, zI_l (by omega) (by omega), zL_mul, zL_mul]
        by_cases q3 : f i < nv i 4 * D * Q
        · rw [if_pos (by rw [zL_lt (by omega) (by omega) (by omega) (by omega)]; exact q3), if_pos rfl]
          exact stay (fun w => by have := w.1; rw [pe] at this; have := of_decide_eq_true this; omega)
        · have pt : p i = true := by rw [pe]; exact decide_eq_true ⟨q, q2, by omega⟩
          rw [if_neg (by rw [zL_lt (by omega) (by omega) (by omega) (by omega)]; exact q3), if_neg (by decide)]
          by_cases q4 : b < 0
          · rw [if_pos (by rw [i0, zI_lt (by omega) (by omega) (by omega) (by omega)]; exact q4)]
            exact take ⟨pt, Or.inl q4⟩
          · rw [if_neg (by rw [i0, zI_lt (by omega) (by omega) (by omega) (by omega)]; exact q4)]
            have hbn : b.toNat < n := by omega
            have eb : b = (b.toNat : Int) := by omega
            have vb := hv b.toNat hbn
            have hfb2 := hfb b.toNat hbn
            rw [← ef b.toNat] at hfb2
            have d1 := abs_mul_bd (a := f i) (b := nv b.toNat 4) (x := 1000000000000000) (y := 60) (by omega) (by omega) (by omega) (by omega)
            have d2 := abs_mul_bd (a := f b.toNat) (b := nv i 4) (x := 1000000000000000) (y := 60) (by omega) (by omega) (by omega) (by omega)
            have eld : ldA uu 5 (zI b) = some (zI (nv b.toNat 4)) := by
              rw [eb, ldA_z (by omega) (by omega), hu _ (by omega)]; rfl
            rw [eld, Option.bind_some, Option.bind_some, zI_l (by omega) (by omega), zI_l (by omega) (by omega), hx (by omega), zL_mul, zL_mul]
            by_cases q5 : f i * nv b.toNat 4 ≤ f b.toNat * nv i 4
            · rw [if_pos (by rw [zL_le (by omega) (by omega) (by omega) (by omega)]; exact q5)]
              have := stay (fun w => by omega)
              rw [hx (by omega)] at this
              exact this
            · rw [if_neg (by rw [zL_le (by omega) (by omega) (by omega) (by omega)]; exact q5)]
              exact take ⟨pt, Or.inr (by omega)⟩
      · rw [if_pos (by rw [l0z, zL_le (by omega) (by omega) (by omega) (by omega)]; omega), if_pos rfl]
        exact stay (fun w => by have := w.1; rw [pe] at this; have := of_decide_eq_true this; omega)
    · rw [if_neg (by rw [i2, zI_eq (by omega) (by omega) (by omega) (by omega)]; exact q)]
      unfold fj_G_mostOverloaded_51 fj_G_mostOverloaded_94 fj_G_mostOverloaded_95
      rw [if_pos (by decide), if_pos rfl]
      exact stay (fun w => by have := w.1; rw [pe] at this; have := of_decide_eq_true this; omega)
  · rintro z ⟨x, rfl, hx⟩
    refine ⟨_, ?_, rfl⟩
    dsimp only [un3]
    unfold fb_G_mostOverloaded_7
    rw [if_pos (by rw [zI_le (by omega) (by omega) (by omega) (by omega)]; omega)]
end WORST2
