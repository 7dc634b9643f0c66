section SEEK2
variable {n : Nat} {nv : Nat → Nat → Int} {A B : Int} {md : Nat → Int} {F : Nat} {g c y s u pit way : Nat → Int32}
theorem sol_bounds (hn : n ≤ 5) (hv : NvOk n nv) (hA : 0 ≤ A ∧ A ≤ 2) (hB : 0 ≤ B ∧ B ≤ 2) {D : Int} {fr fs dr ds : Nat → Int} (hS : Sol n (fun i => nv i 6) A B (kW nv md) (rW nv md) D fr fs dr ds) : ∀ i, i < n → 0 ≤ fr i ∧ fr i ≤ D ∧ 0 < dr i ∧ dr i ≤ 25 * D ∧ -(249 * D) ≤ fs i ∧ fs i ≤ 249 * D ∧ -(240 * D) ≤ ds i ∧ ds i ≤ 9 * D ∧ (0 < kW nv md i → 0 < fr i) := Sol.bounds hn (geo_nv hv hA hB) (kW_bd hv) (rW_bd hv) hS
/-- seek(): the lines of the ways, and the next load -/
theorem seek_z (hn : n ≤ 5) (hF : 20 < F) (hv : NvOk n nv) (hA : 0 ≤ A ∧ A ≤ 2) (hB : 0 ≤ B ∧ B ≤ 2) (J : JOk n nv g c y s u pit) (hw : ∀ i, i < n → way i = zI (md i) ∧ 0 ≤ md i ∧ md i ≤ 4) (br : Bool) (hs : ∃ i, i < n ∧ (md i = 1 ∨ md i = 2))
    (dO0 dU0 : Nat → Int64) (sO0 sU0 : Int64) (st0 : Nat → Int32) (re0 fr0 fs0 dr0 ds0 : Nat → Int64) (un0 : Int64) (bf0 bl0 ba0 sc0 : Nat → Int64) (fR0 fS0 : Int64) :
    ∃ (D : Int) (fr fs dr ds : Nat → Int) (sO sU : Int) (dO dU : Nat → Int64) (sO' : Int64) (st : Nat → Int32) (re fr' fs' dr' ds' bf bl ba sc : Nat → Int64) (fR fS : Int64),
      f_G_seek F (zI (if br = true then 1 else 0)) way dO0 dU0 sO0 sU0 st0 re0 fr0 fs0 dr0 ds0 un0 bf0 bl0 ba0 sc0 fR0 fS0 g c y s u pit (zI (n : Int)) (zI A) (zI B) = some (zI (if 0 < sU then 1 else 0), dO, dU, sO', zL sU, st, re, fr', fs', dr', ds', zL D, bf, bl, ba, sc, fR, fS) ∧
      Sol n (fun i => nv i 6) A B (kW nv md) (rW nv md) D fr fs dr ds ∧ D ≤ 299269 ∧ (∀ i, i < n → fr' i = zL (fr i)) ∧ (∀ i, i < n → fs' i = zL (fs i)) ∧ (∀ i, i < n → dr' i = zL (dr i)) ∧ (∀ i, i < n → ds' i = zL (ds i)) ∧
      (0 < sU → sO' = zL sO) ∧ DueOk n nv md br D fr fs dr ds dO dU sO sU ∧ sU ≤ 25 * 299269 ∧ (0 < sU → -(400 * 299269) ≤ sO ∧ sO ≤ 400 * 299269) := by
  obtain ⟨st, re, e1, hst, hre⟩ := lay_z (F := F) hn (by omega) hv J hw st0 re0
  obtain ⟨i1', hi1, hk1⟩ := hs
  obtain ⟨D, fr, fs, dr, ds, bf, bl, ba, sc, fR, fS, fr', fs', dr', ds', hS, hD2, e2, e3, h1, h2, h3, h4⟩ := lines_spec (F := F) (k := kW nv md) (r := rW nv md) (w := fun i => nv i 6) (A := A) (B := B) hn (by omega) (geo_nv hv hA hB) (kW_bd hv) (fun i hi _ => by have := rW_bd (md := md) hv i hi; omega) ⟨i1', hi1, (kW_pos hv hi1).mpr hk1⟩ hst hre J.2.2.2.2.2 (bf := bf0) (bl := bl0) (ba := ba0) (sc := sc0) (fr0 := fr0) (fs0 := fs0) (dr0 := dr0) (ds0 := ds0) (un := un0) (fR := fR0) (fS := fS0)
  have hD := hS.1
  have hb := sol_bounds hn hv hA hB hS
  obtain ⟨dO, dU, sO', sO, sU, e4, h5, h6⟩ := due_z (F := F) hn (by omega) hv J hw br hD hD2 (fun i hi => by have := hb i hi; omega) h1 h2 h3 h4 dO0 dU0 sO0
  have hsU : sU ≤ 25 * 299269 ∧ (0 < sU → -(400 * 299269) ≤ sO ∧ sO ≤ 400 * 299269) := by
    rcases Int.lt_or_eq_of_le h6.2.1 with q | q
    · obtain ⟨⟨j, j1, j2, j3, j4⟩, -⟩ := h6.2.2.2 q
      have a1 := dun_bd (md := md) (br := br) (fun i hi => by have := hb i hi; exact ⟨this.1, this.2.1, this.2.2.1, this.2.2.2.1⟩) hD j j1
      have a2 := dov_bd (md := md) hv (fun i hi => by have := hb i hi; exact ⟨this.2.2.2.2.1, this.2.2.2.2.2.1, this.2.2.2.2.2.2.1, this.2.2.2.2.2.2.2.1⟩) hD j j1
      omega
    · omega
  refine ⟨D, fr, fs, dr, ds, sO, sU, dO, dU, sO', st, re, fr', fs', dr', ds', bf, bl, ba, sc, fR, fS, ?_, hS, hD2, h1, h2, h3, h4, h5, h6, hsU.1, hsU.2⟩
  unfold f_G_seek
  rw [e1]
  simp only [bd2, bd4, bd7, Option.bind_some]
  rw [e2, Option.bind_some, e3, Option.bind_some, e4, Option.bind_some]
  have h7 := h6.2.1
  by_cases q : 0 < sU
  · rw [if_neg (by rw [l0z, zL_le (by omega) (by omega) (by omega) (by omega)]; omega), if_pos q]; rfl
  · rw [if_pos (by rw [l0z, zL_le (by omega) (by omega) (by omega) (by omega)]; omega), if_neg q]; rfl
end SEEK2
