/-! WHO BREAKS -/
section WORST
variable {n : Nat} {nv : Nat → Nat → Int} {md : Nat → Int} {br : Bool} {D : Int} {fr fs dr ds : Nat → Int} {sO sU : Int} {dO dU : Nat → Int64} {F : Nat}
theorem firstDue_z (hn : n ≤ 5) (hF : 10 < F) (hv : NvOk n nv) (hb : ∀ i, i < n → 0 ≤ fr i ∧ fr i ≤ D ∧ 0 < dr i ∧ dr i ≤ 25 * D ∧ -(249 * D) ≤ fs i ∧ fs i ≤ 249 * D ∧ -(240 * D) ≤ ds i ∧ ds i ≤ 9 * D) (hD : 0 < D) (hD2 : D ≤ 299269) (h : DueOk n nv md br D fr fs dr ds dO dU sO sU) (h0 : 0 < sU) (h1 : sU ≤ 25 * 299269) (h2 : -(400 * 299269) ≤ sO ∧ sO ≤ 400 * 299269) {way : Nat → Int32} (hw : ∀ i, i < n → way i = zI (md i) ∧ 0 ≤ md i ∧ md i ≤ 4) {w : Int} (hw0 : 0 ≤ w ∧ w ≤ 4) :
    f_G_firstDue F (zI w) way dO dU (zL sO) (zL sU) (zI (n : Int)) = some (zI (fst1 (fun i => decide (md i = w) && IsDue nv md br D fr fs dr ds sO sU i) n)) := by
  generalize hp : (fun i => decide (md i = w) && IsDue nv md br D fr fs dr ds sO sU i) = p at *
  have loop := iter_up (body := fb_G_firstDue_2 (zI w) way dO dU (zL sO) (zL sU) (zI (n : Int)))
    (fun i z => z = zI (i : Int) ∧ fst1 p i = -1)
    (fun q => (q.1 = 0 ∧ q.2 = zI (fst1 p n)) ∨ (q.1 = 1 ∧ fst1 p n = -1)) n ?_ ?_ n 0 F (0 : Int32) (by omega) (by omega) ⟨rfl, rfl⟩
  · obtain ⟨⟨c, l⟩, e, h⟩ := loop
    unfold f_G_firstDue
    rw [e]
    rcases h with ⟨rfl, h⟩ | ⟨rfl, h⟩
    · dsimp only at h
      subst h
      rfl
    · rw [h]; rfl
  · rintro i z hi ⟨rfl, hz⟩
    obtain ⟨w1, w2, w3⟩ := hw i hi
    unfold fb_G_firstDue_2
    rw [if_neg (by rw [zI_le (by omega) (by omega) (by omega) (by omega)]; omega), ldA_z (by omega) (by omega), Option.bind_some, w1]
    have pe : p i = (decide (md i = w) && IsDue nv md br D fr fs dr ds sO sU i) := by rw [← hp]
    have stay : ¬ p i = true → ∃ s', fj_G_firstDue_33 (zI (i : Int)) = some (.inl s') ∧ s' = zI ((i + 1 : Nat) : Int) ∧ fst1 p (i + 1) = -1 := fun e =>
      ⟨_, by simp only [fj_G_firstDue_33, nm, zI_1], rfl, by simp only [fst1]; rw [if_pos hz, if_neg e]⟩
    by_cases q : md i = w
    · rw [if_pos (by rw [q]), isDue_z hn hv hb hD hD2 h h0 h1 h2 hi, Option.bind_some]
      by_cases q2 : IsDue nv md br D fr fs dr ds sO sU i = true
      · have pt : p i = true := by rw [pe, q2]; simp [q]
        right
        rw [if_pos q2, if_neg (by decide)]
        refine ⟨_, rfl, Or.inl ⟨rfl, ?_⟩⟩
        have e : fst1 p (i + 1) = (i : Int) := by simp only [fst1]; rw [if_pos hz, if_pos pt]
        have := fst1_up (p := p) (i := i + 1) (by omega) (n - (i + 1))
        rw [show i + 1 + (n - (i + 1)) = n by omega, e] at this
        rw [this]
      · left
        rw [if_neg q2, if_pos (show zI 0 = 0 from rfl)]
        exact stay (by rw [pe]; simp [q2])
    · left
      rw [if_neg (by rw [zI_eq (by omega) (by omega) (by omega) (by omega)]; exact q)]
      exact stay (by rw [pe]; simp [q])
  · rintro z ⟨rfl, hz⟩
    unfold fb_G_firstDue_2
    rw [if_pos (by rw [zI_le (by omega) (by omega) (by omega) (by omega)]; omega)]
    exact ⟨_, rfl, Or.inr ⟨rfl, hz⟩⟩
end WORST
