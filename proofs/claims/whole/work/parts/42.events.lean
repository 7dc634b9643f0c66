/-! EVENTS: what is noted -/
def EvZ (L : List (Int × Nat × Int × Int)) (tot : Int32) (kd wh : Nat → Int32) (ov un : Nat → Int64) : Prop :=
  tot = zI (L.length : Int) ∧ ∀ k e, L[k]? = some e → kd k = zI e.1 ∧ wh k = zI (e.2.1 : Int) ∧ ov k = zL e.2.2.1 ∧ un k = zL e.2.2.2
theorem EvZ.add {L : List (Int × Nat × Int × Int)} {tot : Int32} {kd wh : Nat → Int32} {ov un : Nat → Int64} (h : EvZ L tot kd wh ov un) (a : Int) (i : Nat) (P Q : Int) :
    EvZ (L ++ [(a, i, P, Q)]) (zI ((L.length + 1 : Nat) : Int)) (upd kd L.length (zI a)) (upd wh L.length (zI (i : Int))) (vp_updL ov L.length (zL P)) (vp_updL un L.length (zL Q)) := by
  refine ⟨by rw [List.length_append]; rfl, fun k e hk => ?_⟩
  rw [upd_at, upd_at, updL_at, updL_at]
  by_cases q : k = L.length
  · subst q
    rw [List.getElem?_append_right (Nat.le_refl _), Nat.sub_self] at hk
    cases hk
    rw [if_pos rfl, if_pos rfl, if_pos rfl, if_pos rfl]
    exact ⟨rfl, rfl, rfl, rfl⟩
  · rw [if_neg q, if_neg q, if_neg q, if_neg q]
    by_cases q2 : k < L.length
    · rw [List.getElem?_append_left q2] at hk
      exact h.2 k e hk
    · rw [List.getElem?_eq_none (by rw [List.length_append]; show L.length + 1 ≤ k; omega)] at hk
      cases hk
theorem note_z {L : List (Int × Nat × Int × Int)} {tot : Int32} {kd wh : Nat → Int32} {ov un : Nat → Int64} (h : EvZ L tot kd wh ov un) (hL : L.length < 15) (a : Int) (i : Nat) (P Q : Int) :
    ∃ tot' kd' wh' ov' un', f_G_note (zI a) (zI (i : Int)) tot kd wh ov un (zL P) (zL Q) = some (tot', kd', wh', ov', un') ∧ EvZ (L ++ [(a, i, P, Q)]) tot' kd' wh' ov' un' := by
  refine ⟨_, _, _, _, _, ?_, h.add a i P Q⟩
  unfold f_G_note
  rw [h.1, if_neg (by rw [i15, zI_le (by omega) (by omega) (by omega) (by omega)]; omega), stI_z hL (by omega), Option.bind_some, stI_z hL (by omega), Option.bind_some, stL_z hL (by omega), Option.bind_some, stL_z hL (by omega), Option.bind_some]
  simp only [nm, zI_1]
/-- those of the first n that p tells, in their order -/
def sel (p : Nat → Bool) : Nat → List Nat
  | 0 => []
  | i + 1 => if p i = true then sel p i ++ [i] else sel p i
theorem sel_congr {p q : Nat → Bool} {n : Nat} (h : ∀ i, i < n → p i = q i) : sel p n = sel q n := by
  induction n with
  | zero => rfl
  | succ n ih => simp only [sel]; rw [ih (fun i hi => h i (by omega)), h n (by omega)]
theorem sel_le (p : Nat → Bool) {i n : Nat} (h : i ≤ n) : (sel p i).length ≤ (sel p n).length := by
  induction n with
  | zero => have : i = 0 := by omega
            subst this; exact Nat.le_refl _
  | succ n ih =>
    by_cases e : i = n + 1
    · subst e; exact Nat.le_refl _
    · have := ih (by omega)
      simp only [sel]
      by_cases q : p n = true
      · rw [if_pos q, List.length_append]; omega
      · rw [if_neg q]; exact this
def evs (a : Int) (P Q : Int) (l : List Nat) : List (Int × Nat × Int × Int) := l.map fun i => (a, i, P, Q)
theorem evs_snoc (a P Q : Int) (l : List Nat) (i : Nat) : evs a P Q (l ++ [i]) = evs a P Q l ++ [(a, i, P, Q)] := by simp [evs]
theorem evs_len (a P Q : Int) (l : List Nat) : (evs a P Q l).length = l.length := by simp [evs]
section EVENTS
variable {n : Nat} {nv : Nat → Nat → Int} {md : Nat → Int} {br : Bool} {D : Int} {fr fs dr ds : Nat → Int} {sO sU : Int} {dO dU : Nat → Int64} {F : Nat}
theorem noteDue_z (hn : n ≤ 5) (hF : 10 < F) (hv : NvOk n nv) (hb : ∀ i, i < n → 0 ≤ fr i ∧ fr i ≤ D ∧ 0 < dr i ∧ dr i ≤ 25 * D ∧ -(249 * D) ≤ fs i ∧ fs i ≤ 249 * D ∧ -(240 * D) ≤ ds i ∧ ds i ≤ 9 * D) (hD : 0 < D) (hD2 : D ≤ 299269) (h : DueOk n nv md br D fr fs dr ds dO dU sO sU) (h0 : 0 < sU) (h1 : sU ≤ 25 * 299269) (h2 : -(400 * 299269) ≤ sO ∧ sO ≤ 400 * 299269) {way : Nat → Int32} (hw : ∀ i, i < n → way i = zI (md i) ∧ 0 ≤ md i ∧ md i ≤ 4)
    {w a : Int} (hw0 : 0 ≤ w ∧ w ≤ 4) {L : List (Int × Nat × Int × Int)} {tot : Int32} {kd wh : Nat → Int32} {ov un : Nat → Int64} (hE : EvZ L tot kd wh ov un) {P Q : Int}
    (hL : L.length + (sel (fun i => decide (md i = w) && IsDue nv md br D fr fs dr ds sO sU i) n).length ≤ 15) :
    ∃ tot' kd' wh' ov' un', f_G_noteDue F (zI w) (zI a) way tot kd wh ov un (zL P) (zL Q) dO dU (zL sO) (zL sU) (zI (n : Int)) = some (tot', kd', wh', ov', un') ∧
      EvZ (L ++ evs a P Q (sel (fun i => decide (md i = w) && IsDue nv md br D fr fs dr ds sO sU i) n)) tot' kd' wh' ov' un' := by
  generalize hp : (fun i => decide (md i = w) && IsDue nv md br D fr fs dr ds sO sU i) = p at *
  have loop := iter_for (body := un6 (fb_G_noteDue_2 (zI w) (zI a) way (zL P) (zL Q) dO dU (zL sO) (zL sU) (zI (n : Int)))) (F := F) (s := ((0 : Int32), tot, kd, wh, ov, un))
    (fun i z => ∃ tot' kd' wh' ov' un', z = (zI (i : Int), tot', kd', wh', ov', un') ∧ EvZ (L ++ evs a P Q (sel p i)) tot' kd' wh' ov' un')
    (fun q => ∃ tot' kd' wh' ov' un', q = (tot', kd', wh', ov', un') ∧ EvZ (L ++ evs a P Q (sel p n)) tot' kd' wh' ov' un') n (by omega) ⟨tot, kd, wh, ov, un, rfl, by simpa [sel, evs] using hE⟩ ?_ ?_
  · obtain ⟨q, e, tot', kd', wh', ov', un', rfl, h⟩ := loop
    refine ⟨tot', kd', wh', ov', un', ?_, h⟩
    unfold f_G_noteDue
    rw [e]; rfl
  · rintro i z hi ⟨tot', kd', wh', ov', un', rfl, hE'⟩
    obtain ⟨w1, w2, w3⟩ := hw i hi
    dsimp only [un6]
    unfold fb_G_noteDue_2
    rw [if_neg (by rw [zI_le (by omega) (by omega) (by omega) (by omega)]; omega), ldA_z (by omega) (by omega), Option.bind_some, w1]
    have stay : sel p (i + 1) = sel p i → ∃ s', fj_G_noteDue_37 (zI (i : Int)) tot' kd' wh' ov' un' = some (.inl s') ∧ ∃ tot' kd' wh' ov' un', s' = (zI ((i + 1 : Nat) : Int), tot', kd', wh', ov', un') ∧ EvZ (L ++ evs a P Q (sel p (i + 1))) tot' kd' wh' ov' un' := fun e =>
      ⟨_, by simp only [fj_G_noteDue_37, nm, zI_1], tot', kd', wh', ov', un', rfl, by rw [e]; exact hE'⟩
    have pe : p i = (decide (md i = w) && IsDue nv md br D fr fs dr ds sO sU i) := by rw [← hp]
    by_cases q : md i = w
    · rw [if_pos (by rw [q]), isDue_z hn hv hb hD hD2 h h0 h1 h2 hi, Option.bind_some]
      by_cases q2 : IsDue nv md br D fr fs dr ds sO sU i = true
      · have pt : p i = true := by rw [pe, q2]; simp [q]
        have e : sel p (i + 1) = sel p i ++ [i] := if_pos pt
        have hl := sel_le p (show i + 1 ≤ n by omega)
        rw [e, List.length_append] at hl
        have hl2 : [i].length = 1 := rfl
        obtain ⟨t', k', b', o', u', e1, e2⟩ := note_z hE' (by rw [List.length_append, evs_len]; omega) a i P Q
        rw [if_pos q2, if_neg (by decide), e1]
        refine ⟨(zI ((i + 1 : Nat) : Int), t', k', b', o', u'), by simp only [bd5, Option.bind_some, fj_G_noteDue_37, nm, zI_1], t', k', b', o', u', rfl, ?_⟩
        rw [e, evs_snoc, ← List.append_assoc]
        exact e2
      · rw [if_neg q2, if_pos (show zI 0 = 0 from rfl)]
        exact stay (if_neg (by rw [pe]; simp [q2]))
    · rw [if_neg (by rw [zI_eq (by omega) (by omega) (by omega) (by omega)]; exact q)]
      exact stay (if_neg (by rw [pe]; simp [q]))
  · rintro z ⟨tot', kd', wh', ov', un', rfl, hE'⟩
    refine ⟨_, ?_, tot', kd', wh', ov', un', rfl, hE'⟩
    dsimp only [un6]
    unfold fb_G_noteDue_2
    rw [if_pos (by rw [zI_le (by omega) (by omega) (by omega) (by omega)]; omega)]
end EVENTS
