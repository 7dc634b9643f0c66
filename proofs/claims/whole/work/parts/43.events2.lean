/-! EVENTS: those raised by a break, and who breaks first -/
/-- the least of the first n that p tells -/
def fst1 (p : Nat → Bool) : Nat → Int
  | 0 => -1
  | i + 1 => if fst1 p i = -1 then (if p i = true then (i : Int) else -1) else fst1 p i
theorem fst1_bd (p : Nat → Bool) (n : Nat) : fst1 p n = -1 ∨ (0 ≤ fst1 p n ∧ fst1 p n < n) := by
  induction n with
  | zero => exact Or.inl rfl
  | succ n ih =>
    simp only [fst1]
    by_cases q : fst1 p n = -1
    · rw [if_pos q]
      by_cases q2 : p n = true
      · rw [if_pos q2]; omega
      · rw [if_neg q2]; exact Or.inl rfl
    · rw [if_neg q]; omega
theorem fst1_up {p : Nat → Bool} {i : Nat} (h : ¬ fst1 p i = -1) : ∀ j, fst1 p (i + j) = fst1 p i := by
  intro j
  induction j with
  | zero => rfl
  | succ j ih =>
    show (if fst1 p (i + j) = -1 then (if p (i + j) = true then ((i + j : Nat) : Int) else -1) else fst1 p (i + j)) = _
    rw [ih, if_neg h]
section RAISED
variable {n : Nat} {nv : Nat → Nat → Int} {md mb : Nat → Int} {br : Bool} {D : Int} {fr fs dr ds : Nat → Int} {sO sU : Int} {dO dU : Nat → Int64} {F : Nat}
theorem noteRaised_z (hn : n ≤ 5) (hF : 10 < F) {way wb : Nat → Int32} (hw : ∀ i, i < n → way i = zI (md i) ∧ 0 ≤ md i ∧ md i ≤ 4) (hwb : ∀ i, i < n → wb i = zI (mb i) ∧ 0 ≤ mb i ∧ mb i ≤ 4)
    {w a : Int} (hw0 : 0 ≤ w ∧ w ≤ 4) {L : List (Int × Nat × Int × Int)} {tot : Int32} {kd wh : Nat → Int32} {ov un : Nat → Int64} (hE : EvZ L tot kd wh ov un) {P Q : Int}
    (hL : L.length + (sel (fun i => decide (mb i ≤ w ∧ w < md i ∧ md i ≤ 2)) n).length ≤ 15) :
    ∃ tot' kd' wh' ov' un', f_G_noteRaised F (zI w) (zI a) way wb tot kd wh ov un (zL P) (zL Q) (zI (n : Int)) = some (tot', kd', wh', ov', un') ∧
      EvZ (L ++ evs a P Q (sel (fun i => decide (mb i ≤ w ∧ w < md i ∧ md i ≤ 2)) n)) tot' kd' wh' ov' un' := by
  generalize hp : (fun i => decide (mb i ≤ w ∧ w < md i ∧ md i ≤ 2)) = p at *
  have loop := iter_for (body := un6 (fb_G_noteRaised_2 (zI w) (zI a) way wb (zL P) (zL Q) (zI (n : Int)))) (F := F) (s := ((0 : Int32), tot, kd, wh, ov, un))
    (fun i z => ∃ tot' kd' wh' ov' un', z = (zI (i : Int), tot', kd', wh', ov', un') ∧ EvZ (L ++ evs a P Q (sel p i)) tot' kd' wh' ov' un')
    (fun q => ∃ tot' kd' wh' ov' un', q = (tot', kd', wh', ov', un') ∧ EvZ (L ++ evs a P Q (sel p n)) tot' kd' wh' ov' un') n (by omega) ⟨tot, kd, wh, ov, un, rfl, by simpa [sel, evs] using hE⟩ ?_ ?_
  · obtain ⟨q, e, tot', kd', wh', ov', un', rfl, h⟩ := loop
    refine ⟨tot', kd', wh', ov', un', ?_, h⟩
    unfold f_G_noteRaised
    rw [e]; rfl
  · rintro i z hi ⟨tot', kd', wh', ov', un', rfl, hE'⟩
    obtain ⟨w1, w2, w3⟩ := hw i hi
    obtain ⟨b1, b2, b3⟩ := hwb i hi
    dsimp only [un6]
    unfold fb_G_noteRaised_2
    rw [if_neg (by rw [zI_le (by omega) (by omega) (by omega) (by omega)]; omega)]
    simp only [ldA_z (f := wb) (j := i) (n := 5) (by omega) (by omega), ldA_z (f := way) (j := i) (n := 5) (by omega) (by omega), Option.bind_some, w1, b1]
    have stay : sel p (i + 1) = sel p i → ∃ s', fj_G_noteRaised_49 (zI (i : Int)) tot' kd' wh' ov' un' = some (.inl s') ∧ ∃ tot' kd' wh' ov' un', s' = (zI ((i + 1 : Nat) : Int), tot', kd', wh', ov', un') ∧ EvZ (L ++ evs a P Q (sel p (i + 1))) tot' kd' wh' ov' un' := fun e =>
      ⟨_, by simp only [fj_G_noteRaised_49, nm, zI_1], tot', kd', wh', ov', un', rfl, by rw [e]; exact hE'⟩
    have pe : p i = decide (mb i ≤ w ∧ w < md i ∧ md i ≤ 2) := by rw [← hp]
    by_cases q1 : w < mb i
    · rw [if_pos (by rw [zI_lt (by omega) (by omega) (by omega) (by omega)]; exact q1)]
      exact stay (if_neg (by rw [pe]; simp; omega))
    · rw [if_neg (by rw [zI_lt (by omega) (by omega) (by omega) (by omega)]; exact q1)]
      by_cases q2 : md i ≤ w
      · rw [if_pos (by rw [zI_le (by omega) (by omega) (by omega) (by omega)]; exact q2)]
        exact stay (if_neg (by rw [pe]; simp; omega))
      · rw [if_neg (by rw [zI_le (by omega) (by omega) (by omega) (by omega)]; exact q2)]
        by_cases q3 : 2 < md i
        · rw [if_pos (by rw [i2, zI_lt (by omega) (by omega) (by omega) (by omega)]; exact q3)]
          exact stay (if_neg (by rw [pe]; simp; omega))
        · rw [if_neg (by rw [i2, zI_lt (by omega) (by omega) (by omega) (by omega)]; exact q3)]
          have pt : p i = true := by rw [pe]; simp; omega
          have e : sel p (i + 1) = sel p i ++ [i] := if_pos pt
          have hl := sel_le p (show i + 1 ≤ n by omega)
          rw [e, List.length_append] at hl
          have hl2 : [i].length = 1 := rfl
          obtain ⟨t', k', b', o', u', e1, e2⟩ := note_z hE' (by rw [List.length_append, evs_len]; omega) a i P Q
          rw [e1]
          refine ⟨(zI ((i + 1 : Nat) : Int), t', k', b', o', u'), by simp only [bd5, Option.bind_some, fj_G_noteRaised_49, nm, zI_1], t', k', b', o', u', rfl, ?_⟩
          rw [e, evs_snoc, ← List.append_assoc]
          exact e2
  · rintro z ⟨tot', kd', wh', ov', un', rfl, hE'⟩
    refine ⟨_, ?_, tot', kd', wh', ov', un', rfl, hE'⟩
    dsimp only [un6]
    unfold fb_G_noteRaised_2
    rw [if_pos (by rw [zI_le (by omega) (by omega) (by omega) (by omega)]; omega)]
end RAISED
