set_option maxHeartbeats 4000000 in
theorem dD_5 (T g : Nat → Int) : dD 5 T g = (eB T g 4).2 := by
  simp [dD, detM, dl, Hm, eB, Nat.testBit, clr]
  grind
def cram (b : Nat) (T g v : Nat → Int) (r : Nat) : Prop := sm (fun c => Hm b T g r c * dN b T g v c) b = v r * dD b T g
set_option maxHeartbeats 4000000 in
theorem cr_1 (T g v : Nat → Int) : cram 1 T g v 0 := by
  simp [cram, sm, dN, dD, detM, dl, Hr, Hm, Nat.testBit, clr]
set_option maxHeartbeats 4000000 in
theorem cr_2 (T g v : Nat → Int) : cram 2 T g v 0 ∧ cram 2 T g v 1 := by
  refine ⟨?_, ?_⟩
  · simp [cram, sm, dN, dD, detM, dl, Hr, Hm, Nat.testBit, clr]
    grind
  · simp [cram, sm, dN, dD, detM, dl, Hr, Hm, Nat.testBit, clr]
    grind
set_option maxHeartbeats 4000000 in
theorem cr_3 (T g v : Nat → Int) : cram 3 T g v 0 ∧ cram 3 T g v 1 ∧ cram 3 T g v 2 := by
  refine ⟨?_, ?_, ?_⟩
  · simp [cram, sm, dN, dD, detM, dl, Hr, Hm, Nat.testBit, clr]
    grind
  · simp [cram, sm, dN, dD, detM, dl, Hr, Hm, Nat.testBit, clr]
    grind
  · simp [cram, sm, dN, dD, detM, dl, Hr, Hm, Nat.testBit, clr]
    grind
