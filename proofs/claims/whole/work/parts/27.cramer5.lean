set_option maxHeartbeats 16000000 in
set_option maxRecDepth 100000 in
theorem cr_4 (T g v : Nat → Int) : cram 4 T g v 0 ∧ cram 4 T g v 1 ∧ cram 4 T g v 2 ∧ cram 4 T g v 3 := by
  refine ⟨?_, ?_, ?_, ?_⟩
  · simp [cram, sm, dN, dD, detM, dl, Hr, Hm, Nat.testBit, clr]
    grind
  · simp [cram, sm, dN, dD, detM, dl, Hr, Hm, Nat.testBit, clr]
    grind
  · simp [cram, sm, dN, dD, detM, dl, Hr, Hm, Nat.testBit, clr]
    grind
  · simp [cram, sm, dN, dD, detM, dl, Hr, Hm, Nat.testBit, clr]
    grind
set_option maxHeartbeats 16000000 in
set_option maxRecDepth 100000 in
theorem cr_5 (T g v : Nat → Int) : cram 5 T g v 0 ∧ cram 5 T g v 1 ∧ cram 5 T g v 2 ∧ cram 5 T g v 3 ∧ cram 5 T g v 4 := by
  refine ⟨?_, ?_, ?_, ?_, ?_⟩
  · simp [cram, sm, dN, dD, detM, dl, Hr, Hm, Nat.testBit, clr]
    grind
  · simp [cram, sm, dN, dD, detM, dl, Hr, Hm, Nat.testBit, clr]
    grind
  · simp [cram, sm, dN, dD, detM, dl, Hr, Hm, Nat.testBit, clr]
    grind
  · simp [cram, sm, dN, dD, detM, dl, Hr, Hm, Nat.testBit, clr]
    grind
  · simp [cram, sm, dN, dD, detM, dl, Hr, Hm, Nat.testBit, clr]
    grind
