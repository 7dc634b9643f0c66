/-! STATES: how a bolt answers its slip; forces and slips in parts of E -/
def Rsp (E c g y s f d : Int) : Prop := (d ≤ c * E ∧ f = 0) ∨ (0 < f ∧ f ≤ y * E ∧ d = c * E + g * f) ∨ (y * E < f ∧ d = c * E + g * (y * E) + s * (f - y * E))
theorem Rsp.nn {E c g y s f d : Int} (hE : 0 < E) (hy : 1 ≤ y) (h : Rsp E c g y s f d) : 0 ≤ f := by
  have := Int.mul_pos (show 0 < y by omega) hE
  rcases h with h | h | h <;> omega
theorem Rsp.mono {E c g y s f d f' d' : Int} (hE : 0 < E) (hg : 1 ≤ g) (hy : 1 ≤ y) (hs : g ≤ s) (h : Rsp E c g y s f d) (h' : Rsp E c g y s f' d') (hd : d' ≤ d) : f' ≤ f := by
  have hyE := Int.mul_pos (show 0 < y by omega) hE
  refine Int.not_lt.mp fun hlt => ?_
  have p1 : 0 < g * (f' - f) := Int.mul_pos (by omega) (by omega)
  rw [Int.mul_sub] at p1
  rcases h with ⟨a1, a2⟩ | ⟨a1, a2, a3⟩ | ⟨a1, a2⟩ <;> rcases h' with ⟨b1, b2⟩ | ⟨b1, b2, b3⟩ | ⟨b1, b2⟩
  · omega
  · rw [a2, Int.mul_zero] at p1; omega
  · have p2 : 0 < g * (y * E) := Int.mul_pos (by omega) hyE
    have p3 : 0 < s * (f' - y * E) := Int.mul_pos (by omega) (by omega)
    omega
  · omega
  · omega
  · have p3 : 0 < s * (f' - y * E) := Int.mul_pos (by omega) (by omega)
    have p4 : g * f ≤ g * (y * E) := Int.mul_le_mul_of_nonneg_left a2 (by omega)
    omega
  · omega
  · omega
  · have p3 : 0 < s * (f' - f) := Int.mul_pos (by omega) (by omega)
    rw [Int.mul_sub] at p3 a2 b2
    omega
theorem Rsp.inj {E c g y s f d d' : Int} (hE : 0 < E) (hy : 1 ≤ y) (h : Rsp E c g y s f d) (h' : Rsp E c g y s f d') (hf : 0 < f) : d' = d := by
  have hyE := Int.mul_pos (show 0 < y by omega) hE
  rcases h with ⟨a1, a2⟩ | ⟨a1, a2, a3⟩ | ⟨a1, a2⟩ <;> rcases h' with ⟨b1, b2⟩ | ⟨b1, b2, b3⟩ | ⟨b1, b2⟩ <;> omega
/-- what a bolt's way is along its line -/
def kW (nv : Nat → Nat → Int) (md : Nat → Int) (i : Nat) : Int := if md i = 1 then nv i 0 else if md i = 2 then nv i 3 else 0
def rW (nv : Nat → Nat → Int) (md : Nat → Int) (i : Nat) : Int := if md i = 2 then nv i 1 + (nv i 0 - nv i 3) * nv i 2 else nv i 1
/-- a state of the joint: the live ones answer, the others bear nothing -/
def Stt (n : Nat) (nv : Nat → Nat → Int) (A B : Int) (live : Nat → Prop) (E N : Int) (f d : Nat → Int) : Prop :=
  0 < E ∧ Row n (fun i => nv i 6) A B N f d ∧ (∀ i, i < n → live i → Rsp E (nv i 1) (nv i 0) (nv i 2) (nv i 3) (f i) (d i)) ∧ ∀ i, i < n → ¬ live i → f i = 0
theorem geo_nv {n : Nat} {nv : Nat → Nat → Int} {A B : Int} (hv : NvOk n nv) (hA : 0 ≤ A ∧ A ≤ 2) (hB : 0 ≤ B ∧ B ≤ 2) : Geo n (fun i => nv i 6) A B :=
  ⟨hA.1, hA.2, hB.1, hB.2, fun i hi => by
    have := hv i (by omega)
    show 0 ≤ nv i 6 ∧ nv i 6 ≤ 2
    omega⟩
section STT
variable {n : Nat} {nv : Nat → Nat → Int} {A B : Int} {live live' : Nat → Prop} {E N N' : Int} {f d f' d' : Nat → Int}
theorem Stt.unique (hv : NvOk n nv) (hA : 0 ≤ A ∧ A ≤ 2) (hB : 0 ≤ B ∧ B ≤ 2) (h : Stt n nv A B live E N f d) (h' : Stt n nv A B live E N f' d') (hN : 0 < N) : ∀ i, i < n → f' i = f i ∧ d' i = d i := by
  obtain ⟨hE, hr, hl, ho⟩ := h
  obtain ⟨-, hr', hl', ho'⟩ := h'
  refine row_unique (geo_nv hv hA hB) hr hr' hN (fun i hi hd => ?_) (fun i hi hd => ?_) (fun i hi hf he => ?_)
  · have := hv i hi
    by_cases q : live i
    · exact (hl i hi q).mono hE (by omega) (by omega) (by omega) (hl' i hi q) hd
    · have := ho i hi q; have := ho' i hi q; omega
  · have := hv i hi
    by_cases q : live i
    · exact (hl' i hi q).mono hE (by omega) (by omega) (by omega) (hl i hi q) hd
    · have := ho i hi q; have := ho' i hi q; omega
  · have := hv i hi
    by_cases q : live i
    · exact (hl i hi q).inj hE (by omega) (by rw [← he]; exact hl' i hi q) hf
    · have := ho i hi q; omega
/-- fewer live ones: the others slip more -/
theorem Stt.broken (hv : NvOk n nv) (hA : 0 ≤ A ∧ A ≤ 2) (hB : 0 ≤ B ∧ B ≤ 2) (h : Stt n nv A B live E N f d) (h' : Stt n nv A B live' E N f' d') (hsub : ∀ i, live' i → live i) (b : Nat) (hb : b < n) (hbo : ¬ live' b) (hfb : 0 < f b) : ∀ i, i < n → d i < d' i := by
  obtain ⟨hE, hr, hl, ho⟩ := h
  obtain ⟨-, hr', hl', ho'⟩ := h'
  refine row_break (geo_nv hv hA hB) hr hr' b hb (by rw [ho' b hb hbo]; exact hfb) (fun i hi hd => ?_)
  have := hv i hi
  by_cases q : live' i
  · exact (hl i hi (hsub i q)).mono hE (by omega) (by omega) (by omega) (hl' i hi q) hd
  · rw [ho' i hi q]
    by_cases q2 : live i
    · exact (hl i hi q2).nn hE (by omega)
    · rw [ho i hi q2]; exact Int.le_refl 0
theorem Stt.more (hv : NvOk n nv) (hA : 0 ≤ A ∧ A ≤ 2) (hB : 0 ≤ B ∧ B ≤ 2) (h : Stt n nv A B live E N f d) (h' : Stt n nv A B live E N' f' d') (hN : N < N') : ∀ i, i < n → d i < d' i := by
  obtain ⟨hE, hr, hl, ho⟩ := h
  obtain ⟨-, hr', hl', ho'⟩ := h'
  refine row_more (geo_nv hv hA hB) hr hr' hN (fun i hi hd => ?_)
  have := hv i hi
  by_cases q : live i
  · exact (hl i hi q).mono hE (by omega) (by omega) (by omega) (hl' i hi q) hd
  · rw [ho i hi q, ho' i hi q]; exact Int.le_refl 0
end STT
/-- lines by ways, at a load P / Q: each within its bounds (a bound itself may be reached) -/
def Near (n : Nat) (nv : Nat → Nat → Int) (md : Nat → Int) (D : Int) (fr fs dr ds : Nat → Int) (P Q : Int) : Prop := ∀ i, i < n →
  (md i = 0 → dr i * P + ds i * Q ≤ nv i 1 * (D * Q)) ∧ (md i = 1 → 0 ≤ fr i * P + fs i * Q ∧ fr i * P + fs i * Q ≤ nv i 2 * (D * Q)) ∧ (md i = 2 → nv i 2 * (D * Q) ≤ fr i * P + fs i * Q)
def liv (md : Nat → Int) (i : Nat) : Prop := 0 ≤ md i ∧ md i ≤ 2
theorem Near.stt {n : Nat} {nv : Nat → Nat → Int} {A B : Int} {md : Nat → Int} {D : Int} {fr fs dr ds : Nat → Int} {P Q : Int} (hv : NvOk n nv) (hmd : ∀ i, i < n → 0 ≤ md i) (hS : Sol n (fun i => nv i 6) A B (kW nv md) (rW nv md) D fr fs dr ds) (hQ : 0 < Q) (h : Near n nv md D fr fs dr ds P Q) :
    Stt n nv A B (liv md) (D * Q) (D * P) (fun i => fr i * P + fs i * Q) (fun i => dr i * P + ds i * Q) := by
  have hD := hS.1
  refine ⟨Int.mul_pos hD hQ, hS.row P Q, fun i hi hl => ?_, fun i hi hl => ?_⟩
  · have hvi := hv i hi
    obtain ⟨h0, h1, h2⟩ := h i hi
    have hl1 := hl.1
    have hl2 := hl.2
    have hyE := Int.mul_pos (show 0 < nv i 2 by omega) (Int.mul_pos hD hQ)
    show Rsp (D * Q) (nv i 1) (nv i 0) (nv i 2) (nv i 3) (fr i * P + fs i * Q) (dr i * P + ds i * Q)
    by_cases m0 : md i = 0
    · have hk : kW nv md i = 0 := by unfold kW; rw [if_neg (by omega), if_neg (by omega)]
      have e := hS.2.1 i hi hk
      exact Or.inl ⟨h0 m0, by rw [e.1, e.2]; simp⟩
    · by_cases m1 : md i = 1
      · have hk : kW nv md i = nv i 0 := by unfold kW; rw [if_pos m1]
        have hr : rW nv md i = nv i 1 := by unfold rW; rw [if_neg (by omega)]
        have e := hS.2.2.1 i hi (by rw [hk]; omega)
        rw [hk, hr] at e
        have e2 : dr i * P + ds i * Q = nv i 1 * (D * Q) + nv i 0 * (fr i * P + fs i * Q) := by rw [e.1, e.2]; grind
        obtain ⟨a, b⟩ := h1 m1
        rcases Int.lt_or_eq_of_le a with q | q
        · exact Or.inr (Or.inl ⟨q, b, e2⟩)
        · refine Or.inl ⟨?_, q.symm⟩
          rw [e2, ← q, Int.mul_zero]; omega
      · have m2 : md i = 2 := by omega
        have hk : kW nv md i = nv i 3 := by unfold kW; rw [if_neg (by omega), if_pos m2]
        have hr : rW nv md i = nv i 1 + (nv i 0 - nv i 3) * nv i 2 := by unfold rW; rw [if_pos m2]
        have e := hS.2.2.1 i hi (by rw [hk]; omega)
        rw [hk, hr] at e
        have e2 : dr i * P + ds i * Q = nv i 1 * (D * Q) + nv i 0 * (nv i 2 * (D * Q)) + nv i 3 * (fr i * P + fs i * Q - nv i 2 * (D * Q)) := by rw [e.1, e.2]; grind
        have a := h2 m2
        rcases Int.lt_or_eq_of_le a with q | q
        · exact Or.inr (Or.inr ⟨q, e2⟩)
        · refine Or.inr (Or.inl ⟨by omega, by omega, ?_⟩)
          rw [e2, ← q]; simp
  · have hk : kW nv md i = 0 := by
      have := hmd i hi
      unfold liv at hl
      unfold kW; rw [if_neg (by omega), if_neg (by omega)]
    have e := hS.2.1 i hi hk
    show fr i * P + fs i * Q = 0
    rw [e.1, e.2]; simp
