/-! THE MODEL'S LINES -/
theorem of_z {n : Nat} (hn : n ≤ 5) {now : Nat → Int32} {nv : Nat → Nat → Int} (h : ∀ i, i < n → ∀ q, q < 7 → now (7 * i + q) = zI (nv i q)) {i q : Nat} (hi : i < n) (hq : q < 7) : f_M_of (zI (i : Int)) (zI (q : Int)) now = some (zI (nv i q)) := by
  unfold f_M_of
  have e : (7 : Int32) * zI (i : Int) + zI (q : Int) = zI ((7 * i + q : Nat) : Int) := by
    rw [show (7 : Int32) = zI 7 from rfl, zI_mul, zI_add]; congr 1
  rw [e, ldA_z (by omega) (by omega), Option.bind_some, h i hi q hq]
/-- the bolts that bear, in order -/
def bl (k : Nat → Int) : Nat → List Nat
  | 0 => []
  | i + 1 => if 0 < k i then bl k i ++ [i] else bl k i
theorem bl_len (k : Nat → Int) : ∀ n, (bl k n).length ≤ n
  | 0 => Nat.le_refl 0
  | i + 1 => by
    have := bl_len k i
    unfold bl
    by_cases h : 0 < k i
    · rw [if_pos h, List.length_append]; simp; omega
    · rw [if_neg h]; omega
theorem bl_mem (k : Nat → Int) : ∀ (n x : Nat), x ∈ bl k n ↔ x < n ∧ 0 < k x
  | 0, x => by simp [bl]
  | i + 1, x => by
    unfold bl
    have ih := bl_mem k i x
    by_cases h : 0 < k i
    · rw [if_pos h, List.mem_append, ih, List.mem_singleton]
      constructor
      · rintro (q | q)
        · exact ⟨by omega, q.2⟩
        · subst q; exact ⟨by omega, h⟩
      · rintro ⟨q1, q2⟩
        by_cases e : x = i
        · exact Or.inr e
        · exact Or.inl ⟨by omega, q2⟩
    · rw [if_neg h, ih]
      constructor
      · rintro ⟨q1, q2⟩; exact ⟨by omega, q2⟩
      · rintro ⟨q1, q2⟩
        refine ⟨Nat.lt_of_le_of_ne (by omega) fun e => ?_, q2⟩
        subst e; exact h q2
theorem bl_sorted (k : Nat → Int) : ∀ (n : Nat), (bl k n).Pairwise (· < ·)
  | 0 => List.Pairwise.nil
  | i + 1 => by
    unfold bl
    by_cases h : 0 < k i
    · rw [if_pos h, List.pairwise_append]
      refine ⟨bl_sorted k i, List.pairwise_singleton _ _, fun a ha b hb => ?_⟩
      rw [List.mem_singleton] at hb
      have := ((bl_mem k i a).mp ha).1
      omega
    · rw [if_neg h]; exact bl_sorted k i
theorem getD_lt {l : List Nat} {j : Nat} (h : j < l.length) : l.getD j 0 = l[j] := by
  rw [List.getD_eq_getElem?_getD, List.getElem?_eq_getElem h]; rfl
/-- the j-th of them -/
def be (k : Nat → Int) (n j : Nat) : Nat := (bl k n).getD j 0
theorem be_mem {k : Nat → Int} {n j : Nat} (h : j < (bl k n).length) : be k n j < n ∧ 0 < k (be k n j) := by
  unfold be
  rw [getD_lt h]
  exact (bl_mem k n _).mp (List.getElem_mem h)
theorem be_lt {k : Nat → Int} {n i j : Nat} (h : j < (bl k n).length) (hij : i < j) : be k n i < be k n j := by
  unfold be
  rw [getD_lt h, getD_lt (by omega)]
  exact List.pairwise_iff_getElem.mp (bl_sorted k n) i j (by omega) h hij
theorem be_all {k : Nat → Int} {n x : Nat} (hx : x < n) (hk : 0 < k x) : ∃ j, j < (bl k n).length ∧ be k n j = x := by
  obtain ⟨j, hj, e⟩ := List.mem_iff_getElem.mp ((bl_mem k n x).mpr ⟨hx, hk⟩)
  exact ⟨j, hj, by unfold be; rw [getD_lt hj, e]⟩
theorem be_gap {k : Nat → Int} {n : Nat} : ∀ (d i : Nat), i + d < (bl k n).length → be k n i + d ≤ be k n (i + d)
  | 0, i, _ => by simp
  | d + 1, i, h => by
    have h1 := be_gap (k := k) (n := n) d i (by omega)
    have h2 := be_lt (k := k) (n := n) (i := i + d) (j := i + d + 1) h (by omega)
    show be k n i + (d + 1) ≤ be k n (i + d + 1)
    omega
theorem be_near {k : Nat → Int} {n r : Nat} (h : r + 1 < (bl k n).length) : be k n (r + 1) + (bl k n).length ≤ be k n r + n + 1 := by
  have h1 := be_gap (k := k) (n := n) r 0 (by omega)
  obtain ⟨d, hd⟩ : ∃ d, (bl k n).length = (r + 1) + d + 1 := ⟨(bl k n).length - (r + 2), by omega⟩
  have h2 := be_gap (k := k) (n := n) d (r + 1) (by omega)
  have h3 := (be_mem (k := k) (n := n) (j := r + 1 + d) (by omega)).1
  rw [Nat.zero_add] at h1
  omega
def kM (nv : Nat → Nat → Int) (md : Nat → Int) (i : Nat) : Int := if md i = 1 then nv i 0 else if md i = 2 then nv i 3 else 0
/-- the ranges of a model's bolts -/
def NvOk (n : Nat) (nv : Nat → Nat → Int) : Prop := ∀ i, i < n → 1 ≤ nv i 0 ∧ nv i 0 ≤ 5 ∧ 0 ≤ nv i 1 ∧ nv i 1 ≤ 9 ∧ 1 ≤ nv i 2 ∧ nv i 2 ≤ 30 ∧ nv i 0 ≤ nv i 3 ∧ nv i 3 ≤ 9 ∧ nv i 2 + 1 ≤ nv i 4 ∧ nv i 4 ≤ 60 ∧ 0 ≤ nv i 5 ∧ nv i 5 ≤ 1 ∧ 0 ≤ nv i 6 ∧ nv i 6 ≤ 2
theorem kM_bd {n : Nat} {nv : Nat → Nat → Int} {md : Nat → Int} (h : NvOk n nv) : ∀ i, i < n → 0 ≤ kM nv md i ∧ kM nv md i ≤ 9 := by
  intro i hi
  have := h i hi
  unfold kM
  by_cases h1 : md i = 1
  · rw [if_pos h1]; omega
  · rw [if_neg h1]
    by_cases h2 : md i = 2
    · rw [if_pos h2]; omega
    · rw [if_neg h2]; omega
theorem kM_pos {n : Nat} {nv : Nat → Nat → Int} {md : Nat → Int} (h : NvOk n nv) {i : Nat} (hi : i < n) : 0 < kM nv md i ↔ md i = 1 ∨ md i = 2 := by
  have := h i hi
  unfold kM
  by_cases h1 : md i = 1
  · rw [if_pos h1]; omega
  · rw [if_neg h1]
    by_cases h2 : md i = 2
    · rw [if_pos h2]; omega
    · rw [if_neg h2]; omega
section MS
variable {n : Nat} {now mode : Nat → Int32} {nv : Nat → Nat → Int} {md : Nat → Int} {F : Nat}
theorem give_z (hn : n ≤ 5) (h : ∀ i, i < n → ∀ q, q < 7 → now (7 * i + q) = zI (nv i q)) (hm : ∀ i, i < n → mode i = zI (md i) ∧ 0 ≤ md i ∧ md i ≤ 3) {i : Nat} (hi : i < n) (hk : md i = 1 ∨ md i = 2) : f_M_give (zI (i : Int)) now mode = some (zI (kM nv md i)) := by
  obtain ⟨m1, m2, m3⟩ := hm i hi
  unfold f_M_give kM
  rw [ldA_z (by omega) (by omega), Option.bind_some, m1]
  by_cases h2 : md i = 2
  · rw [if_pos (by rw [h2]; rfl), show (3 : Int32) = zI ((3 : Nat) : Int) from rfl, of_z hn h hi (by omega), Option.bind_some, if_neg (by omega), if_pos h2]
  · rw [if_neg (by rw [i2, zI_eq (by omega) (by omega) (by omega) (by omega)]; exact h2), show (0 : Int32) = zI ((0 : Nat) : Int) from rfl, of_z hn h hi (by omega), Option.bind_some, if_pos (by omega)]
theorem pitches_z (hn : n ≤ 5) (hF : 10 < F) (hv : NvOk n nv) (h : ∀ i, i < n → ∀ q, q < 7 → now (7 * i + q) = zI (nv i q)) {a c : Nat} (hac : a ≤ c) (hc : c ≤ n) : f_M_pitchesFrom F (zI (a : Int)) (zI (c : Int)) now = some (zI (sm (fun i => nv i 6) c - sm (fun i => nv i 6) a)) := by
  have loop := iter_up (body := un2 (fb_M_pitchesFrom_5 (zI (c : Int)) now)) (fun x s => s = (zI (sm (fun i => nv i 6) x - sm (fun i => nv i 6) a), zI (x : Int))) (fun q => q = zI (sm (fun i => nv i 6) c - sm (fun i => nv i 6) a)) c ?_ ?_ (c - a) a F ((0 : Int32), zI (a : Int)) (by omega) (by omega) (by rw [Int.sub_self]; rfl)
  · obtain ⟨q, e, rfl⟩ := loop
    unfold f_M_pitchesFrom
    rw [e]; rfl
  · rintro x s hx rfl
    left
    simp only [un2, fb_M_pitchesFrom_5]
    rw [if_neg (by rw [zI_le (by omega) (by omega) (by omega) (by omega)]; omega), show (6 : Int32) = zI ((6 : Nat) : Int) from rfl, of_z hn h (show x < n by omega) (by omega), Option.bind_some]
    simp only [nm, zI_add, zI_1]
    refine ⟨_, rfl, ?_⟩
    rw [sm_s]
    congr 2
    omega
  · rintro s rfl
    simp only [un2, fb_M_pitchesFrom_5]
    rw [if_pos (Int32.le_refl _)]
    exact ⟨_, rfl, rfl⟩
theorem bearers_z (hn : n ≤ 5) (hF : 10 < F) (hv : NvOk n nv) (hm : ∀ i, i < n → mode i = zI (md i) ∧ 0 ≤ md i ∧ md i ≤ 3) (be0 : Nat → Int32) :
    ∃ be', iter (un3 (fb_M_layMatrix_7 (zI (n : Int)) mode)) F ((0 : Int32), be0, (0 : Int32)) = some (be', zI ((bl (kM nv md) n).length : Int)) ∧ ∀ j, j < (bl (kM nv md) n).length → be' j = zI (be (kM nv md) n j : Int) := by
  have loop := iter_for (body := un3 (fb_M_layMatrix_7 (zI (n : Int)) mode)) (F := F) (s := ((0 : Int32), be0, (0 : Int32)))
    (fun i s => ∃ f, s = (zI (i : Int), f, zI ((bl (kM nv md) i).length : Int)) ∧ ∀ j, j < (bl (kM nv md) i).length → f j = zI ((bl (kM nv md) i).getD j 0 : Int))
    (fun q => ∃ f, q = (f, zI ((bl (kM nv md) n).length : Int)) ∧ ∀ j, j < (bl (kM nv md) n).length → f j = zI (be (kM nv md) n j : Int)) n (by omega) ⟨be0, rfl, fun j hj => by simp [bl] at hj⟩ ?_ ?_
  · obtain ⟨q, e, f, rfl, hf⟩ := loop
    exact ⟨f, e, hf⟩
  · rintro i s hi ⟨f, rfl, hf⟩
    obtain ⟨m1, m2, m3⟩ := hm i hi
    have hl := bl_len (kM nv md) i
    have hkp := kM_pos (md := md) hv hi
    simp only [un3, fb_M_layMatrix_7]
    rw [if_neg (by rw [zI_le (by omega) (by omega) (by omega) (by omega)]; omega), ldA_z (by omega) (by omega), Option.bind_some, m1]
    have adds : 0 < kM nv md i → ∃ s', fj_M_layMatrix_35 (zI (i : Int)) f (zI ((bl (kM nv md) i).length : Int)) = some (.inl s') ∧ ∃ f, s' = (zI ((i + 1 : Nat) : Int), f, zI ((bl (kM nv md) (i + 1)).length : Int)) ∧ ∀ j, j < (bl (kM nv md) (i + 1)).length → f j = zI ((bl (kM nv md) (i + 1)).getD j 0 : Int) := by
      intro hk
      have e : bl (kM nv md) (i + 1) = bl (kM nv md) i ++ [i] := by
        show (if _ then _ else _) = _
        rw [if_pos hk]
      unfold fj_M_layMatrix_35
      simp only [nm]
      rw [stI_z (by omega) (by omega), Option.bind_some]
      simp only [nm, fj_M_layMatrix_52, zI_1]
      refine ⟨_, rfl, upd f (bl (kM nv md) i).length (zI (i : Int)), ?_, ?_⟩
      · rw [e, List.length_append]; rfl
      · intro j hj
        rw [e, List.length_append] at hj
        simp at hj
        rw [upd_at, e]
        by_cases q : j = (bl (kM nv md) i).length
        · rw [if_pos q, q]
          simp
        · rw [if_neg q, hf j (by omega)]
          rw [getD_lt (by omega), getD_lt (by rw [List.length_append]; omega), List.getElem_append_left (by omega)]
    by_cases h1 : md i = 1
    · rw [if_pos (by rw [h1]; rfl)]
      exact adds (hkp.mpr (Or.inl h1))
    · rw [if_neg (by rw [i1, zI_eq (by omega) (by omega) (by omega) (by omega)]; exact h1), Option.bind_some]
      by_cases h2 : md i = 2
      · rw [if_pos (by rw [h2]; rfl)]
        exact adds (hkp.mpr (Or.inr h2))
      · rw [if_neg (by rw [i2, zI_eq (by omega) (by omega) (by omega) (by omega)]; exact h2)]
        have hk : ¬ 0 < kM nv md i := fun q => by rcases hkp.mp q with q | q <;> omega
        have e : bl (kM nv md) (i + 1) = bl (kM nv md) i := by
          show (if _ then _ else _) = _
          rw [if_neg hk]
        simp only [nm, fj_M_layMatrix_52, zI_1]
        refine ⟨_, rfl, f, ?_, ?_⟩
        · rw [e]
        · rw [e]; exact hf
  · rintro s ⟨f, rfl, hf⟩
    simp only [un3, fb_M_layMatrix_7]
    rw [if_pos (Int32.le_refl _)]
    exact ⟨_, rfl, f, rfl, hf⟩
theorem zeros_z (hF : 40 < F) (m0 : Nat → Int64) : ∃ m', iter (un2 fb_M_layMatrix_60) F ((0 : Int32), m0) = some m' ∧ ∀ x, x < 35 → m' x = zL 0 := by
  have loop := iter_for (body := un2 fb_M_layMatrix_60) (F := F) (s := ((0 : Int32), m0)) (fun i s => ∃ f, s = (zI (i : Int), f) ∧ ∀ x, x < i → f x = zL 0) (fun q => ∀ x, x < 35 → q x = zL 0) 35 (by omega) ⟨m0, rfl, fun x hx => absurd hx (by omega)⟩ ?_ ?_
  · obtain ⟨q, e, h⟩ := loop
    exact ⟨q, e, h⟩
  · rintro i s hi ⟨f, rfl, hf⟩
    simp only [un2, fb_M_layMatrix_60]
    rw [show (35 : Int32) = zI 35 from rfl, if_neg (by rw [zI_le (by omega) (by omega) (by omega) (by omega)]; omega), stL_z (by omega) (by omega), Option.bind_some]
    simp only [nm, zI_1]
    exact ⟨_, rfl, _, rfl, upL_of (g := fun _ => 0) hf⟩
  · rintro s ⟨f, rfl, hf⟩
    simp only [un2, fb_M_layMatrix_60]
    rw [if_pos (by rw [show (35 : Int32) = zI 35 from rfl]; exact Int32.le_refl _)]
    exact ⟨_, rfl, hf⟩
end MS
