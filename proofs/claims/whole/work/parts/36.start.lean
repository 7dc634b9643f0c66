/-! STARTS: bits of bolts, the least clearance, the first ways -/
theorem bit_one : ∀ m : Nat, m < 32 → ∀ c : Nat, c < 5 → ((zI (m : Int) >>> (zI (c : Int) &&& 31)) &&& (1 : Int32) = 1 ↔ m.testBit c = true) := by decide +kernel
theorem bit_or : ∀ m : Nat, m < 32 → ∀ c : Nat, c < 5 → zI (m : Int) ||| ((1 : Int32) <<< (zI (c : Int) &&& 31)) = zI ((m ||| 2 ^ c : Nat) : Int) := by decide +kernel
theorem bit_or0 : ∀ m : Nat, m < 32 → zI (m : Int) ||| (0 : Int32) = zI (m : Int) := by decide +kernel
theorem testBit_clr : ∀ m : Nat, m < 32 → ∀ c : Nat, c < 5 → ∀ i : Nat, i < 5 → (clr m c).testBit i = (m.testBit i && !decide (i = c)) := by decide +kernel
/-- the bits of those of the first n that p tells -/
def msk (p : Nat → Bool) : Nat → Nat
  | 0 => 0
  | i + 1 => if p i = true then msk p i ||| 2 ^ i else msk p i
theorem msk_test (p : Nat → Bool) (n i : Nat) : (msk p n).testBit i = (decide (i < n) && p i) := by
  induction n with
  | zero => simp [msk]
  | succ n ih =>
    unfold msk
    by_cases q : p n = true
    · rw [if_pos q, Nat.testBit_or, ih, Nat.testBit_two_pow]
      by_cases h : i = n
      · subst h; simp [q]
      · have h1 : ¬ n = i := fun e => h e.symm
        by_cases h2 : i < n
        · have : i < n + 1 := by omega
          simp [h1, h2, this]
        · have : ¬ i < n + 1 := by omega
          simp [h1, h2, this]
    · rw [if_neg q, ih]
      by_cases h : i = n
      · subst h; simp [q]
      · by_cases h2 : i < n
        · have : i < n + 1 := by omega
          simp [h2, this]
        · have : ¬ i < n + 1 := by omega
          simp [h2, this]
theorem msk_lt (p : Nat → Bool) (n : Nat) : msk p n < 2 ^ n := by
  induction n with
  | zero => simp [msk]
  | succ n ih =>
    unfold msk
    have h1 : msk p n < 2 ^ (n + 1) := by rw [Nat.pow_succ]; omega
    by_cases q : p n = true
    · rw [if_pos q]
      exact Nat.or_lt_two_pow h1 (by rw [Nat.pow_succ]; have := Nat.two_pow_pos n; omega)
    · rw [if_neg q]; exact h1
theorem msk_32 (p : Nat → Bool) {n : Nat} (hn : n ≤ 5) : msk p n < 32 := by
  have := msk_lt p n
  have h : 2 ^ n ≤ 2 ^ 5 := Nat.pow_le_pow_right (by omega) hn
  omega
section START
variable {n : Nat} {nv : Nat → Nat → Int} {F : Nat} {c o : Nat → Int32}
theorem sound_z (hn : n ≤ 5) (hF : 10 < F) (hv : NvOk n nv) (ho : ∀ i, i < n → o i = zI (nv i 5)) :
    f_J_soundBits F o (zI (n : Int)) = some (zI ((msk (fun i => decide (nv i 5 = 0)) n : Nat) : Int)) := by
  have loop := iter_for (body := un2 (fb_J_soundBits_4 o (zI (n : Int)))) (F := F) (s := ((0 : Int32), (0 : Int32))) (fun i z => z = (zI ((msk (fun i => decide (nv i 5 = 0)) i : Nat) : Int), zI (i : Int))) (fun q => q = zI ((msk (fun i => decide (nv i 5 = 0)) n : Nat) : Int)) n (by omega) rfl ?_ ?_
  · obtain ⟨q, e, rfl⟩ := loop
    unfold f_J_soundBits
    rw [e, Option.bind_some]
  · rintro i z hi rfl
    have hvi := hv i hi
    refine ⟨_, ?_, rfl⟩
    dsimp only [un2]
    unfold fb_J_soundBits_4
    rw [if_neg (by rw [zI_le (by omega) (by omega) (by omega) (by omega)]; omega), ldA_z (by omega) (by omega), Option.bind_some, ho i hi]
    have hm : msk (fun i => decide (nv i 5 = 0)) i < 32 := msk_32 _ (by omega)
    by_cases q : nv i 5 = 0
    · rw [if_pos (by rw [q]; rfl)]
      simp only [fj_J_soundBits_29, nm]
      rw [bit_or _ hm i (by omega), zI_1]
      have e1 : msk (fun i => decide (nv i 5 = 0)) (i + 1) = msk (fun i => decide (nv i 5 = 0)) i ||| 2 ^ i := if_pos (by simp [q])
      rw [e1]
    · rw [if_neg (by rw [i0, zI_eq (by omega) (by omega) (by omega) (by omega)]; exact q)]
      simp only [fj_J_soundBits_29, nm]
      rw [bit_or0 _ hm, zI_1]
      have e1 : msk (fun i => decide (nv i 5 = 0)) (i + 1) = msk (fun i => decide (nv i 5 = 0)) i := if_neg (by simp [q])
      rw [e1]
  · rintro z rfl
    refine ⟨_, ?_, rfl⟩
    dsimp only [un2]
    unfold fb_J_soundBits_4
    rw [if_pos (by rw [zI_le (by omega) (by omega) (by omega) (by omega)]; omega)]
/-- c is the least clearance of the bolts told by bits, -1 if none is told -/
def Lst (n : Nat) (nv : Nat → Nat → Int) (m : Nat) (k : Int) : Prop := (k = -1 ∧ ∀ i, i < n → m.testBit i = false) ∨ ((∃ j, j < n ∧ m.testBit j = true ∧ k = nv j 1) ∧ ∀ i, i < n → m.testBit i = true → k ≤ nv i 1)
theorem least_z (hn : n ≤ 5) (hF : 10 < F) (hv : NvOk n nv) (hc : ∀ i, i < n → c i = zI (nv i 1)) {m : Nat} (hm : m < 32) :
    ∃ k : Int, f_J_leastClear F (zI (m : Int)) c (zI (n : Int)) = some (zI k) ∧ Lst n nv m k := by
  have loop := iter_for (body := un2 (fb_J_leastClear_4 (zI (m : Int)) c (zI (n : Int)))) (F := F) (s := ((-1 : Int32), (0 : Int32))) (fun i z => ∃ k : Int, z = (zI k, zI (i : Int)) ∧ Lst i nv m k) (fun q => ∃ k : Int, q = zI k ∧ Lst n nv m k) n (by omega) ⟨-1, rfl, Or.inl ⟨rfl, fun i hi => absurd hi (by omega)⟩⟩ ?_ ?_
  · obtain ⟨q, e, k, rfl, h⟩ := loop
    refine ⟨k, ?_, h⟩
    unfold f_J_leastClear
    rw [e, Option.bind_some]
  · rintro i z hi ⟨k, rfl, h⟩
    have hvi := hv i hi
    have hk : -1 ≤ k ∧ k ≤ 9 := by
      rcases h with ⟨h, -⟩ | ⟨⟨j, j1, j2, j3⟩, -⟩
      · omega
      · have := hv j (by omega); omega
    dsimp only [un2]
    unfold fb_J_leastClear_4
    rw [if_neg (by rw [zI_le (by omega) (by omega) (by omega) (by omega)]; omega)]
    simp only [fj_J_leastClear_36, fj_J_leastClear_43, nm, ldA_z (f := c) (j := i) (n := 5) (by omega) (by omega), Option.bind_some, zI_1, hc i hi]
    by_cases b : m.testBit i = true
    · rw [if_pos ((bit_one m hm i (by omega)).mpr b)]
      by_cases q : k = -1
      · rw [if_pos (by rw [q]; rfl)]
        refine ⟨_, rfl, nv i 1, rfl, Or.inr ⟨⟨i, by omega, b, rfl⟩, fun j hj bj => ?_⟩⟩
        rcases h with ⟨-, h⟩ | ⟨⟨l, l1, l2, l3⟩, -⟩
        · by_cases e : j = i
          · subst e; omega
          · rw [h j (by omega)] at bj; cases bj
        · have := hv l (by omega); omega
      · rw [if_neg (by rw [im1, zI_eq (by omega) (by omega) (by omega) (by omega)]; exact q)]
        rcases h with ⟨h, -⟩ | ⟨⟨l, l1, l2, l3⟩, h⟩
        · exact absurd h q
        · by_cases q2 : k ≤ nv i 1
          · rw [if_pos (by rw [zI_le (by omega) (by omega) (by omega) (by omega)]; exact q2)]
            refine ⟨_, rfl, k, rfl, Or.inr ⟨⟨l, by omega, l2, l3⟩, fun j hj bj => ?_⟩⟩
            by_cases e : j = i
            · subst e; exact q2
            · exact h j (by omega) bj
          · rw [if_neg (by rw [zI_le (by omega) (by omega) (by omega) (by omega)]; exact q2)]
            refine ⟨_, rfl, nv i 1, rfl, Or.inr ⟨⟨i, by omega, b, rfl⟩, fun j hj bj => ?_⟩⟩
            by_cases e : j = i
            · subst e; omega
            · have := h j (by omega) bj; omega
    · rw [if_neg (fun e => b ((bit_one m hm i (by omega)).mp e))]
      refine ⟨_, rfl, k, rfl, ?_⟩
      rcases h with ⟨h, h2⟩ | ⟨⟨l, l1, l2, l3⟩, h⟩
      · refine Or.inl ⟨h, fun j hj => ?_⟩
        by_cases e : j = i
        · subst e; simpa using b
        · exact h2 j (by omega)
      · refine Or.inr ⟨⟨l, by omega, l2, l3⟩, fun j hj bj => ?_⟩
        by_cases e : j = i
        · subst e; exact absurd bj b
        · exact h j (by omega) bj
  · rintro z ⟨k, rfl, h⟩
    refine ⟨_, ?_, k, rfl, h⟩
    dsimp only [un2]
    unfold fb_J_leastClear_4
    rw [if_pos (by rw [zI_le (by omega) (by omega) (by omega) (by omega)]; omega)]
/-- the first ways of the bolts told by bits -/
def mdS (nv : Nat → Nat → Int) (m : Nat) (k : Int) (i : Nat) : Int := if m.testBit i = true then (if nv i 1 = k then 1 else 0) else (if nv i 5 = 0 then 3 else 4)
theorem start_z (hn : n ≤ 5) (hF : 10 < F) (hv : NvOk n nv) (hc : ∀ i, i < n → c i = zI (nv i 1)) (ho : ∀ i, i < n → o i = zI (nv i 5)) {m : Nat} (hm : m < 32) (way : Nat → Int32) :
    ∃ (k : Int) (way' : Nat → Int32), f_G_start F (zI (m : Int)) way c o (zI (n : Int)) = some way' ∧ Lst n nv m k ∧ ∀ i, i < n → way' i = zI (mdS nv m k i) := by
  obtain ⟨k, e1, hk⟩ := least_z (F := F) hn hF hv hc hm
  have hkb : -1 ≤ k ∧ k ≤ 9 := by
    rcases hk with ⟨h, -⟩ | ⟨⟨j, j1, j2, j3⟩, -⟩
    · omega
    · have := hv j (by omega); omega
  have loop := iter_for (body := un2 (fb_G_start_11 (zI (m : Int)) (zI k) c o (zI (n : Int)))) (F := F) (s := ((0 : Int32), way)) (fun i z => ∃ w, z = (zI (i : Int), w) ∧ ∀ j, j < i → w j = zI (mdS nv m k j)) (fun q => ∀ j, j < n → q j = zI (mdS nv m k j)) n (by omega) ⟨way, rfl, fun j hj => absurd hj (by omega)⟩ ?_ ?_
  · obtain ⟨q, e, h⟩ := loop
    refine ⟨k, q, ?_, hk, h⟩
    unfold f_G_start
    rw [e1, Option.bind_some, e, Option.bind_some]
  · rintro i z hi ⟨w, rfl, h⟩
    have hvi := hv i hi
    have u1 := upI_of (g := mdS nv m k) h
    dsimp only [un2]
    unfold fb_G_start_11
    rw [if_neg (by rw [zI_le (by omega) (by omega) (by omega) (by omega)]; omega)]
    have ST := fun (x : Int32) => stI_z (f := w) (x := x) (j := i) (n := 5) (by omega) (by omega)
    have ge : ∀ x : Int, mdS nv m k i = x → ∃ s', (some (Sum.inl (zI ((i + 1 : Nat) : Int), upd w i (zI x))) : Option ((Int32 × (Nat → Int32)) ⊕ (Nat → Int32))) = some (.inl s') ∧ ∃ w', s' = (zI ((i + 1 : Nat) : Int), w') ∧ ∀ j, j < i + 1 → w' j = zI (mdS nv m k j) := by
      rintro x rfl
      exact ⟨_, rfl, _, rfl, u1⟩
    simp only [fj_G_start_54, fj_G_start_80, fj_G_start_81, nm, ldA_z (f := c) (j := i) (n := 5) (by omega) (by omega), ldA_z (f := o) (j := i) (n := 5) (by omega) (by omega), Option.bind_some, zI_1, hc i hi, ho i hi, ST]
    by_cases b : m.testBit i = true
    · rw [if_pos ((bit_one m hm i (by omega)).mpr b)]
      by_cases q : nv i 1 = k
      · rw [if_pos (by rw [q])]
        exact ge 1 (by unfold mdS; rw [if_pos b, if_pos q])
      · rw [if_neg (by rw [zI_eq (by omega) (by omega) (by omega) (by omega)]; exact q)]
        exact ge 0 (by unfold mdS; rw [if_pos b, if_neg q])
    · rw [if_neg (fun e => b ((bit_one m hm i (by omega)).mp e))]
      by_cases q : nv i 5 = 0
      · rw [if_pos (by rw [q]; rfl)]
        exact ge 3 (by unfold mdS; rw [if_neg b, if_pos q])
      · rw [if_neg (by rw [i0, zI_eq (by omega) (by omega) (by omega) (by omega)]; exact q)]
        exact ge 4 (by unfold mdS; rw [if_neg b, if_neg q])
  · rintro z ⟨w, rfl, h⟩
    refine ⟨w, ?_, h⟩
    dsimp only [un2]
    unfold fb_G_start_11
    rw [if_pos (by rw [zI_le (by omega) (by omega) (by omega) (by omega)]; omega)]
end START
