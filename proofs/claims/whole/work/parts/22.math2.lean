/-! THE CLASS'S LINES: forward and backward numbers of the elimination; they have whole quotients. -/
/-- forward: m, x, p, c, bx, bp, bc, V, U ahead of a bolt -/
abbrev S9 : Type := Int × Int × Int × Int × Int × Int × Int × Int × Int
def stp (k r w A B : Int) (s : S9) : S9 :=
  if 0 < k then
    (s.1 * k, s.2.1 * k + w * (A + B) * (s.2.2.2.2.1 * k + s.2.1), s.2.2.1 * k + (w * (A + B) * (s.2.2.2.2.2.1 * k + s.2.2.1) - w * A * (s.1 * k)), s.2.2.2.1 * k + w * (A + B) * (s.2.2.2.2.2.2.1 * k + s.2.2.2.1 - r * s.1),
      s.2.2.2.2.1 * k + s.2.1, s.2.2.2.2.2.1 * k + s.2.2.1, s.2.2.2.2.2.2.1 * k + s.2.2.2.1 - r * s.1, k * s.2.2.2.2.2.2.2.1 - w * A * (s.2.2.2.2.1 * k + s.2.1), k * s.2.2.2.2.2.2.2.2 + s.2.1 * r)
  else
    (s.1, s.2.1 + w * (A + B) * s.2.2.2.2.1, s.2.2.1 + (w * (A + B) * s.2.2.2.2.2.1 - w * A * s.1), s.2.2.2.1 + w * (A + B) * s.2.2.2.2.2.2.1,
      s.2.2.2.2.1, s.2.2.2.2.2.1, s.2.2.2.2.2.2.1, s.2.2.2.2.2.2.2.1 - w * A * s.2.2.2.2.1, s.2.2.2.2.2.2.2.2)
def fw (k r w : Nat → Int) (A B : Int) : Nat → S9
  | 0 => (1, 1, 0, 0, 0, 0, 0, 0, 0)
  | i + 1 => stp (k i) (r i) (w i) A B (fw k r w A B i)
/-- backward: alpha, beta, gamma, delta, M ahead of a bolt -/
abbrev S5 : Type := Int × Int × Int × Int × Int
def bst (k r w A B : Int) (s : S5) : S5 :=
  if 0 < k then
    (k * s.1 + (s.1 * (w * (A + B)) + s.2.1), k * (s.1 * (w * (A + B)) + s.2.1), k * (s.2.2.1 - s.1 * (w * A)), k * s.2.2.2.1 - r * (s.1 * (w * (A + B)) + s.2.1), k * s.2.2.2.2)
  else
    (s.1, s.1 * (w * (A + B)) + s.2.1, s.2.2.1 - s.1 * (w * A), s.2.2.2.1, s.2.2.2.2)
def bw (k r w : Nat → Int) (A B : Int) (n : Nat) : Nat → S5
  | 0 => (0, 1, 0, 0, 1)
  | j + 1 => bst (k (n - 1 - j)) (r (n - 1 - j)) (w (n - 1 - j)) A B (bw k r w A B n j)
/-- what stays the same along the row -/
def Inv9 (D P C m : Int) (s : S9) (t : S5) : Prop :=
  t.1 * s.2.1 + t.2.1 * s.2.2.2.2.1 = D ∧ t.1 * s.2.2.1 + t.2.1 * s.2.2.2.2.2.1 + t.2.2.1 * s.1 = P ∧ t.1 * s.2.2.2.1 + t.2.1 * s.2.2.2.2.2.2.1 + t.2.2.2.1 * s.1 = C ∧ t.2.2.2.2 * s.1 = m ∧
  s.2.2.1 * s.2.2.2.2.1 - s.2.1 * s.2.2.2.2.2.1 = s.1 * s.2.2.2.2.2.2.2.1 ∧ s.2.2.2.1 * s.2.2.2.2.1 - s.2.1 * s.2.2.2.2.2.2.1 = s.1 * s.2.2.2.2.2.2.2.2
theorem Inv9.step {D P C m k r w A B : Int} {s : S9} {t : S5} (h : Inv9 D P C m s (bst k r w A B t)) : Inv9 D P C m (stp k r w A B s) t := by
  obtain ⟨m0, x, p, c, bx, bp, bc, V, U⟩ := s
  obtain ⟨al, be, ga, de, M⟩ := t
  unfold Inv9 bst at h
  unfold Inv9 stp
  by_cases hk : 0 < k
  · rw [if_pos hk] at h
    rw [if_pos hk]
    dsimp only at h ⊢
    obtain ⟨h1, h2, h3, h4, h5, h6⟩ := h
    refine ⟨?_, ?_, ?_, ?_, ?_, ?_⟩
    · rw [← h1]; grind
    · rw [← h2]; grind
    · rw [← h3]; grind
    · rw [← h4]; grind
    · have h7 := congrArg (fun z => k * k * z) h5
      clear h1 h2 h3 h4 h5 h6
      grind
    · have h7 := congrArg (fun z => k * k * z) h6
      clear h1 h2 h3 h4 h5 h6
      grind
  · rw [if_neg hk] at h
    rw [if_neg hk]
    dsimp only at h ⊢
    obtain ⟨h1, h2, h3, h4, h5, h6⟩ := h
    refine ⟨?_, ?_, ?_, ?_, ?_, ?_⟩
    · rw [← h1]; grind
    · rw [← h2]; grind
    · rw [← h3]; grind
    · rw [← h4]
    · grind
    · grind
/-- slips and what is borne, ahead of a bolt -/
def xdr (s : S9) (t : S5) : Int := s.2.1 * (t.2.2.2.2 - t.2.2.1) + t.2.1 * s.2.2.2.2.2.2.2.1
def xbr (s : S9) (t : S5) : Int := s.2.2.2.2.1 * (t.2.2.2.2 - t.2.2.1) - t.1 * s.2.2.2.2.2.2.2.1
def xds (s : S9) (t : S5) : Int := - (s.2.1 * t.2.2.2.1) + t.2.1 * s.2.2.2.2.2.2.2.2
def xbs (s : S9) (t : S5) : Int := - (s.2.2.2.2.1 * t.2.2.2.1) - t.1 * s.2.2.2.2.2.2.2.2
theorem xd_div {D P C m : Int} {s : S9} {t : S5} (h : Inv9 D P C m s t) : s.1 * xdr s t = s.2.1 * (m - P) + s.2.2.1 * D ∧ s.1 * xds s t = s.2.1 * (-C) + s.2.2.2.1 * D := by
  obtain ⟨m0, x, p, c, bx, bp, bc, V, U⟩ := s
  obtain ⟨al, be, ga, de, M⟩ := t
  obtain ⟨h1, h2, h3, h4, h5, h6⟩ := h
  unfold xdr xds
  dsimp only at *
  rw [← h1, ← h2, ← h3, ← h4]
  refine ⟨?_, ?_⟩
  · have : x * (M * m0 - (al * p + be * bp + ga * m0)) + p * (al * x + be * bx) = m0 * (x * (M - ga)) + be * (p * bx - x * bp) := by grind
    rw [this, h5]; grind
  · have : x * -(al * c + be * bc + de * m0) + c * (al * x + be * bx) = m0 * (-(x * de)) + be * (c * bx - x * bc) := by grind
    rw [this, h6]; grind
theorem xd_step {D P C m k r w A B : Int} {s : S9} {t : S5} (h : Inv9 D P C m s (bst k r w A B t)) :
    (k * (xbr (stp k r w A B s) t - xbr s (bst k r w A B t)) = xdr s (bst k r w A B t) ∨ ¬ 0 < k) ∧ (¬ 0 < k → xbr (stp k r w A B s) t = xbr s (bst k r w A B t)) ∧
    (k * (xbs (stp k r w A B s) t - xbs s (bst k r w A B t)) = xds s (bst k r w A B t) - r * D ∨ ¬ 0 < k) ∧ (¬ 0 < k → xbs (stp k r w A B s) t = xbs s (bst k r w A B t)) ∧
    xdr (stp k r w A B s) t = xdr s (bst k r w A B t) + w * ((A + B) * xbr (stp k r w A B s) t - A * D) ∧
    xds (stp k r w A B s) t = xds s (bst k r w A B t) + w * ((A + B) * xbs (stp k r w A B s) t) := by
  obtain ⟨m0, x, p, c, bx, bp, bc, V, U⟩ := s
  obtain ⟨al, be, ga, de, M⟩ := t
  unfold Inv9 bst at h
  unfold xdr xbr xds xbs stp bst
  by_cases hk : 0 < k
  · simp only [if_pos hk] at h ⊢
    obtain ⟨h1, -⟩ := h
    refine ⟨Or.inl ?_, fun q => absurd hk q, Or.inl ?_, fun q => absurd hk q, ?_, ?_⟩
    · grind
    · rw [← h1]; grind
    · rw [← h1]; grind
    · grind
  · simp only [if_neg hk] at h ⊢
    obtain ⟨h1, -⟩ := h
    refine ⟨Or.inr hk, fun _ => ?_, Or.inr hk, fun _ => ?_, ?_, ?_⟩
    · grind
    · grind
    · rw [← h1]; grind
    · grind

theorem fw_inv0 {n : Nat} {k r w : Nat → Int} {A B : Int} : ∀ (d : Nat), d ≤ n → Inv9 (bw k r w A B n n).1 (bw k r w A B n n).2.2.1 (bw k r w A B n n).2.2.2.1 (bw k r w A B n n).2.2.2.2 (fw k r w A B d) (bw k r w A B n (n - d)) := by
  intro d
  induction d with
  | zero =>
    intro _
    refine ⟨?_, ?_, ?_, ?_, ?_, ?_⟩ <;> simp [fw]
  | succ d ih =>
    intro hd
    have h1 := ih (by omega)
    have e : n - d = (n - (d + 1)) + 1 := by omega
    rw [e] at h1
    have e2 : n - 1 - (n - (d + 1)) = d := by omega
    have h2 : Inv9 (bw k r w A B n n).1 (bw k r w A B n n).2.2.1 (bw k r w A B n n).2.2.2.1 (bw k r w A B n n).2.2.2.2 (fw k r w A B d) (bst (k (n - 1 - (n - (d + 1)))) (r (n - 1 - (n - (d + 1)))) (w (n - 1 - (n - (d + 1)))) A B (bw k r w A B n (n - (d + 1)))) := h1
    rw [e2] at h2
    exact h2.step
/-- the numbers of the whole row -/
theorem fw_end {n : Nat} {k r w : Nat → Int} {A B : Int} : (fw k r w A B n).2.2.2.2.1 = (bw k r w A B n n).1 ∧ (fw k r w A B n).2.2.2.2.2.1 = (bw k r w A B n n).2.2.1 ∧ (fw k r w A B n).2.2.2.2.2.2.1 = (bw k r w A B n n).2.2.2.1 ∧ (fw k r w A B n).1 = (bw k r w A B n n).2.2.2.2 := by
  have h := fw_inv0 (n := n) (k := k) (r := r) (w := w) (A := A) (B := B) n (Nat.le_refl n)
  rw [Nat.sub_self] at h
  obtain ⟨h1, h2, h3, h4, -, -⟩ := h
  simp [bw] at h1 h2 h3 h4
  exact ⟨h1, h2, h3, h4⟩
def cD (k r w : Nat → Int) (A B : Int) (n : Nat) : Int := (fw k r w A B n).2.2.2.2.1
def cdr (k r w : Nat → Int) (A B : Int) (n : Nat) (i : Nat) : Int := xdr (fw k r w A B i) (bw k r w A B n (n - i))
def cds (k r w : Nat → Int) (A B : Int) (n : Nat) (i : Nat) : Int := xds (fw k r w A B i) (bw k r w A B n (n - i))
def cbr (k r w : Nat → Int) (A B : Int) (n : Nat) (i : Nat) : Int := xbr (fw k r w A B i) (bw k r w A B n (n - i))
def cbs (k r w : Nat → Int) (A B : Int) (n : Nat) (i : Nat) : Int := xbs (fw k r w A B i) (bw k r w A B n (n - i))
def cfr (k r w : Nat → Int) (A B : Int) (n : Nat) (i : Nat) : Int := cbr k r w A B n (i + 1) - cbr k r w A B n i
def cfs (k r w : Nat → Int) (A B : Int) (n : Nat) (i : Nat) : Int := cbs k r w A B n (i + 1) - cbs k r w A B n i
theorem tel (b : Nat → Int) : ∀ i, sm (fun j => b (j + 1) - b j) i = b i - b 0
  | 0 => by simp [sm]
  | i + 1 => by rw [sm_s, tel b i]; omega
theorem c_step {n : Nat} {k r w : Nat → Int} {A B : Int} {i : Nat} (hi : i < n) :
    (k i * (cbr k r w A B n (i + 1) - cbr k r w A B n i) = cdr k r w A B n i ∨ ¬ 0 < k i) ∧ (¬ 0 < k i → cbr k r w A B n (i + 1) = cbr k r w A B n i) ∧
    (k i * (cbs k r w A B n (i + 1) - cbs k r w A B n i) = cds k r w A B n i - r i * cD k r w A B n ∨ ¬ 0 < k i) ∧ (¬ 0 < k i → cbs k r w A B n (i + 1) = cbs k r w A B n i) ∧
    cdr k r w A B n (i + 1) = cdr k r w A B n i + w i * ((A + B) * cbr k r w A B n (i + 1) - A * cD k r w A B n) ∧
    cds k r w A B n (i + 1) = cds k r w A B n i + w i * ((A + B) * cbs k r w A B n (i + 1)) := by
  have h1 := fw_inv0 (n := n) (k := k) (r := r) (w := w) (A := A) (B := B) i (by omega)
  have e : n - i = (n - (i + 1)) + 1 := by omega
  have e2 : n - 1 - (n - (i + 1)) = i := by omega
  have hb : bw k r w A B n (n - i) = bst (k i) (r i) (w i) A B (bw k r w A B n (n - (i + 1))) := by
    rw [e]
    show bst (k (n - 1 - (n - (i + 1)))) (r (n - 1 - (n - (i + 1)))) (w (n - 1 - (n - (i + 1)))) A B (bw k r w A B n (n - (i + 1))) = _
    rw [e2]
  rw [← (fw_end (n := n) (k := k) (r := r) (w := w) (A := A) (B := B)).1] at h1
  rw [hb] at h1
  have h3 := xd_step h1
  unfold cdr cds cbr cbs cD
  rw [hb]
  exact h3
theorem c_div {n : Nat} {k r w : Nat → Int} {A B : Int} {i : Nat} (hi : i ≤ n) :
    (fw k r w A B i).1 * cdr k r w A B n i = (fw k r w A B i).2.1 * ((fw k r w A B n).1 - (fw k r w A B n).2.2.2.2.2.1) + (fw k r w A B i).2.2.1 * cD k r w A B n ∧
    (fw k r w A B i).1 * cds k r w A B n i = (fw k r w A B i).2.1 * (- (fw k r w A B n).2.2.2.2.2.2.1) + (fw k r w A B i).2.2.2.1 * cD k r w A B n := by
  have h1 := fw_inv0 (n := n) (k := k) (r := r) (w := w) (A := A) (B := B) i hi
  obtain ⟨e1, e2, e3, e4⟩ := fw_end (n := n) (k := k) (r := r) (w := w) (A := A) (B := B)
  rw [← e1, ← e2, ← e3, ← e4] at h1
  exact xd_div h1
/-- the class's lines are the lines -/
theorem c_sol {n : Nat} {k r w : Nat → Int} {A B : Int} (hk : ∀ i, i < n → 0 ≤ k i) (hD : 0 < cD k r w A B n) :
    Sol n w A B k r (cD k r w A B n) (cfr k r w A B n) (cfs k r w A B n) (cdr k r w A B n) (cds k r w A B n) := by
  have b0 : cbr k r w A B n 0 = 0 := by simp [cbr, xbr, fw]
  have s0 : cbs k r w A B n 0 = 0 := by simp [cbs, xbs, fw]
  have bn : cbr k r w A B n n = cD k r w A B n := by simp [cbr, xbr, bw, cD]
  have sn : cbs k r w A B n n = 0 := by simp [cbs, xbs, bw]
  have tr : ∀ i, sm (cfr k r w A B n) i = cbr k r w A B n i := fun i => by
    have := tel (cbr k r w A B n) i
    rw [b0, Int.sub_zero] at this
    exact this
  have ts : ∀ i, sm (cfs k r w A B n) i = cbs k r w A B n i := fun i => by
    have := tel (cbs k r w A B n) i
    rw [s0, Int.sub_zero] at this
    exact this
  refine ⟨hD, fun i hi h0 => ?_, fun i hi hp => ?_, by rw [tr, bn], by rw [ts, sn], fun i hi => ?_, fun i hi => ?_⟩
  · have h := c_step (k := k) (r := r) (w := w) (A := A) (B := B) hi
    have a := h.2.1 (by omega)
    have b := h.2.2.2.1 (by omega)
    unfold cfr cfs
    omega
  · have h := c_step (k := k) (r := r) (w := w) (A := A) (B := B) hi
    have a := h.1.resolve_right (fun q => q hp)
    have b := h.2.2.1.resolve_right (fun q => q hp)
    unfold cfr cfs
    exact ⟨a.symm, by omega⟩
  · have h := c_step (k := k) (r := r) (w := w) (A := A) (B := B) (i := i) (n := n) (by omega)
    rw [tr]
    exact h.2.2.2.2.1
  · have h := c_step (k := k) (r := r) (w := w) (A := A) (B := B) (i := i) (n := n) (by omega)
    rw [ts]
    exact h.2.2.2.2.2
/-- bounds of what only grows -/
def xX : Nat → Int × Int × Int
  | 0 => (1, 1, 0)
  | i + 1 => ((xX i).1 * 9, (xX i).2.1 * 9 + 8 * ((xX i).2.2 * 9 + (xX i).2.1), (xX i).2.2 * 9 + (xX i).2.1)
theorem mul_bd {a b x y : Int} (ha : 0 ≤ a) (hb : 0 ≤ b) (hx : a ≤ x) (hy : b ≤ y) : 0 ≤ a * b ∧ a * b ≤ x * y :=
  ⟨Int.mul_nonneg ha hb, Int.mul_le_mul hx hy hb (by omega)⟩
theorem xX_nn : ∀ i, 1 ≤ (xX i).1 ∧ 1 ≤ (xX i).2.1 ∧ 0 ≤ (xX i).2.2
  | 0 => by simp [xX]
  | i + 1 => by
    have := xX_nn i
    simp only [xX]
    omega
theorem fw_bd {k r w : Nat → Int} {A B : Int} (hA : 0 ≤ A ∧ A ≤ 2) (hB : 0 ≤ B ∧ B ≤ 2) : ∀ (i : Nat), (∀ j, j < i → 0 ≤ k j ∧ k j ≤ 9) → (∀ j, j < i → 0 ≤ w j ∧ w j ≤ 2) →
    1 ≤ (fw k r w A B i).1 ∧ (fw k r w A B i).1 ≤ (xX i).1 ∧ 1 ≤ (fw k r w A B i).2.1 ∧ (fw k r w A B i).2.1 ≤ (xX i).2.1 ∧ 0 ≤ (fw k r w A B i).2.2.2.2.1 ∧ (fw k r w A B i).2.2.2.2.1 ≤ (xX i).2.2 ∧ ((∃ j, j < i ∧ 0 < k j) → 1 ≤ (fw k r w A B i).2.2.2.2.1)
  | 0, _, _ => by
    refine ⟨?_, ?_, ?_, ?_, ?_, ?_, ?_⟩ <;> simp [fw, xX]
  | i + 1, hk, hw => by
    obtain ⟨h1, h2, h3, h4, h5, h6, h7⟩ := fw_bd hA hB i (fun j hj => hk j (by omega)) (fun j hj => hw j (by omega))
    have hki := hk i (by omega)
    have hwi := hw i (by omega)
    have hX := xX_nn i
    have hW : 0 ≤ w i * (A + B) ∧ w i * (A + B) ≤ 2 * 4 := mul_bd hwi.1 (by omega) hwi.2 (by omega)
    show 1 ≤ (stp (k i) (r i) (w i) A B (fw k r w A B i)).1 ∧ _
    generalize hs : fw k r w A B i = s at *
    obtain ⟨m0, x, p, c, bx, bp, bc, V, U⟩ := s
    dsimp only at h1 h2 h3 h4 h5 h6 h7
    have e : fw k r w A B (i + 1) = stp (k i) (r i) (w i) A B (m0, x, p, c, bx, bp, bc, V, U) := by rw [← hs]; rfl
    rw [e]
    unfold stp
    simp only [xX]
    by_cases hp : 0 < k i
    · simp only [if_pos hp]
      have a1 := mul_bd (by omega : 0 ≤ m0) hki.1 h2 hki.2
      have a2 := mul_bd (by omega : 0 ≤ x) hki.1 h4 hki.2
      have a3 := mul_bd h5 hki.1 h6 hki.2
      have a4 := mul_bd hW.1 (by omega : 0 ≤ bx * k i + x) hW.2 (by omega : bx * k i + x ≤ (xX i).2.2 * 9 + (xX i).2.1)
      have b1 : 1 ≤ m0 * k i := Int.mul_pos (by omega) hp
      have b2 : 1 ≤ x * k i := Int.mul_pos (by omega) hp
      refine ⟨b1, a1.2, by omega, by omega, by omega, by omega, fun _ => by omega⟩
    · simp only [if_neg hp]
      have a4 := mul_bd hW.1 h5 hW.2 h6
      refine ⟨h1, by omega, by omega, by omega, h5, by omega, fun ⟨j, hj, hpj⟩ => h7 ⟨j, ?_, hpj⟩⟩
      refine Nat.lt_of_le_of_ne (by omega) fun q => ?_
      subst q
      exact hp hpj
