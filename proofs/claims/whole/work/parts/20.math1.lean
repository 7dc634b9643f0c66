/-! THE MATHEMATICS. Sums of the first k. -/
def sm (f : Nat → Int) : Nat → Int
  | 0 => 0
  | k + 1 => sm f k + f k
theorem sm_s (f : Nat → Int) (k : Nat) : sm f (k + 1) = sm f k + f k := rfl
theorem sm_0 (f : Nat → Int) : sm f 0 = 0 := rfl
theorem sm_congr {f g : Nat → Int} : ∀ {k : Nat}, (∀ i, i < k → f i = g i) → sm f k = sm g k
  | 0, _ => rfl
  | k + 1, h => by rw [sm_s, sm_s, sm_congr (fun i hi => h i (by omega)), h k (by omega)]
theorem sm_add (f g : Nat → Int) : ∀ k, sm (fun i => f i + g i) k = sm f k + sm g k
  | 0 => rfl
  | k + 1 => by rw [sm_s, sm_s, sm_s, sm_add f g k]; omega
theorem sm_sub (f g : Nat → Int) : ∀ k, sm (fun i => f i - g i) k = sm f k - sm g k
  | 0 => rfl
  | k + 1 => by rw [sm_s, sm_s, sm_s, sm_sub f g k]; omega
theorem sm_neg (f : Nat → Int) : ∀ k, sm (fun i => - f i) k = - sm f k
  | 0 => rfl
  | k + 1 => by rw [sm_s, sm_s, sm_neg f k]; omega
theorem sm_mul (c : Int) (f : Nat → Int) : ∀ k, sm (fun i => f i * c) k = sm f k * c
  | 0 => by simp [sm]
  | k + 1 => by rw [sm_s, sm_s, sm_mul c f k, Int.add_mul]
theorem sm_zero : ∀ {f : Nat → Int} {k : Nat}, (∀ i, i < k → f i = 0) → sm f k = 0
  | _, 0, _ => rfl
  | f, k + 1, h => by rw [sm_s, sm_zero (fun i hi => h i (by omega)), h k (by omega)]; rfl
theorem sm_nonneg : ∀ {f : Nat → Int} {k : Nat}, (∀ i, i < k → 0 ≤ f i) → 0 ≤ sm f k
  | _, 0, _ => Int.le_refl 0
  | f, k + 1, h => by
    have h1 := sm_nonneg (f := f) (k := k) (fun i hi => h i (by omega))
    have h2 := h k (by omega)
    rw [sm_s]; omega
theorem sm_anti {g : Nat → Int} {m : Nat} : ∀ (d : Nat), (∀ i, m ≤ i → i < m + d → g i ≤ 0) → sm g (m + d) ≤ sm g m
  | 0, _ => Int.le_refl _
  | d + 1, h => by
    have h1 := sm_anti d (fun i a b => h i a (by omega))
    have h2 := h (m + d) (by omega) (by omega)
    rw [show m + (d + 1) = (m + d) + 1 by omega, sm_s]; omega
theorem sm_le {g : Nat → Int} {m n : Nat} (hmn : m ≤ n) (h : ∀ i, m ≤ i → i < n → g i ≤ 0) : sm g n ≤ sm g m := by
  obtain ⟨d, rfl⟩ : ∃ d, n = m + d := ⟨n - m, by omega⟩
  exact sm_anti d h
theorem sm_mono {g : Nat → Int} {m n : Nat} (hmn : m ≤ n) (h : ∀ i, m ≤ i → i < n → 0 ≤ g i) : sm g m ≤ sm g n := by
  have := sm_le (g := fun i => - g i) hmn (fun i a b => by have := h i a b; show - g i ≤ 0; omega)
  rw [sm_neg, sm_neg] at this
  omega
theorem sm_term {g : Nat → Int} {n k : Nat} (hk : k < n) (h : ∀ i, i < n → 0 ≤ g i) : g k ≤ sm g n := by
  have h1 := sm_mono (g := g) (m := k + 1) (n := n) (by omega) (fun i _ b => h i b)
  have h2 := sm_nonneg (f := g) (k := k) (fun i hi => h i (by omega))
  rw [sm_s] at h1
  omega
theorem mul_np {a b : Int} (ha : 0 ≤ a) (hb : b ≤ 0) : a * b ≤ 0 := by
  have h := Int.mul_nonneg ha (show 0 ≤ -b by omega)
  rw [Int.mul_neg] at h
  omega
/-- the comparison of two states of the row -/
theorem cmp {n : Nat} {A B T : Int} {w e g : Nat → Int} (hA : 0 ≤ A) (hB : 0 ≤ B) (hT : 0 ≤ T) (hw : ∀ i, i + 1 < n → 0 ≤ w i) (he : ∀ i, i + 1 < n → e (i + 1) = e i + w i * ((A + B) * sm g (i + 1) - A * T)) (hs : sm g n = T) (hc : ∀ i, i < n → e i ≤ 0 → g i ≤ 0) :
    (∀ i, i < n → 0 < e i) ∨ (T = 0 ∧ ∀ i, i < n → e i ≤ 0 ∧ g i = 0) := by
  by_cases hall : ∀ i, i < n → 0 < e i
  · exact Or.inl hall
  right
  have hex : ∃ j, j < n ∧ e j ≤ 0 := by
    refine Classical.byContradiction fun hno => hall fun i hi => ?_
    refine Int.not_le.mp fun hle => hno ⟨i, hi, hle⟩
  obtain ⟨j, ⟨hjn, hje⟩, hmin⟩ := pk_least (fun j => j < n ∧ e j ≤ 0) hex
  have hAB : 0 ≤ A + B := by omega
  have hAT : 0 ≤ A * T := Int.mul_nonneg hA hT
  have hbefore : ∀ i, i < j → 0 < e i := fun i hi => Int.not_le.mp fun hle => hmin i hi ⟨by omega, hle⟩
  have hX0 : (A + B) * sm g j - A * T ≤ 0 ∧ (0 < j → (A + B) * sm g j - A * T < 0) := by
    cases j with
    | zero =>
      refine ⟨?_, fun h => absurd h (by omega)⟩
      rw [sm_0, Int.mul_zero]; omega
    | succ i =>
      have h1 := he i hjn
      have h2 := hbefore i (by omega)
      have h3 : (A + B) * sm g (i + 1) - A * T < 0 := by
        refine Int.not_le.mp fun hle => ?_
        have := Int.mul_nonneg (hw i hjn) hle
        omega
      exact ⟨by omega, fun _ => h3⟩
  have hst : ∀ d, j + d < n → e (j + d) ≤ 0 ∧ sm g (j + d) ≤ sm g j := by
    intro d
    induction d with
    | zero => intro _; exact ⟨hje, Int.le_refl _⟩
    | succ d ih =>
      intro hd
      obtain ⟨i1, i2⟩ := ih (by omega)
      have g1 := hc (j + d) (by omega) i1
      have s1 : sm g (j + (d + 1)) = sm g (j + d) + g (j + d) := rfl
      have s2 : sm g (j + (d + 1)) ≤ sm g j := by omega
      refine ⟨?_, s2⟩
      have h1 := he (j + d) (by omega)
      have h2 : (A + B) * sm g (j + d + 1) ≤ (A + B) * sm g j := Int.mul_le_mul_of_nonneg_left s2 hAB
      have h3 := mul_np (hw (j + d) (by omega)) (b := (A + B) * sm g (j + d + 1) - A * T) (by omega)
      show e (j + d + 1) ≤ 0
      omega
  have hle : ∀ m, j ≤ m → m < n → e m ≤ 0 ∧ g m ≤ 0 := by
    intro m h1 h2
    obtain ⟨d, rfl⟩ : ∃ d, m = j + d := ⟨m - j, by omega⟩
    have := (hst d h2).1
    exact ⟨this, hc _ h2 this⟩
  have hTj : T ≤ sm g j := by
    rw [← hs]
    exact sm_le (by omega) (fun i a b => (hle i a b).2)
  have hj0 : j = 0 := by
    refine Classical.byContradiction fun hne => ?_
    have h1 := hX0.2 (by omega)
    have h2 : (A + B) * T ≤ (A + B) * sm g j := Int.mul_le_mul_of_nonneg_left hTj hAB
    have h3 : 0 ≤ B * T := Int.mul_nonneg hB hT
    rw [Int.add_mul] at h2
    omega
  subst hj0
  have hT0 : T = 0 := by
    have : T ≤ 0 := hTj
    omega
  refine ⟨hT0, fun i hi => ⟨(hle i (by omega) hi).1, ?_⟩⟩
  have a1 : sm g n ≤ sm g (i + 1) := sm_le (by omega) (fun x a b => (hle x (by omega) b).2)
  have a2 : sm g i ≤ sm g 0 := sm_le (by omega) (fun x a b => (hle x (by omega) (by omega)).2)
  rw [sm_s] at a1
  rw [sm_0] at a2
  have a3 := (hle i (by omega) hi).2
  omega
/-! Lines: each bolt that bears keeps to d = rest + stretch * f. Forces (fr * load + fs) / D, slips (dr * load + ds) / D. -/
def Sol (n : Nat) (w : Nat → Int) (A B : Int) (k r : Nat → Int) (D : Int) (fr fs dr ds : Nat → Int) : Prop :=
  0 < D ∧ (∀ i, i < n → k i = 0 → fr i = 0 ∧ fs i = 0) ∧ (∀ i, i < n → 0 < k i → dr i = k i * fr i ∧ ds i = k i * fs i + r i * D) ∧ sm fr n = D ∧ sm fs n = 0 ∧
  (∀ i, i + 1 < n → dr (i + 1) = dr i + w i * ((A + B) * sm fr (i + 1) - A * D)) ∧ (∀ i, i + 1 < n → ds (i + 1) = ds i + w i * ((A + B) * sm fs (i + 1)))
def Geo (n : Nat) (w : Nat → Int) (A B : Int) : Prop := 0 ≤ A ∧ A ≤ 2 ∧ 0 ≤ B ∧ B ≤ 2 ∧ ∀ i, i + 1 < n → 0 ≤ w i ∧ w i ≤ 2
section SOL
variable {n : Nat} {w : Nat → Int} {A B : Int} {k r : Nat → Int} {D : Int} {fr fs dr ds : Nat → Int}
theorem Sol.pos (hG : Geo n w A B) (hk : ∀ i, i < n → 0 ≤ k i) (h : Sol n w A B k r D fr fs dr ds) : ∀ i, i < n → 0 < dr i := by
  obtain ⟨hD, h0, h1, h2, h3, h4, h5⟩ := h
  obtain ⟨gA, -, gB, -, gw⟩ := hG
  rcases cmp (A := A) (B := B) (T := D) (w := w) (e := dr) (g := fr) gA gB (by omega) (fun i hi => (gw i hi).1) h4 h2 (fun i hi hd => by
    rcases Int.lt_or_eq_of_le (hk i hi) with q | q
    · have := (h1 i hi q).1
      refine Int.not_lt.mp fun hf => ?_
      have := Int.mul_pos q hf
      omega
    · have := (h0 i hi q.symm).1
      omega) with h | h
  · exact h
  · omega
theorem Sol.fpos (hG : Geo n w A B) (hk : ∀ i, i < n → 0 ≤ k i) (h : Sol n w A B k r D fr fs dr ds) : ∀ i, i < n → 0 < k i → 0 < fr i := by
  intro i hi hki
  have h1 := h.pos hG hk i hi
  have h2 := (h.2.2.1 i hi hki).1
  refine Int.not_le.mp fun hf => ?_
  have := mul_np (Int.le_of_lt hki) hf
  omega
theorem Sol.fnn (hG : Geo n w A B) (hk : ∀ i, i < n → 0 ≤ k i) (h : Sol n w A B k r D fr fs dr ds) : ∀ i, i < n → 0 ≤ fr i := by
  intro i hi
  rcases Int.lt_or_eq_of_le (hk i hi) with q | q
  · exact Int.le_of_lt (h.fpos hG hk i hi q)
  · have := (h.2.1 i hi q.symm).1
    omega
theorem Sol.fle (hG : Geo n w A B) (hk : ∀ i, i < n → 0 ≤ k i) (h : Sol n w A B k r D fr fs dr ds) : ∀ i, i < n → fr i ≤ D := by
  intro i hi
  have := sm_term hi (h.fnn hG hk)
  rw [h.2.2.2.1] at this
  exact this
/-- some bolt bears -/
theorem Sol.some (h : Sol n w A B k r D fr fs dr ds) (hk : ∀ i, i < n → 0 ≤ k i) : ∃ i, i < n ∧ 0 < k i := by
  refine Classical.byContradiction fun hno => ?_
  have : sm fr n = 0 := sm_zero fun i hi => (h.2.1 i hi (by
    have := hk i hi
    refine Classical.byContradiction fun hne => hno ⟨i, hi, by omega⟩)).1
  have := h.2.2.2.1
  have := h.1
  omega
/-- at load 0 no slip is below all rests of those that bear -/
theorem Sol.low (hG : Geo n w A B) (hk : ∀ i, i < n → 0 ≤ k i) (h : Sol n w A B k r D fr fs dr ds) (m : Int) (hm : ∀ i, i < n → 0 < k i → m ≤ r i) : ∀ i, i < n → m * D ≤ ds i := by
  have hso := h.some hk
  obtain ⟨hD, h0, h1, h2, h3, h4, h5⟩ := h
  obtain ⟨gA, -, gB, -, gw⟩ := hG
  rcases cmp (A := A) (B := B) (T := 0) (w := w) (e := fun i => ds i - m * D + 1) (g := fs) gA gB (Int.le_refl 0) (fun i hi => (gw i hi).1) (fun i hi => by
      have := h5 i hi
      show ds (i + 1) - m * D + 1 = ds i - m * D + 1 + w i * ((A + B) * sm fs (i + 1) - A * 0)
      rw [Int.mul_zero, Int.sub_zero]
      omega) h3 (fun i hi hd => by
    have hd : ds i - m * D + 1 ≤ 0 := hd
    rcases Int.lt_or_eq_of_le (hk i hi) with q | q
    · have a1 := (h1 i hi q).2
      have a2 := Int.mul_le_mul_of_nonneg_right (hm i hi q) (Int.le_of_lt hD)
      refine Int.not_lt.mp fun hf => ?_
      have := Int.mul_pos q hf
      omega
    · have := (h0 i hi q.symm).2
      omega) with hh | hh
  · intro i hi
    have := hh i hi
    omega
  · exfalso
    obtain ⟨i, hi, q⟩ := hso
    have a0 := hh.2 i hi
    have a1 := (h1 i hi q).2
    have a2 := Int.mul_le_mul_of_nonneg_right (hm i hi q) (Int.le_of_lt hD)
    rw [a0.2, Int.mul_zero] at a1
    omega
theorem Sol.high (hG : Geo n w A B) (hk : ∀ i, i < n → 0 ≤ k i) (h : Sol n w A B k r D fr fs dr ds) (m : Int) (hm : ∀ i, i < n → 0 < k i → r i ≤ m) : ∀ i, i < n → ds i ≤ m * D := by
  have hso := h.some hk
  obtain ⟨hD, h0, h1, h2, h3, h4, h5⟩ := h
  obtain ⟨gA, -, gB, -, gw⟩ := hG
  rcases cmp (A := A) (B := B) (T := 0) (w := w) (e := fun i => m * D - ds i + 1) (g := fun i => - fs i) gA gB (Int.le_refl 0) (fun i hi => (gw i hi).1) (fun i hi => by
      have := h5 i hi
      show m * D - ds (i + 1) + 1 = m * D - ds i + 1 + w i * ((A + B) * sm (fun i => - fs i) (i + 1) - A * 0)
      rw [Int.mul_zero, Int.sub_zero, sm_neg, Int.mul_neg, Int.mul_neg]
      omega) (by rw [sm_neg, h3]; rfl) (fun i hi hd => by
    have hd : m * D - ds i + 1 ≤ 0 := hd
    show - fs i ≤ 0
    rcases Int.lt_or_eq_of_le (hk i hi) with q | q
    · have a1 := (h1 i hi q).2
      have a2 := Int.mul_le_mul_of_nonneg_right (hm i hi q) (Int.le_of_lt hD)
      refine Int.not_lt.mp fun hf => ?_
      have := Int.mul_pos q (show 0 < - fs i from hf)
      rw [Int.mul_neg] at this
      omega
    · have := (h0 i hi q.symm).2
      omega) with hh | hh
  · intro i hi
    have := hh i hi
    omega
  · exfalso
    obtain ⟨i, hi, q⟩ := hso
    have a0 := hh.2 i hi
    have a1 := (h1 i hi q).2
    have a2 := Int.mul_le_mul_of_nonneg_right (hm i hi q) (Int.le_of_lt hD)
    have a3 : fs i = 0 := by have := a0.2; omega
    rw [a3, Int.mul_zero] at a1
    omega
end SOL
/-! a row at a load: forces f, slips d in parts of one unit, N the load -/
def Row (n : Nat) (w : Nat → Int) (A B N : Int) (f d : Nat → Int) : Prop :=
  sm f n = N ∧ ∀ i, i + 1 < n → d (i + 1) = d i + w i * ((A + B) * sm f (i + 1) - A * N)
theorem row_cmp {n : Nat} {w : Nat → Int} {A B N N' : Int} {f d f' d' : Nat → Int} (hG : Geo n w A B) (h : Row n w A B N f d) (h' : Row n w A B N' f' d') (hN : N ≤ N') (hm : ∀ i, i < n → d' i ≤ d i → f' i ≤ f i) :
    (∀ i, i < n → d i < d' i) ∨ (N' = N ∧ ∀ i, i < n → d' i ≤ d i ∧ f' i = f i) := by
  obtain ⟨gA, -, gB, -, gw⟩ := hG
  rcases cmp (A := A) (B := B) (T := N' - N) (w := w) (e := fun i => d' i - d i) (g := fun i => f' i - f i) gA gB (by omega) (fun i hi => (gw i hi).1) (fun i hi => by
      have a := h.2 i hi
      have b := h'.2 i hi
      show d' (i + 1) - d (i + 1) = d' i - d i + w i * ((A + B) * sm (fun i => f' i - f i) (i + 1) - A * (N' - N))
      rw [a, b, sm_sub]
      grind) (by rw [sm_sub, h.1, h'.1]) (fun i hi hd => by
      have hd : d' i - d i ≤ 0 := hd
      have := hm i hi (by omega)
      show f' i - f i ≤ 0
      omega) with q | q
  · exact Or.inl fun i hi => by have : 0 < d' i - d i := q i hi; omega
  · refine Or.inr ⟨by omega, fun i hi => ?_⟩
    have a : d' i - d i ≤ 0 := (q.2 i hi).1
    have b : f' i - f i = 0 := (q.2 i hi).2
    omega
/-- two states at one load are one -/
theorem row_unique {n : Nat} {w : Nat → Int} {A B N : Int} {f d f' d' : Nat → Int} (hG : Geo n w A B) (h : Row n w A B N f d) (h' : Row n w A B N f' d') (hN : 0 < N)
    (hm : ∀ i, i < n → d' i ≤ d i → f' i ≤ f i) (hm' : ∀ i, i < n → d i ≤ d' i → f i ≤ f' i) (hinj : ∀ i, i < n → 0 < f i → f' i = f i → d' i = d i) : ∀ i, i < n → f' i = f i ∧ d' i = d i := by
  have hf : ∀ i, i < n → f' i = f i := by
    rcases row_cmp hG h h' (Int.le_refl N) hm with q | q
    · rcases row_cmp hG h' h (Int.le_refl N) hm' with p | p
      · intro i hi
        have := q i hi
        have := p i hi
        omega
      · exact fun i hi => ((p.2 i hi).2).symm
    · exact fun i hi => (q.2 i hi).2
  -- some force is above 0
  have hex : ∃ b, b < n ∧ 0 < f b := by
    refine Classical.byContradiction fun hno => ?_
    have h1 : sm f n ≤ sm f 0 := sm_le (by omega) (fun i _ hi => Int.not_lt.mp fun q => hno ⟨i, hi, q⟩)
    rw [h.1, sm_0] at h1
    omega
  obtain ⟨b, hb, hfb⟩ := hex
  have hdb := hinj b hb hfb (hf b hb)
  have step : ∀ i, i + 1 < n → d' (i + 1) - d (i + 1) = d' i - d i := by
    intro i hi
    have e : sm f' (i + 1) = sm f (i + 1) := sm_congr fun j hj => hf j (by omega)
    have a := h.2 i hi
    have c := h'.2 i hi
    rw [e] at c
    omega
  have const : ∀ i, i < n → d' i - d i = d' 0 - d 0 := by
    intro i
    induction i with
    | zero => intro _; rfl
    | succ i ih => intro hi; rw [step i hi]; exact ih (by omega)
  intro i hi
  have c1 := const i hi
  have c2 := const b hb
  exact ⟨hf i hi, by omega⟩
/-- a bolt that bore goes: all slips become more -/
theorem row_break {n : Nat} {w : Nat → Int} {A B N : Int} {f d f' d' : Nat → Int} (hG : Geo n w A B) (h : Row n w A B N f d) (h' : Row n w A B N f' d') (b : Nat) (hb : b < n) (hfb : f' b < f b)
    (hm : ∀ i, i < n → d' i ≤ d i → f' i ≤ f i) : ∀ i, i < n → d i < d' i := by
  rcases row_cmp hG h h' (Int.le_refl N) hm with q | q
  · exact q
  · have := (q.2 b hb).2
    omega
/-- more load: all slips are more -/
theorem row_more {n : Nat} {w : Nat → Int} {A B N N' : Int} {f d f' d' : Nat → Int} (hG : Geo n w A B) (h : Row n w A B N f d) (h' : Row n w A B N' f' d') (hN : N < N')
    (hm : ∀ i, i < n → d' i ≤ d i → f' i ≤ f i) : ∀ i, i < n → d i < d' i := by
  rcases row_cmp hG h h' (Int.le_of_lt hN) hm with q | q
  · exact q
  · omega
/-- lines at a load P / Q, in parts of D * Q -/
theorem Sol.row {n : Nat} {w : Nat → Int} {A B : Int} {k r : Nat → Int} {D : Int} {fr fs dr ds : Nat → Int} (h : Sol n w A B k r D fr fs dr ds) (P Q : Int) : Row n w A B (D * P) (fun i => fr i * P + fs i * Q) (fun i => dr i * P + ds i * Q) := by
  obtain ⟨hD, h0, h1, h2, h3, h4, h5⟩ := h
  refine ⟨by rw [sm_add, sm_mul, sm_mul, h2, h3]; omega, fun i hi => ?_⟩
  show dr (i + 1) * P + ds (i + 1) * Q = dr i * P + ds i * Q + w i * ((A + B) * sm (fun i => fr i * P + fs i * Q) (i + 1) - A * (D * P))
  rw [h4 i hi, h5 i hi, sm_add, sm_mul, sm_mul]
  grind
theorem lin_zero {n : Nat} {w : Nat → Int} {A B : Int} {k e g : Nat → Int} (hG : Geo n w A B) (hk : ∀ i, i < n → 0 ≤ k i) (hs : ∃ i, i < n ∧ 0 < k i) (h0 : ∀ i, i < n → k i = 0 → g i = 0) (h1 : ∀ i, i < n → 0 < k i → e i = k i * g i) (hT : sm g n = 0) (he : ∀ i, i + 1 < n → e (i + 1) = e i + w i * ((A + B) * sm g (i + 1))) : ∀ i, i < n → g i = 0 ∧ e i = 0 := by
  have half : ∀ (e g : Nat → Int), (∀ i, i < n → k i = 0 → g i = 0) → (∀ i, i < n → 0 < k i → e i = k i * g i) → sm g n = 0 → (∀ i, i + 1 < n → e (i + 1) = e i + w i * ((A + B) * sm g (i + 1))) → (∀ i, i < n → 0 < e i) ∨ ∀ i, i < n → e i ≤ 0 ∧ g i = 0 := by
    intro e g h0 h1 hT he
    obtain ⟨gA, -, gB, -, gw⟩ := hG
    rcases cmp (A := A) (B := B) (T := 0) (w := w) (e := e) (g := g) gA gB (Int.le_refl 0) (fun i hi => (gw i hi).1) (fun i hi => by
        have := he i hi
        rw [Int.mul_zero, Int.sub_zero]; exact this) hT (fun i hi hd => by
        rcases Int.lt_or_eq_of_le (hk i hi) with q | q
        · have a := h1 i hi q
          refine Int.not_lt.mp fun hf => ?_
          have := Int.mul_pos q hf
          omega
        · have := h0 i hi q.symm
          omega) with q | q
    · exact Or.inl q
    · exact Or.inr q.2
  have hg : ∀ i, i < n → g i = 0 := by
    rcases half e g h0 h1 hT he with q | q
    · rcases half (fun i => - e i) (fun i => - g i) (fun i hi hk0 => by have := h0 i hi hk0; show - g i = 0; omega) (fun i hi hk0 => by have := h1 i hi hk0; show - e i = k i * - g i; rw [Int.mul_neg]; omega) (by rw [sm_neg, hT]; rfl) (fun i hi => by
          have := he i hi
          show - e (i + 1) = - e i + w i * ((A + B) * sm (fun i => - g i) (i + 1))
          rw [sm_neg, Int.mul_neg, Int.mul_neg]; omega) with p | p
      · intro i hi
        have a := q i hi
        have b : 0 < - e i := p i hi
        omega
      · intro i hi
        have b : - g i = 0 := (p i hi).2
        omega
    · exact fun i hi => (q i hi).2
  obtain ⟨b, hb, hkb⟩ := hs
  have eb : e b = 0 := by rw [h1 b hb hkb, hg b hb, Int.mul_zero]
  have step : ∀ i, i + 1 < n → e (i + 1) = e i := by
    intro i hi
    rw [he i hi, sm_zero (fun j hj => hg j (by omega)), Int.mul_zero, Int.mul_zero, Int.add_zero]
  have const : ∀ i, i < n → e i = e 0 := by
    intro i
    induction i with
    | zero => intro _; rfl
    | succ i ih => intro hi; rw [step i hi]; exact ih (by omega)
  intro i hi
  exact ⟨hg i hi, by rw [const i hi, ← const b hb, eb]⟩
/-- lines are one up to their unit -/
theorem Sol.unique {n : Nat} {w : Nat → Int} {A B : Int} {k r : Nat → Int} {D D' : Int} {fr fs dr ds fr' fs' dr' ds' : Nat → Int} (hG : Geo n w A B) (hk : ∀ i, i < n → 0 ≤ k i) (h : Sol n w A B k r D fr fs dr ds) (h' : Sol n w A B k r D' fr' fs' dr' ds') :
    ∀ i, i < n → fr' i * D = fr i * D' ∧ dr' i * D = dr i * D' ∧ fs' i * D = fs i * D' ∧ ds' i * D = ds i * D' := by
  have hso := h.some hk
  obtain ⟨hD, h0, h1, h2, h3, h4, h5⟩ := h
  obtain ⟨hD', h0', h1', h2', h3', h4', h5'⟩ := h'
  have a := lin_zero (e := fun i => dr' i * D - dr i * D') (g := fun i => fr' i * D - fr i * D') hG hk hso (fun i hi q => by
      have a := (h0 i hi q).1
      have b := (h0' i hi q).1
      show fr' i * D - fr i * D' = 0
      rw [a, b]; omega) (fun i hi q => by
      have a := (h1 i hi q).1
      have b := (h1' i hi q).1
      show dr' i * D - dr i * D' = k i * (fr' i * D - fr i * D')
      rw [a, b]; grind) (by
      rw [sm_sub, sm_mul, sm_mul, h2, h2', Int.mul_comm]; omega) (fun i hi => by
      show dr' (i + 1) * D - dr (i + 1) * D' = dr' i * D - dr i * D' + w i * ((A + B) * sm (fun i => fr' i * D - fr i * D') (i + 1))
      rw [sm_sub, sm_mul, sm_mul, h4 i hi, h4' i hi]; grind)
  have b := lin_zero (e := fun i => ds' i * D - ds i * D') (g := fun i => fs' i * D - fs i * D') hG hk hso (fun i hi q => by
      have a := (h0 i hi q).2
      have b := (h0' i hi q).2
      show fs' i * D - fs i * D' = 0
      rw [a, b]; omega) (fun i hi q => by
      have a := (h1 i hi q).2
      have b := (h1' i hi q).2
      show ds' i * D - ds i * D' = k i * (fs' i * D - fs i * D')
      rw [a, b]; grind) (by
      rw [sm_sub, sm_mul, sm_mul, h3, h3']; omega) (fun i hi => by
      show ds' (i + 1) * D - ds (i + 1) * D' = ds' i * D - ds i * D' + w i * ((A + B) * sm (fun i => fs' i * D - fs i * D') (i + 1))
      rw [sm_sub, sm_mul, sm_mul, h5 i hi, h5' i hi]; grind)
  intro i hi
  have a1 := a i hi
  have b1 := b i hi
  refine ⟨?_, ?_, ?_, ?_⟩
  · have : fr' i * D - fr i * D' = 0 := a1.1
    omega
  · have : dr' i * D - dr i * D' = 0 := a1.2
    omega
  · have : fs' i * D - fs i * D' = 0 := b1.1
    omega
  · have : ds' i * D - ds i * D' = 0 := b1.2
    omega
