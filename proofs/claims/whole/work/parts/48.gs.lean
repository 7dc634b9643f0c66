/-! GROWTH AS IT IS: all of it, step by step -/
def rsd (mb md : Nat → Int) (w : Int) (n : Nat) : List Nat := sel (fun i => decide (mb i ≤ w ∧ w < md i ∧ md i ≤ 2)) n
/-- the bolt b breaks, and all that break by it: who is left, their ways, the events -/
noncomputable def brk (n : Nat) (nv : Nat → Nat → Int) (A B P Q : Int) : Nat → Int → Nat → (Nat → Int) → List (Int × Nat × Int × Int) → Nat × (Nat → Int) × List (Int × Nat × Int × Int)
  | 0, _, m, md, L => (m, md, L)
  | k + 1, b, m, md, L => if b < 0 then (m, md, L) else if clr m b.toNat = 0 then (0, md, L ++ [(2, b.toNat, P, Q)]) else
      brk n nv A B P Q k (wors n nv A B (stw n nv A B (clr m b.toNat) P Q) P Q) (clr m b.toNat) (stw n nv A B (clr m b.toNat) P Q)
        (L ++ [(2, b.toNat, P, Q)] ++ evs 0 P Q (rsd md (stw n nv A B (clr m b.toNat) P Q) 0 n) ++ evs 1 P Q (rsd md (stw n nv A B (clr m b.toNat) P Q) 1 n))
abbrev Gs : Type := Nat × (Nat → Int) × Int × Int × List (Int × Nat × Int × Int)
noncomputable def dueL (n : Nat) (nv : Nat → Nat → Int) (A B : Int) (md : Nat → Int) (w : Int) : List Nat := sel (fun i => decide (md i = w) && due n nv A B md i) n
/-- from one load at which something is due to the next -/
noncomputable def gst (n : Nat) (nv : Nat → Nat → Int) (A B : Int) (s : Gs) : Gs := if s.1 = 0 then s else
  ((brk n nv A B (nxt n nv A B s.2.1).1 (nxt n nv A B s.2.1).2 5 (fst1 (fun i => decide (s.2.1 i = 2) && due n nv A B s.2.1 i) n) s.1 (rai n nv A B s.2.1) (s.2.2.2.2 ++ evs 0 (nxt n nv A B s.2.1).1 (nxt n nv A B s.2.1).2 (dueL n nv A B s.2.1 0) ++ evs 1 (nxt n nv A B s.2.1).1 (nxt n nv A B s.2.1).2 (dueL n nv A B s.2.1 1))).1,
   (brk n nv A B (nxt n nv A B s.2.1).1 (nxt n nv A B s.2.1).2 5 (fst1 (fun i => decide (s.2.1 i = 2) && due n nv A B s.2.1 i) n) s.1 (rai n nv A B s.2.1) (s.2.2.2.2 ++ evs 0 (nxt n nv A B s.2.1).1 (nxt n nv A B s.2.1).2 (dueL n nv A B s.2.1 0) ++ evs 1 (nxt n nv A B s.2.1).1 (nxt n nv A B s.2.1).2 (dueL n nv A B s.2.1 1))).2.1,
   (nxt n nv A B s.2.1).1, (nxt n nv A B s.2.1).2,
   (brk n nv A B (nxt n nv A B s.2.1).1 (nxt n nv A B s.2.1).2 5 (fst1 (fun i => decide (s.2.1 i = 2) && due n nv A B s.2.1 i) n) s.1 (rai n nv A B s.2.1) (s.2.2.2.2 ++ evs 0 (nxt n nv A B s.2.1).1 (nxt n nv A B s.2.1).2 (dueL n nv A B s.2.1 0) ++ evs 1 (nxt n nv A B s.2.1).1 (nxt n nv A B s.2.1).2 (dueL n nv A B s.2.1 1))).2.2)
/-- who is not OUT -/
def snd0 (n : Nat) (nv : Nat → Nat → Int) : Nat := msk (fun i => decide (nv i 5 = 0)) n
noncomputable def lst0 (n : Nat) (nv : Nat → Nat → Int) (m : Nat) : Int := Classical.epsilon fun k : Int => Lst n nv m k
noncomputable def gs0 (n : Nat) (nv : Nat → Nat → Int) : Gs := (snd0 n nv, mdS nv (snd0 n nv) (lst0 n nv (snd0 n nv)), 0, 1, evs 0 0 1 (sel (fun i => decide (mdS nv (snd0 n nv) (lst0 n nv (snd0 n nv)) i = 1)) n))
noncomputable def gs (n : Nat) (nv : Nat → Nat → Int) (A B : Int) : Nat → Gs
  | 0 => gs0 n nv
  | k + 1 => gst n nv A B (gs n nv A B k)
/-! what holds all along -/
def lft (m0 : Nat) (L : List (Int × Nat × Int × Int)) : Nat := L.foldl (fun m e => if e.1 = 2 then clr m e.2.1 else m) m0
theorem lft_app (m0 : Nat) (L L' : List (Int × Nat × Int × Int)) : lft m0 (L ++ L') = lft (lft m0 L) L' := List.foldl_append ..
theorem lft_no {L : List (Int × Nat × Int × Int)} : ∀ {m0 : Nat}, (∀ e ∈ L, ¬ e.1 = 2) → lft m0 L = m0 := by
  induction L with
  | nil => intro m0 _; rfl
  | cons e L ih =>
    intro m0 h
    show lft (if e.1 = 2 then clr m0 e.2.1 else m0) L = m0
    rw [if_neg (h e (List.mem_cons_self ..))]
    exact ih (fun x hx => h x (List.mem_cons_of_mem _ hx))
theorem mem_evs {a P Q : Int} {l : List Nat} {e : Int × Nat × Int × Int} (h : e ∈ evs a P Q l) : e.1 = a ∧ e.2.1 ∈ l ∧ e.2.2 = (P, Q) := by
  obtain ⟨i, hi, rfl⟩ := List.mem_map.mp h
  exact ⟨rfl, hi, rfl⟩
theorem mem_sel {p : Nat → Bool} {n i : Nat} (h : i ∈ sel p n) : i < n ∧ p i = true := by
  induction n with
  | zero => cases h
  | succ n ih =>
    simp only [sel] at h
    by_cases q : p n = true
    · rw [if_pos q, List.mem_append] at h
      rcases h with h | h
      · have := ih h; exact ⟨by omega, this.2⟩
      · have : i = n := by simpa using h
        subst this; exact ⟨by omega, q⟩
    · rw [if_neg q] at h
      have := ih h; exact ⟨by omega, this.2⟩
def LOk (P Q : Int) : Prop := 0 ≤ P ∧ P ≤ 400 * 299269 ∧ 0 < Q ∧ Q ≤ 25 * 299269 ∧ Int.gcd P Q = 1
/-- a load at which a bolt breaks -/
def KOk (P Q : Int) : Prop := Q ≤ 299269 ∧ P ≤ 300 * Q
def EvOk (n : Nat) (P Q : Int) (e : Int × Nat × Int × Int) : Prop := (e.1 = 0 ∨ e.1 = 1 ∨ e.1 = 2) ∧ e.2.1 < n ∧ LOk e.2.2.1 e.2.2.2 ∧ e.2.2.1 * Q ≤ P * e.2.2.2 ∧ (e.1 = 2 → KOk e.2.2.1 e.2.2.2)
def EOk (n : Nat) (nv : Nat → Nat → Int) (m : Nat) (P Q : Int) (L : List (Int × Nat × Int × Int)) : Prop :=
  LOk P Q ∧ (∀ i, m.testBit i = true → i < n ∧ nv i 5 = 0) ∧ m < 32 ∧ lft (snd0 n nv) L = m ∧ L.length ≤ 15 ∧ (∀ e ∈ L, EvOk n P Q e) ∧ ∀ L1 e L2, L = L1 ++ e :: L2 → e.1 = 2 → (lft (snd0 n nv) L1).testBit e.2.1 = true
def mes3 (md : Nat → Int) : Nat → Nat
  | 0 => 0
  | i + 1 => mes3 md i + (3 - md i).toNat
def BOk (n : Nat) (nv : Nat → Nat → Int) (A B : Int) (m : Nat) (md : Nat → Int) (P Q : Int) (L : List (Int × Nat × Int × Int)) : Prop :=
  EOk n nv m P Q L ∧ Mds n nv m md ∧ (∃ i, i < n ∧ (md i = 1 ∨ md i = 2)) ∧ (∀ D fr fs dr ds, Lns n nv A B md D fr fs dr ds → Near n nv md D fr fs dr ds P Q) ∧ L.length + mes3 md n ≤ 15 ∧ (P = 0 → ∃ k, Lst n nv m k ∧ ∀ i, i < n → md i = mdS nv m k i)
def Und (n : Nat) (nv : Nat → Nat → Int) (A B : Int) (md : Nat → Int) (P Q : Int) : Prop := ∀ D fr fs dr ds, Lns n nv A B md D fr fs dr ds → ∀ i, i < n → md i = 2 → fr i * P + fs i * Q ≤ nv i 4 * (D * Q)
def c1 (b : Bool) : Nat := if b = true then 1 else 0
theorem sel_s (p : Nat → Bool) (n : Nat) : (sel p (n + 1)).length = (sel p n).length + c1 (p n) := by
  simp only [sel, c1]
  by_cases q : p n = true
  · rw [if_pos q, if_pos q, List.length_append]; rfl
  · rw [if_neg q, if_neg q]; rfl
theorem cnt_mes {p q r : Nat → Bool} {md md' : Nat → Int} {n : Nat} (h : ∀ i, i < n → c1 (p i) + c1 (q i) + c1 (r i) + (3 - md' i).toNat ≤ (3 - md i).toNat) : (sel p n).length + (sel q n).length + (sel r n).length + mes3 md' n ≤ mes3 md n := by
  induction n with
  | zero => exact Nat.le_refl _
  | succ n ih =>
    have a := ih (fun i hi => h i (by omega))
    have b := h n (by omega)
    rw [sel_s, sel_s, sel_s]
    simp only [mes3]
    omega
theorem sel_pos {p : Nat → Bool} {n i : Nat} (hi : i < n) (h : p i = true) : 1 ≤ (sel p n).length := by
  have a := sel_le p (show i + 1 ≤ n by omega)
  rw [sel_s] at a
  unfold c1 at a
  rw [if_pos h] at a
  omega
theorem mes3_le {md : Nat → Int} {n : Nat} (h : ∀ i, i < n → 0 ≤ md i) : mes3 md n ≤ 3 * n := by
  induction n with
  | zero => exact Nat.le_refl _
  | succ n ih =>
    have a := ih (fun i hi => h i (by omega))
    have b := h n (by omega)
    simp only [mes3]; omega
theorem mes3_pos {md : Nat → Int} {n i : Nat} (hi : i < n) (h : md i ≤ 2) : 1 ≤ mes3 md n := by
  induction n with
  | zero => omega
  | succ n ih =>
    simp only [mes3]
    by_cases e : i = n
    · subst e; omega
    · have := ih (by omega); omega
theorem clr_test {m b i : Nat} (hm : m < 32) (hb : b < 5) (hi : i < 5) : (clr m b).testBit i = true ↔ m.testBit i = true ∧ ¬ i = b := by
  rw [testBit_clr m hm b hb i hi]; simp
theorem bit_high {m i : Nat} (hm : m < 32) (hi : 5 ≤ i) : m.testBit i = false := Nat.testBit_lt_two_pow (Nat.lt_of_lt_of_le hm (show 2 ^ 5 ≤ 2 ^ i from Nat.pow_le_pow_right (by omega) hi))
theorem clr_sub {m b : Nat} (hm : m < 32) (hb : b < 5) (i : Nat) (h : (clr m b).testBit i = true) : m.testBit i = true ∧ ¬ i = b := by
  by_cases q : i < 5
  · exact (clr_test hm hb q).mp h
  · rw [bit_high (clr_lt m hm b hb) (by omega)] at h; cases h
theorem some_bit {m : Nat} (h : ¬ m = 0) : ∃ i, m.testBit i = true := by
  refine Classical.byContradiction fun hno => h ?_
  refine Nat.eq_of_testBit_eq fun i => ?_
  rw [Nat.zero_testBit]
  cases b : m.testBit i with
  | false => rfl
  | true => exact absurd ⟨i, b⟩ hno
section GSI
variable {n : Nat} {nv : Nat → Nat → Int} {A B : Int} {m : Nat} {md : Nat → Int} {P Q : Int} {L : List (Int × Nat × Int × Int)}
theorem EvOk.later {P' Q' : Int} (hQ : 0 < Q) (hQ' : 0 < Q') (h : P * Q' ≤ P' * Q) {e : Int × Nat × Int × Int} (he : EvOk n P Q e) : EvOk n P' Q' e := by
  obtain ⟨h1, h2, h3, h4, h5⟩ := he
  refine ⟨h1, h2, h3, ?_, h5⟩
  have hq := h3.2.2.1
  clear h5
  generalize e.2.2.1 = a at *
  generalize e.2.2.2 = b at *
  refine Int.le_of_mul_le_mul_right (a := Q) ?_ hQ
  have a1 := Int.mul_le_mul_of_nonneg_right h4 (show 0 ≤ Q' by omega)
  have a2 := Int.mul_le_mul_of_nonneg_right h (show 0 ≤ b by omega)
  have e1 : a * Q' * Q = a * Q * Q' := Int.mul_right_comm _ _ _
  have e2 : P * b * Q' = P * Q' * b := Int.mul_right_comm _ _ _
  have e3 : P' * b * Q = P' * Q * b := Int.mul_right_comm _ _ _
  omega
/-- events that break none -/
theorem EOk.add {P' Q' : Int} (h : EOk n nv m P Q L) (hL : LOk P' Q') (hle : P * Q' ≤ P' * Q) {L' : List (Int × Nat × Int × Int)} (hl : L.length + L'.length ≤ 15) (h' : ∀ e ∈ L', (e.1 = 0 ∨ e.1 = 1) ∧ e.2.1 < n ∧ e.2.2 = (P', Q')) : EOk n nv m P' Q' (L ++ L') := by
  obtain ⟨h1, h2, h3, h4, h5, h6, h7⟩ := h
  refine ⟨hL, h2, h3, ?_, by rw [List.length_append]; exact hl, fun e he => ?_, fun L1 e L2 hE h2e => ?_⟩
  · rw [lft_app, h4]
    exact lft_no fun e he => by have := (h' e he).1; omega
  · rcases List.mem_append.mp he with q | q
    · exact (h6 e q).later h1.2.2.1 hL.2.2.1 hle
    · obtain ⟨a, b, c⟩ := h' e q
      refine ⟨by omega, b, ?_, ?_, fun w => by omega⟩
      · rw [c]; exact hL
      · rw [c]; exact Int.le_refl _
  · rcases List.append_eq_append_iff.mp hE with ⟨a, ea, eb⟩ | ⟨a, ea, eb⟩
    · -- e stands in L'
      have : e ∈ L' := by rw [eb]; simp
      have := (h' e this).1
      omega
    · cases a with
      | nil =>
        rw [List.nil_append] at eb
        have : e ∈ L' := by rw [← eb]; simp
        have := (h' e this).1
        omega
      | cons x a =>
        rw [List.cons_append] at eb
        injection eb with e1 e2
        subst e1
        exact h7 L1 _ a ea h2e
theorem EOk.break_ (hn : n ≤ 5) (h : EOk n nv m P Q L) (hK : KOk P Q) {b : Nat} (hb : m.testBit b = true) (hl : L.length < 15) : EOk n nv (clr m b) P Q (L ++ [(2, b, P, Q)]) := by
  obtain ⟨h1, h2, h3, h4, h5, h6, h7⟩ := h
  have hbn := h2 b hb
  refine ⟨h1, fun i hi => h2 i (clr_sub h3 (by omega) i hi).1, clr_lt m h3 b (by omega), ?_, ?_, fun e he => ?_, fun L1 e L2 hE h2e => ?_⟩
  · rw [lft_app, h4]; rfl
  · rw [List.length_append]; show L.length + 1 ≤ 15; omega
  · rcases List.mem_append.mp he with q | q
    · exact h6 e q
    · have : e = (2, b, P, Q) := by simpa using q
      subst this
      exact ⟨Or.inr (Or.inr rfl), hbn.1, h1, Int.le_refl _, fun _ => hK⟩
  · rcases List.append_eq_append_iff.mp hE with ⟨a, ea, eb⟩ | ⟨a, ea, eb⟩
    · cases a with
      | nil =>
        rw [List.nil_append] at eb
        injection eb with e1 e2
        subst e1
        rw [ea, List.append_nil, h4]; exact hb
      | cons x a =>
        rw [List.cons_append] at eb
        injection eb with e1 e2
        cases a with
        | nil => cases e2
        | cons y a => cases e2
    · cases a with
      | nil =>
        rw [List.nil_append] at eb
        injection eb with e1 e2
        subst e1
        rw [← h4, ea, List.append_nil] at hb
        exact hb
      | cons x a =>
        rw [List.cons_append] at eb
        injection eb with e1 e2
        subst e1
        exact h7 L1 _ a ea h2e
theorem rai_cs (hm : Mds n nv m md) {i : Nat} (hi : i < n) : (rai n nv A B md i = md i ∧ ¬ (due n nv A B md i = true ∧ md i < 2)) ∨ (due n nv A B md i = true ∧ (md i = 0 ∨ md i = 1) ∧ rai n nv A B md i = md i + 1) := by
  unfold rai
  have := (hm.bd i hi).1
  by_cases q : due n nv A B md i = true ∧ md i < 2
  · rw [if_pos q]; exact Or.inr ⟨q.1, by omega, rfl⟩
  · rw [if_neg q]; exact Or.inl ⟨rfl, q⟩
theorem rai_mds (hm : Mds n nv m md) : Mds n nv m (rai n nv A B md) := by
  refine ⟨fun i hi b => ?_, fun i hi b => ?_⟩
  · have := hm.1 i hi b
    rcases rai_cs (A := A) (B := B) hm hi with ⟨e, -⟩ | ⟨-, e1, e2⟩ <;> omega
  · have := hm.2 i hi b
    rcases rai_cs (A := A) (B := B) hm hi with ⟨e, -⟩ | ⟨-, e1, e2⟩
    · rw [e]; exact this
    · exfalso
      by_cases q : nv i 5 = 0
      · rw [if_pos q] at this; omega
      · rw [if_neg q] at this; omega
theorem rai_cnt (hm : Mds n nv m md) : (dueL n nv A B md 0).length + (dueL n nv A B md 1).length + mes3 (rai n nv A B md) n ≤ mes3 md n := by
  have h := cnt_mes (p := fun i => decide (md i = 0) && due n nv A B md i) (q := fun i => decide (md i = 1) && due n nv A B md i) (r := fun _ => false) (md := md) (md' := rai n nv A B md) (n := n) (fun i hi => by
    unfold c1
    rcases rai_cs (A := A) (B := B) hm hi with ⟨e, e2⟩ | ⟨e1, e2, e3⟩
    · rw [e]
      by_cases q : due n nv A B md i = true
      · have : ¬ md i < 2 := fun w => e2 ⟨q, w⟩
        rw [if_neg (by simp; omega), if_neg (by simp; omega), if_neg (by simp)]; omega
      · rw [if_neg (by simp [q]), if_neg (by simp [q]), if_neg (by simp)]; omega
    · rw [e3]
      rcases e2 with e2 | e2
      · rw [if_pos (by simp [e1, e2]), if_neg (by simp; omega), if_neg (by simp)]; omega
      · rw [if_neg (by simp; omega), if_pos (by simp [e1, e2]), if_neg (by simp)]; omega)
  unfold dueL
  omega
end GSI
