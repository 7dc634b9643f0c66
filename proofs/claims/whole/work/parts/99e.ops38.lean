/-! WHAT WOULD BE: orders of bolts -/
section OPS38
variable {n : Nat} {nv : Nat → Nat → Int} {A B : Int} {F : Nat} {g c y s u pit o now : Nat → Int32}
/-- the last place below the one behind it -/
def fdn (d : Nat → Nat) : Nat → Int
  | 0 => -1
  | k + 1 => if d k ≤ d (k + 1) then (k : Int) else fdn d k
/-- the last that is not below place a -/
def tdn (d : Nat → Nat) (a : Nat) : Nat → Nat
  | 0 => 0
  | k + 1 => if d a ≤ d (k + 1) then k + 1 else tdn d a k
def swd (d : Nat → Nat) (a b : Nat) : Nat → Nat := fun j => if j = b then d a else if j = a then d b else d j
def rvn : Nat → (Nat → Nat) → Nat → Nat → (Nat → Nat)
  | 0, d, _, _ => d
  | k + 1, d, lo, hi => if lo < hi then rvn k (swd d lo hi) (lo + 1) (hi - 1) else d
def nxf (d : Nat → Nat) (n : Nat) : Option (Nat → Nat) := if fdn d (n - 1) < 0 then none else some (rvn 5 (swd d (fdn d (n - 1)).toNat (tdn d (fdn d (n - 1)).toNat (n - 1))) ((fdn d (n - 1)).toNat + 1) (n - 1))
def prm1 : List (List Nat) := [[0]]
def prm2 : List (List Nat) := [[0, 1], [1, 0]]
def prm3 : List (List Nat) := [[0, 1, 2], [0, 2, 1], [1, 0, 2], [1, 2, 0], [2, 0, 1], [2, 1, 0]]
def prm4 : List (List Nat) := [[0, 1, 2, 3], [0, 1, 3, 2], [0, 2, 1, 3], [0, 2, 3, 1], [0, 3, 1, 2], [0, 3, 2, 1], [1, 0, 2, 3], [1, 0, 3, 2], [1, 2, 0, 3], [1, 2, 3, 0], [1, 3, 0, 2], [1, 3, 2, 0], [2, 0, 1, 3], [2, 0, 3, 1], [2, 1, 0, 3], [2, 1, 3, 0], [2, 3, 0, 1], [2, 3, 1, 0], [3, 0, 1, 2], [3, 0, 2, 1], [3, 1, 0, 2], [3, 1, 2, 0], [3, 2, 0, 1], [3, 2, 1, 0]]
def prm5 : List (List Nat) := [[0, 1, 2, 3, 4], [0, 1, 2, 4, 3], [0, 1, 3, 2, 4], [0, 1, 3, 4, 2], [0, 1, 4, 2, 3], [0, 1, 4, 3, 2], [0, 2, 1, 3, 4], [0, 2, 1, 4, 3], [0, 2, 3, 1, 4], [0, 2, 3, 4, 1], [0, 2, 4, 1, 3], [0, 2, 4, 3, 1], [0, 3, 1, 2, 4], [0, 3, 1, 4, 2], [0, 3, 2, 1, 4], [0, 3, 2, 4, 1], [0, 3, 4, 1, 2], [0, 3, 4, 2, 1], [0, 4, 1, 2, 3], [0, 4, 1, 3, 2], [0, 4, 2, 1, 3], [0, 4, 2, 3, 1], [0, 4, 3, 1, 2], [0, 4, 3, 2, 1], [1, 0, 2, 3, 4], [1, 0, 2, 4, 3], [1, 0, 3, 2, 4], [1, 0, 3, 4, 2], [1, 0, 4, 2, 3], [1, 0, 4, 3, 2], [1, 2, 0, 3, 4], [1, 2, 0, 4, 3], [1, 2, 3, 0, 4], [1, 2, 3, 4, 0], [1, 2, 4, 0, 3], [1, 2, 4, 3, 0], [1, 3, 0, 2, 4], [1, 3, 0, 4, 2], [1, 3, 2, 0, 4], [1, 3, 2, 4, 0], [1, 3, 4, 0, 2], [1, 3, 4, 2, 0], [1, 4, 0, 2, 3], [1, 4, 0, 3, 2], [1, 4, 2, 0, 3], [1, 4, 2, 3, 0], [1, 4, 3, 0, 2], [1, 4, 3, 2, 0], [2, 0, 1, 3, 4], [2, 0, 1, 4, 3], [2, 0, 3, 1, 4], [2, 0, 3, 4, 1], [2, 0, 4, 1, 3], [2, 0, 4, 3, 1], [2, 1, 0, 3, 4], [2, 1, 0, 4, 3], [2, 1, 3, 0, 4], [2, 1, 3, 4, 0], [2, 1, 4, 0, 3], [2, 1, 4, 3, 0], [2, 3, 0, 1, 4], [2, 3, 0, 4, 1], [2, 3, 1, 0, 4], [2, 3, 1, 4, 0], [2, 3, 4, 0, 1], [2, 3, 4, 1, 0], [2, 4, 0, 1, 3], [2, 4, 0, 3, 1], [2, 4, 1, 0, 3], [2, 4, 1, 3, 0], [2, 4, 3, 0, 1], [2, 4, 3, 1, 0], [3, 0, 1, 2, 4], [3, 0, 1, 4, 2], [3, 0, 2, 1, 4], [3, 0, 2, 4, 1], [3, 0, 4, 1, 2], [3, 0, 4, 2, 1], [3, 1, 0, 2, 4], [3, 1, 0, 4, 2], [3, 1, 2, 0, 4], [3, 1, 2, 4, 0], [3, 1, 4, 0, 2], [3, 1, 4, 2, 0], [3, 2, 0, 1, 4], [3, 2, 0, 4, 1], [3, 2, 1, 0, 4], [3, 2, 1, 4, 0], [3, 2, 4, 0, 1], [3, 2, 4, 1, 0], [3, 4, 0, 1, 2], [3, 4, 0, 2, 1], [3, 4, 1, 0, 2], [3, 4, 1, 2, 0], [3, 4, 2, 0, 1], [3, 4, 2, 1, 0], [4, 0, 1, 2, 3], [4, 0, 1, 3, 2], [4, 0, 2, 1, 3], [4, 0, 2, 3, 1], [4, 0, 3, 1, 2], [4, 0, 3, 2, 1], [4, 1, 0, 2, 3], [4, 1, 0, 3, 2], [4, 1, 2, 0, 3], [4, 1, 2, 3, 0], [4, 1, 3, 0, 2], [4, 1, 3, 2, 0], [4, 2, 0, 1, 3], [4, 2, 0, 3, 1], [4, 2, 1, 0, 3], [4, 2, 1, 3, 0], [4, 2, 3, 0, 1], [4, 2, 3, 1, 0], [4, 3, 0, 1, 2], [4, 3, 0, 2, 1], [4, 3, 1, 0, 2], [4, 3, 1, 2, 0], [4, 3, 2, 0, 1], [4, 3, 2, 1, 0]]
def prm (n : Nat) : List (List Nat) := if n = 1 then prm1 else if n = 2 then prm2 else if n = 3 then prm3 else if n = 4 then prm4 else prm5
def pat (n k : Nat) : Nat → Nat := fun j => ((prm n).getD k []).getD j 0
def prm_chk (n : Nat) : Prop := 1 ≤ (prm n).length ∧ (prm n).length ≤ 120 ∧ (∀ i, i < n → pat n 0 i = i) ∧ (∀ k, k < (prm n).length → ∀ i, i < n → pat n k i < n) ∧ (∀ k, k < (prm n).length - 1 → ((nxf (pat n k) n).map fun d => (List.range n).map d) = some ((List.range n).map (pat n (k + 1)))) ∧ ((nxf (pat n ((prm n).length - 1)) n).map fun d => (List.range n).map d) = none
theorem prm_ok1 : prm_chk 1 := by
  unfold prm_chk
  refine ⟨by decide +kernel, by decide +kernel, by decide +kernel, by decide +kernel, by decide +kernel, by decide +kernel⟩
theorem prm_ok2 : prm_chk 2 := by
  unfold prm_chk
  refine ⟨by decide +kernel, by decide +kernel, by decide +kernel, by decide +kernel, by decide +kernel, by decide +kernel⟩
theorem prm_ok3 : prm_chk 3 := by
  unfold prm_chk
  refine ⟨by decide +kernel, by decide +kernel, by decide +kernel, by decide +kernel, by decide +kernel, by decide +kernel⟩
theorem prm_ok4 : prm_chk 4 := by
  unfold prm_chk
  refine ⟨by decide +kernel, by decide +kernel, by decide +kernel, by decide +kernel, by decide +kernel, by decide +kernel⟩
theorem prm_ok5 : prm_chk 5 := by
  unfold prm_chk
  refine ⟨by decide +kernel, by decide +kernel, by decide +kernel, by decide +kernel, by decide +kernel, by decide +kernel⟩
theorem prm_ok (h1 : 1 ≤ n) (h5 : n ≤ 5) : prm_chk n := by
  rcases (by omega : n = 1 ∨ n = 2 ∨ n = 3 ∨ n = 4 ∨ n = 5) with rfl | rfl | rfl | rfl | rfl
  · exact prm_ok1
  · exact prm_ok2
  · exact prm_ok3
  · exact prm_ok4
  · exact prm_ok5
theorem range_map {f h : Nat → Nat} {n : Nat} (e : (List.range n).map f = (List.range n).map h) : ∀ i, i < n → f i = h i := by
  intro i hi
  have := congrArg (fun l => l[i]?) e
  simpa [hi] using this
theorem fdn_bd (d : Nat → Nat) : ∀ k, fdn d k = -1 ∨ ∃ a : Nat, fdn d k = (a : Int) ∧ a < k ∧ d a ≤ d (a + 1) := by
  intro k
  induction k with
  | zero => exact Or.inl rfl
  | succ k ih =>
    simp only [fdn]
    by_cases q : d k ≤ d (k + 1)
    · rw [if_pos q]; exact Or.inr ⟨k, rfl, by omega, q⟩
    · rw [if_neg q]
      rcases ih with h | ⟨a, h1, h2, h3⟩
      · exact Or.inl h
      · exact Or.inr ⟨a, h1, by omega, h3⟩
theorem from_z (hn : n ≤ 5) {arr : Nat → Int32} {d : Nat → Nat} (h : ∀ i, i < n → arr i = zI (d i : Int)) (hd : ∀ i, i < n → d i < 5) : ∀ (k F : Nat), k < F → k < n → iter (fb_X_nextSeats_10 arr) F (zI ((k : Int) - 1)) = some (zI (fdn d k)) := by
  intro k
  induction k with
  | zero =>
    intro F hF hk
    obtain ⟨F, rfl⟩ : ∃ x, F = x + 1 := ⟨F - 1, by omega⟩
    refine iter_en ?_
    unfold fb_X_nextSeats_10
    rw [if_pos (by decide)]
    rfl
  | succ k ih =>
    intro F hF hk
    obtain ⟨F, rfl⟩ : ∃ x, F = x + 1 := ⟨F - 1, by omega⟩
    have ek : zI (((k + 1 : Nat) : Int) - 1) = zI (k : Int) := by congr 1; omega
    have e1 : zI (k : Int) + (1 : Int32) = zI ((k + 1 : Nat) : Int) := zI_1 k
    have d1 := hd k (by omega)
    have d2 := hd (k + 1) hk
    have em : zI (k : Int) + (-1 : Int32) = zI ((k : Int) - 1) := by rw [im1, zI_add]; rfl
    rw [ek]
    have hb : fb_X_nextSeats_10 arr (zI (k : Int)) = if d k ≤ d (k + 1) then some (.inr (zI (k : Int))) else some (.inl (zI ((k : Int) - 1))) := by
      unfold fb_X_nextSeats_10
      rw [if_neg (show ¬ zI (k : Int) < (0 : Int32) from fun z => absurd ((zI_lt (a := (k : Int)) (b := 0) (by omega) (by omega) (by omega) (by omega)).mp z) (by omega)), e1, ldA_z (f := arr) (j := k) (by omega) (by omega), Option.bind_some, ldA_z (f := arr) (j := k + 1) (by omega) (by omega), Option.bind_some, h k (by omega), h (k + 1) hk]
      by_cases q : d k ≤ d (k + 1)
      · rw [if_pos ((zI_le (by omega) (by omega) (by omega) (by omega)).mpr (by omega)), if_pos q]
      · rw [if_neg (fun z => q (by have := (zI_le (by omega) (by omega) (by omega) (by omega)).mp z; omega)), if_neg q]
        simp only [nm, em]
    simp only [fdn]
    by_cases q : d k ≤ d (k + 1)
    · rw [if_pos q] at hb ⊢
      exact iter_en hb
    · rw [if_neg q] at hb ⊢
      exact iter_st hb (ih F (by omega) (by omega))
theorem to_z (hn : n ≤ 5) {arr : Nat → Int32} {d : Nat → Nat} (h : ∀ i, i < n → arr i = zI (d i : Int)) (hd : ∀ i, i < n → d i < 5) {a : Nat} (han : a + 1 < n) (ha : d a ≤ d (a + 1)) : ∀ (j F F2 : Nat), j < F → j < F2 → a + 1 + j < n → iter (fb_X_nextSeats_53 (zI (a : Int)) arr) F (zI ((a + 1 + j : Nat) : Int)) = some (zI (tdn d a (a + 1 + j) : Int)) ∧ iter (fb_M_nextPlaces_47 (zI (a : Int)) arr) F2 (zI ((a + 1 + j : Nat) : Int)) = some (zI (tdn d a (a + 1 + j) : Int)) ∧ a < tdn d a (a + 1 + j) ∧ tdn d a (a + 1 + j) < n := by
  intro j
  have step : ∀ j, a + 1 + j < n → fb_X_nextSeats_53 (zI (a : Int)) arr (zI ((a + 1 + j : Nat) : Int)) = (if d a ≤ d (a + 1 + j) then some (.inr (zI ((a + 1 + j : Nat) : Int))) else some (.inl (zI ((a + j : Nat) : Int)))) ∧ fb_M_nextPlaces_47 (zI (a : Int)) arr (zI ((a + 1 + j : Nat) : Int)) = (if d a ≤ d (a + 1 + j) then some (.inr (zI ((a + 1 + j : Nat) : Int))) else some (.inl (zI ((a + j : Nat) : Int)))) := by
    intro j hj
    have d1 := hd a (by omega)
    have d2 := hd (a + 1 + j) hj
    have em : zI ((a + 1 + j : Nat) : Int) + (-1 : Int32) = zI ((a + j : Nat) : Int) := by rw [im1, zI_add]; congr 1; omega
    have core : (ldA arr 5 (zI ((a + 1 + j : Nat) : Int))) = some (zI (d (a + 1 + j) : Int)) ∧ ldA arr 5 (zI (a : Int)) = some (zI (d a : Int)) := by
      rw [ldA_z (f := arr) (j := a + 1 + j) (by omega) (by omega), ldA_z (f := arr) (j := a) (by omega) (by omega), h _ hj, h a (by omega)]
      exact ⟨rfl, rfl⟩
    constructor
    · unfold fb_X_nextSeats_53
      rw [if_neg (by rw [zI_le (by omega) (by omega) (by omega) (by omega)]; omega), core.1, core.2]
      simp only [Option.bind_some]
      by_cases q : d a ≤ d (a + 1 + j)
      · rw [if_pos ((zI_le (by omega) (by omega) (by omega) (by omega)).mpr (by omega)), if_pos q]
      · rw [if_neg (fun z => q (by have := (zI_le (by omega) (by omega) (by omega) (by omega)).mp z; omega)), if_neg q]
        simp only [nm, em]
    · unfold fb_M_nextPlaces_47
      rw [core.1, core.2]
      simp only [Option.bind_some]
      by_cases q : d a ≤ d (a + 1 + j)
      · rw [if_pos ((zI_le (by omega) (by omega) (by omega) (by omega)).mpr (by omega)), if_pos q]
      · rw [if_neg (fun z => q (by have := (zI_le (by omega) (by omega) (by omega) (by omega)).mp z; omega)), if_neg q]
        simp only [nm, em]
  have tds : ∀ j, tdn d a (a + 1 + j) = if d a ≤ d (a + 1 + j) then a + 1 + j else tdn d a (a + j) := fun j => by
    rw [show a + 1 + j = a + j + 1 by omega]; rfl
  induction j with
  | zero =>
    intro F F2 hF hF2 hj
    obtain ⟨F, rfl⟩ : ∃ x, F = x + 1 := ⟨F - 1, by omega⟩
    obtain ⟨F2, rfl⟩ : ∃ x, F2 = x + 1 := ⟨F2 - 1, by omega⟩
    obtain ⟨s1, s2⟩ := step 0 hj
    rw [if_pos ha] at s1 s2
    rw [tds 0, if_pos ha]
    exact ⟨iter_en s1, iter_en s2, by omega, by omega⟩
  | succ j ih =>
    intro F F2 hF hF2 hj
    obtain ⟨F, rfl⟩ : ∃ x, F = x + 1 := ⟨F - 1, by omega⟩
    obtain ⟨F2, rfl⟩ : ∃ x, F2 = x + 1 := ⟨F2 - 1, by omega⟩
    obtain ⟨s1, s2⟩ := step (j + 1) hj
    rw [tds (j + 1)]
    by_cases q : d a ≤ d (a + 1 + (j + 1))
    · rw [if_pos q] at s1 s2 ⊢
      exact ⟨iter_en s1, iter_en s2, by omega, by omega⟩
    · rw [if_neg q] at s1 s2 ⊢
      rw [show a + (j + 1) = a + 1 + j by omega] at s1 s2 ⊢
      obtain ⟨z1, z2, z3, z4⟩ := ih F F2 (by omega) (by omega) (by omega)
      exact ⟨iter_st s1 z1, iter_st s2 z2, z3, z4⟩
theorem swap_z (hn : n ≤ 5) {arr : Nat → Int32} {d : Nat → Nat} (h : ∀ i, i < n → arr i = zI (d i : Int)) {a b : Nat} (ha : a < n) (hb : b < n) : ∃ arr', f_X_changeSeats (zI (a : Int)) (zI (b : Int)) arr = some arr' ∧ ∀ i, i < n → arr' i = zI (swd d a b i : Int) := by
  refine ⟨upd (upd arr a (arr b)) b (arr a), ?_, fun i hi => ?_⟩
  · unfold f_X_changeSeats
    rw [ldA_z (f := arr) (j := a) (by omega) (by omega), Option.bind_some, ldA_z (f := arr) (j := b) (by omega) (by omega), Option.bind_some, stI_z (f := arr) (j := a) (by omega) (by omega), Option.bind_some, stI_z (j := b) (by omega) (by omega), Option.bind_some]
  · rw [upd_at, upd_at]
    unfold swd
    by_cases x : i = b
    · rw [if_pos x, if_pos x]; exact h a ha
    · rw [if_neg x, if_neg x]
      by_cases z : i = a
      · rw [if_pos z, if_pos z]; exact h b hb
      · rw [if_neg z, if_neg z]; exact h i hi
theorem rev_z (hn : n ≤ 5) : ∀ (k F : Nat), k < F → ∀ (lo hi : Nat) (arr : Nat → Int32) (d : Nat → Nat), lo ≤ n → hi < n → hi ≤ lo + 2 * k → (∀ i, i < n → arr i = zI (d i : Int)) → ∃ arr', iter (un3 (fb_X_nextSeats_100)) F (zI (lo : Int), zI (hi : Int), arr) = some arr' ∧ ∀ i, i < n → arr' i = zI (rvn k d lo hi i : Int) := by
  have stop : ∀ (F lo hi : Nat) (arr : Nat → Int32), lo ≤ n → hi ≤ lo → iter (un3 (fb_X_nextSeats_100)) (F + 1) (zI (lo : Int), zI (hi : Int), arr) = some arr := by
    intro F lo hi arr hl hh
    refine iter_en ?_
    dsimp only [un3]
    unfold fb_X_nextSeats_100
    rw [if_pos ((zI_le (by omega) (by omega) (by omega) (by omega)).mpr (by omega))]
  intro k
  induction k with
  | zero =>
    intro F hF lo hi arr d hl hh h2 h
    obtain ⟨F, rfl⟩ : ∃ x, F = x + 1 := ⟨F - 1, by omega⟩
    exact ⟨arr, stop F lo hi arr hl (by omega), h⟩
  | succ k ih =>
    intro F hF lo hi arr d hl hh h2 h
    obtain ⟨F, rfl⟩ : ∃ x, F = x + 1 := ⟨F - 1, by omega⟩
    simp only [rvn]
    by_cases q : lo < hi
    · rw [if_pos q]
      obtain ⟨arr2, e2, h3⟩ := swap_z hn h (a := lo) (b := hi) (by omega) hh
      obtain ⟨arr3, e3, h4⟩ := ih F (by omega) (lo + 1) (hi - 1) arr2 (swd d lo hi) (by omega) (by omega) (by omega) h3
      have em : zI (hi : Int) + (-1 : Int32) = zI ((hi - 1 : Nat) : Int) := by rw [im1, zI_add]; congr 1; omega
      refine ⟨arr3, iter_st (s' := (zI ((lo + 1 : Nat) : Int), zI ((hi - 1 : Nat) : Int), arr2)) ?_ e3, h4⟩
      dsimp only [un3]
      unfold fb_X_nextSeats_100
      rw [if_neg (fun z => absurd ((zI_le (by omega) (by omega) (by omega) (by omega)).mp z) (by omega)), e2, Option.bind_some]
      simp only [nm, zI_1, em]
    · rw [if_neg q]
      exact ⟨arr, stop F lo hi arr hl (by omega), h⟩
theorem e7_eq : fb_M_nextPlaces_7 = fb_X_nextSeats_10 := rfl
theorem esw_eq : f_M_swapPlaces = f_X_changeSeats := rfl
theorem e86_eq : fb_M_nextPlaces_86 = fb_X_nextSeats_100 := rfl
theorem next_z (h1 : 1 ≤ n) (hn : n ≤ 5) (hF : 10 < F) {arr arm : Nat → Int32} {d : Nat → Nat} (h : ∀ i, i < n → arr i = zI (d i : Int)) (hm : ∀ i, i < n → arm i = zI (d i : Int)) (hd : ∀ i, i < n → d i < 5) :
    (nxf d n = none ∧ f_X_nextSeats F arr (zI (n : Int)) = some ((0 : Int32), arr) ∧ f_M_nextPlaces F (zI (n : Int)) arm = some ((0 : Int32), arm)) ∨
    ∃ (d' : Nat → Nat) (arr1 arm1 : Nat → Int32), nxf d n = some d' ∧ f_X_nextSeats F arr (zI (n : Int)) = some ((1 : Int32), arr1) ∧ f_M_nextPlaces F (zI (n : Int)) arm = some ((1 : Int32), arm1) ∧ (∀ i, i < n → arr1 i = zI (d' i : Int)) ∧ ∀ i, i < n → arm1 i = zI (d' i : Int) := by
  have e2 : zI (n : Int) - (2 : Int32) = zI (((n - 1 : Nat) : Int) - 1) := by rw [i2, zI_sub]; congr 1; omega
  have e1 : zI (n : Int) - (1 : Int32) = zI ((n - 1 : Nat) : Int) := by rw [i1, zI_sub]; congr 1; omega
  have f1 := from_z hn h hd (n - 1) F (by omega) (by omega)
  have f2 := from_z hn hm hd (n - 1) F (by omega) (by omega)
  unfold f_X_nextSeats f_M_nextPlaces
  simp only [nm]
  rw [e2, e7_eq, f1, f2, Option.bind_some, Option.bind_some]
  unfold fj_X_nextSeats_37 fj_M_nextPlaces_34
  rcases fdn_bd d (n - 1) with q | ⟨a, q, a1, a2⟩
  · left
    rw [q, if_neg (show ¬ (0 : Int32) ≤ zI (-1) by decide), if_neg (show ¬ (0 : Int32) ≤ zI (-1) by decide)]
    refine ⟨?_, rfl, rfl⟩
    unfold nxf
    rw [q, if_pos (by omega)]
  · right
    have hp : (0 : Int32) ≤ zI (a : Int) := (zI_le (a := 0) (b := (a : Int)) (by omega) (by omega) (by omega) (by omega)).mpr (by omega)
    rw [q, if_pos hp, if_pos hp]
    simp only [nm]
    rw [e1, show n - 1 = a + 1 + (n - 1 - (a + 1)) by omega]
    obtain ⟨t1, -, t3, t4⟩ := to_z hn h hd (a := a) (by omega) a2 (n - 1 - (a + 1)) F F (by omega) (by omega) (by omega)
    obtain ⟨-, t2, -, -⟩ := to_z hn hm hd (a := a) (by omega) a2 (n - 1 - (a + 1)) F F (by omega) (by omega) (by omega)
    rw [t1, t2, Option.bind_some, Option.bind_some]
    rw [show a + 1 + (n - 1 - (a + 1)) = n - 1 by omega] at t3 t4 ⊢
    unfold fj_X_nextSeats_79
    rw [esw_eq, e86_eq]
    obtain ⟨arr2, s1, s2⟩ := swap_z hn h (a := a) (b := tdn d a (n - 1)) (by omega) t4
    obtain ⟨arm2, s3, s4⟩ := swap_z hn hm (a := a) (b := tdn d a (n - 1)) (by omega) t4
    obtain ⟨arr3, r1, r2⟩ := rev_z hn 5 F (by omega) (a + 1) (n - 1) arr2 _ (by omega) (by omega) (by omega) s2
    obtain ⟨arm3, r3, r4⟩ := rev_z hn 5 F (by omega) (a + 1) (n - 1) arm2 _ (by omega) (by omega) (by omega) s4
    rw [s1, s3, Option.bind_some, Option.bind_some]
    simp only [nm, zI_1]
    rw [e1, r1, r3, Option.bind_some, Option.bind_some]
    refine ⟨_, arr3, arm3, ?_, rfl, rfl, r2, r4⟩
    unfold nxf
    rw [q, if_neg (by omega), Int.toNat_natCast]
end OPS38
