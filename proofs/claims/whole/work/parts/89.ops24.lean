/-! AS LOAD FALLS: the mathematics; the class's lines -/
section OPS24
variable {n : Nat} {nv : Nat → Nat → Int} {A B : Int} {F : Nat} {g c y s u pit o now : Nat → Int32} {m : Nat} {σ : Nat → Int} {N : Int} {f d f' d' : Nat → Int}
/-- the give of those that hold on -/
def kF (nv : Nat → Nat → Int) (h : Nat) (i : Nat) : Int := if h.testBit i = true then nv i 0 else 0
theorem kF_bd (hv : NvOk n nv) (h : Nat) : ∀ i, i < n → 0 ≤ kF nv h i ∧ kF nv h i ≤ 9 := by
  intro i hi
  have v := hv i hi
  unfold kF
  by_cases q : h.testBit i = true
  · rw [if_pos q]; omega
  · rw [if_neg q]; omega
theorem kF_nn (hv : NvOk n nv) (h : Nat) : ∀ i, i < n → 0 ≤ kF nv h i := fun i hi => (kF_bd hv h i hi).1
theorem kF_on {h i : Nat} (q : h.testBit i = true) : kF nv h i = nv i 0 := if_pos q
theorem kF_off {h i : Nat} (q : ¬ h.testBit i = true) : kF nv h i = 0 := if_neg q
theorem kF_pos (hv : NvOk n nv) {h i : Nat} (hi : i < n) : 0 < kF nv h i ↔ h.testBit i = true := by
  have v := hv i hi
  by_cases q : h.testBit i = true
  · rw [kF_on q]; exact ⟨fun _ => q, fun _ => by omega⟩
  · rw [kF_off q]; exact ⟨fun w => absurd w (by omega), fun w => absurd w q⟩
abbrev LnF (n : Nat) (nv : Nat → Nat → Int) (A B : Int) (h : Nat) (σ : Nat → Int) (D : Int) (fr fs dr ds : Nat → Int) : Prop := Sol n (fun i => nv i 6) A B (kF nv h) σ D fr fs dr ds
/-- the state as load falls: s the slips of no force -/
def FSt (n : Nat) (nv : Nat → Nat → Int) (A B : Int) (m : Nat) (s : Nat → Int) (N : Int) (f d : Nat → Int) : Prop :=
  Row n (fun i => nv i 6) A B N f d ∧ (∀ i, i < n → m.testBit i = true → (0 < f i ∧ d i = s i + nv i 0 * f i) ∨ (f i = 0 ∧ d i ≤ s i)) ∧ ∀ i, i < n → ¬ m.testBit i = true → f i = 0
theorem Row.scale {t : Int} (h : Row n (fun i => nv i 6) A B N f d) : Row n (fun i => nv i 6) A B (N * t) (fun i => f i * t) (fun i => d i * t) := by
  refine ⟨by rw [sm_mul, h.1], fun i hi => ?_⟩
  have := h.2 i hi
  dsimp only at this ⊢
  rw [this, sm_mul]
  grind
theorem FSt.scale {t : Int} (ht : 0 < t) (h : FSt n nv A B m σ N f d) : FSt n nv A B m (fun i => σ i * t) (N * t) (fun i => f i * t) (fun i => d i * t) := by
  obtain ⟨h1, h2, h3⟩ := h
  refine ⟨h1.scale, fun i hi q => ?_, fun i hi q => by dsimp only; rw [h3 i hi q, Int.zero_mul]⟩
  dsimp only
  rcases h2 i hi q with ⟨a, b⟩ | ⟨a, b⟩
  · exact Or.inl ⟨Int.mul_pos a ht, by rw [b]; grind⟩
  · exact Or.inr ⟨by rw [a, Int.zero_mul], Int.mul_le_mul_of_nonneg_right b (by omega)⟩
theorem FSt.congr {σ' : Nat → Int} (e : ∀ i, i < n → σ' i = σ i) (h : FSt n nv A B m σ N f d) : FSt n nv A B m σ' N f d :=
  ⟨h.1, fun i hi q => by rw [e i hi]; exact h.2.1 i hi q, h.2.2⟩
theorem FSt.nn (h : FSt n nv A B m σ N f d) : ∀ i, i < n → 0 ≤ f i := by
  intro i hi
  by_cases q : m.testBit i = true
  · rcases h.2.1 i hi q with ⟨a, -⟩ | ⟨a, -⟩ <;> omega
  · rw [h.2.2 i hi q]; exact Int.le_refl 0
theorem FSt.mono (hv : NvOk n nv) (h : FSt n nv A B m σ N f d) (h' : FSt n nv A B m σ N f' d') : ∀ i, i < n → d' i ≤ d i → f' i ≤ f i := by
  intro i hi hd
  have v := hv i hi
  by_cases q : m.testBit i = true
  · have hn := h.nn i hi
    rcases h'.2.1 i hi q with ⟨a', b'⟩ | ⟨a', b'⟩
    · rcases h.2.1 i hi q with ⟨a, b⟩ | ⟨a, b⟩
      · refine Int.not_lt.mp fun w => ?_
        have := Int.mul_lt_mul_of_pos_left w (show 0 < nv i 0 by omega)
        omega
      · have := Int.mul_pos (show 0 < nv i 0 by omega) a'
        omega
    · omega
  · rw [h.2.2 i hi q, h'.2.2 i hi q]; exact Int.le_refl 0
theorem FSt.unique (hv : NvOk n nv) (hA : 0 ≤ A ∧ A ≤ 2) (hB : 0 ≤ B ∧ B ≤ 2) (hN : 0 < N) (h : FSt n nv A B m σ N f d) (h' : FSt n nv A B m σ N f' d') : ∀ i, i < n → f' i = f i ∧ d' i = d i := by
  refine row_unique (geo_nv hv hA hB) h.1 h'.1 hN (h.mono hv h') (h'.mono hv h) fun i hi hf he => ?_
  have q : m.testBit i = true := Classical.byContradiction fun w => by have := h.2.2 i hi w; omega
  rcases h.2.1 i hi q with ⟨a, b⟩ | ⟨a, b⟩
  · rcases h'.2.1 i hi q with ⟨a', b'⟩ | ⟨a', b'⟩
    · rw [b, b', he]
    · omega
  · omega
/-- no load: no force, one slip -/
theorem FSt.none (h : FSt n nv A B m σ 0 f d) : (∀ i, i < n → f i = 0) ∧ ∀ i, i < n → d i = d 0 := by
  have hf : ∀ i, i < n → f i = 0 := by
    intro i hi
    have a := sm_term hi h.nn
    rw [h.1.1] at a
    have := h.nn i hi
    omega
  refine ⟨hf, fun i => ?_⟩
  induction i with
  | zero => intro _; rfl
  | succ i ih =>
    intro hi
    have e := h.1.2 i hi
    dsimp only at e
    rw [e, sm_zero (fun j hj => hf j (by omega)), Int.mul_zero, Int.mul_zero, Int.sub_zero, Int.mul_zero, Int.add_zero]
    exact ih (by omega)
/-- two rows that keep to the same lines are one -/
theorem row_lin (hv : NvOk n nv) (hA : 0 ≤ A ∧ A ≤ 2) (hB : 0 ≤ B ∧ B ≤ 2) {h : Nat} (hs : ∃ i, i < n ∧ h.testBit i = true) (r : Row n (fun i => nv i 6) A B N f d) (r' : Row n (fun i => nv i 6) A B N f' d') (h0 : ∀ i, i < n → ¬ h.testBit i = true → f i = 0 ∧ f' i = 0) (h1 : ∀ i, i < n → h.testBit i = true → d' i - d i = nv i 0 * (f' i - f i)) : ∀ i, i < n → f' i = f i ∧ d' i = d i := by
  have := lin_zero (k := kF nv h) (e := fun i => d' i - d i) (g := fun i => f' i - f i) (w := fun i => nv i 6) (A := A) (B := B) (n := n) (geo_nv hv hA hB) (kF_nn hv h) (by
      obtain ⟨i, hi, q⟩ := hs
      exact ⟨i, hi, (kF_pos hv hi).mpr q⟩) (fun i hi q => by
      have w : ¬ h.testBit i = true := fun z => by have := (kF_pos hv hi (h := h)).mpr z; omega
      have := h0 i hi w
      show f' i - f i = 0
      omega) (fun i hi q => by
      have w := (kF_pos hv hi).mp q
      show d' i - d i = kF nv h i * (f' i - f i)
      rw [kF_on w]; exact h1 i hi w) (by rw [sm_sub, r.1, r'.1]; omega) (fun i hi => by
      have a := r.2 i hi
      have b := r'.2 i hi
      dsimp only at a b ⊢
      rw [a, b, sm_sub]
      grind)
  intro i hi
  have a := this i hi
  have b : f' i - f i = 0 := a.1
  have c : d' i - d i = 0 := a.2
  omega
/-- what is in lines of those that hold on -/
theorem lnF_bd (hn : n ≤ 5) (hv : NvOk n nv) (hA : 0 ≤ A ∧ A ≤ 2) (hB : 0 ≤ B ∧ B ≤ 2) (hσ : ∀ i, i < n → 0 ≤ σ i ∧ σ i ≤ 150000000) {h : Nat} {D : Int} {fr fs dr ds : Nat → Int} (hS : LnF n nv A B h σ D fr fs dr ds) :
    ∀ i, i < n → 0 ≤ fr i ∧ fr i ≤ D ∧ 0 < dr i ∧ dr i ≤ 25 * D ∧ -(150000000 * D) ≤ fs i ∧ fs i ≤ 150000000 * D ∧ 0 ≤ ds i ∧ ds i ≤ 150000000 * D ∧ (h.testBit i = true → 0 < fr i) := by
  have hG := geo_nv hv hA hB
  intro i hi
  have hD := hS.1
  have a1 := hS.fnn hG (kF_nn hv h) i hi
  have a2 := hS.fle hG (kF_nn hv h) i hi
  have a3 := hS.pos hG (kF_nn hv h) i hi
  have a4 := hS.dle hn hG (kF_bd hv h) i hi
  have a5 := hS.low hG (kF_nn hv h) 0 (fun i hi _ => (hσ i hi).1) i hi
  have a6 := hS.high hG (kF_nn hv h) 150000000 (fun i hi _ => (hσ i hi).2) i hi
  rw [Int.zero_mul] at a5
  have b := hσ i hi
  have b2 := Int.mul_le_mul_of_nonneg_right b.2 (show 0 ≤ D by omega)
  have b1 := Int.mul_nonneg b.1 (show 0 ≤ D by omega)
  have v := hv i hi
  refine ⟨a1, a2, a3, a4, ?_, ?_, a5, a6, fun q => hS.fpos hG (kF_nn hv h) i hi ((kF_pos hv hi).mpr q)⟩
  · by_cases q : h.testBit i = true
    · have e := (hS.2.2.1 i hi ((kF_pos hv hi).mpr q)).2
      rw [kF_on q] at e
      refine Int.not_lt.mp fun w => ?_
      have := Int.mul_le_mul_of_nonneg_right (show 1 ≤ nv i 0 by omega) (show 0 ≤ - fs i by omega)
      rw [Int.mul_neg, Int.mul_neg] at this
      omega
    · have e := (hS.2.1 i hi (kF_off q)).2
      omega
  · by_cases q : h.testBit i = true
    · have e := (hS.2.2.1 i hi ((kF_pos hv hi).mpr q)).2
      rw [kF_on q] at e
      refine Int.not_lt.mp fun w => ?_
      have := Int.mul_le_mul_of_nonneg_right (show 1 ≤ nv i 0 by omega) (show 0 ≤ fs i by omega)
      omega
    · have e := (hS.2.1 i hi (kF_off q)).2
      omega
theorem layLines_z (hn : n ≤ 5) (hF : 10 < F) (hv : NvOk n nv) (hA : 0 ≤ A ∧ A ≤ 2) (hB : 0 ≤ B ∧ B ≤ 2) (J : JOk n nv g c y s u pit) {h : Nat} (h32 : h < 32) (hs : ∃ i, i < n ∧ h.testBit i = true) (hσ : ∀ i, i < n → 0 ≤ σ i ∧ σ i ≤ 150000000) {se : Nat → Int64} (hse : ∀ i, i < n → se i = zL (σ i)) (st0 : Nat → Int32) (re0 fr0 fs0 dr0 ds0 : Nat → Int64) (lu0 : Int64) (bf0 bl0 ba0 sc0 : Nat → Int64) (fR0 fS0 : Int64) :
    ∃ (D : Int) (fr fs dr ds : Nat → Int) (st1 : Nat → Int32) (re1 fr1 fs1 dr1 ds1 : Nat → Int64) (lu1 : Int64) (bf1 bl1 ba1 sc1 : Nat → Int64) (fR1 fS1 : Int64), f_F_layLines F (zI (h : Int)) se st0 re0 fr0 fs0 dr0 ds0 lu0 bf0 bl0 ba0 sc0 fR0 fS0 g pit (zI (n : Int)) (zI A) (zI B) = some (st1, re1, fr1, fs1, dr1, ds1, lu1, bf1, bl1, ba1, sc1, fR1, fS1) ∧ LnF n nv A B h σ D fr fs dr ds ∧ D ≤ 299269 ∧ SOk n D fr fs dr ds lu1 fr1 fs1 dr1 ds1 := by
  have loop := iter_for (body := un3 (fb_F_layLines_2 (zI (h : Int)) se g (zI (n : Int)))) (F := F) (s := ((0 : Int32), st0, re0))
    (fun j z => ∃ (st : Nat → Int32) (re : Nat → Int64), z = (zI (j : Int), st, re) ∧ ∀ i, i < j → st i = zI (kF nv h i) ∧ re i = zL (σ i))
    (fun z => ∃ (st : Nat → Int32) (re : Nat → Int64), z = (st, re) ∧ ∀ i, i < n → st i = zI (kF nv h i) ∧ re i = zL (σ i)) n (by omega) ⟨st0, re0, rfl, fun i hi => absurd hi (Nat.not_lt_zero i)⟩ ?_ ?_
  · obtain ⟨z, e, st, re, rfl, hz⟩ := loop
    obtain ⟨D, fr, fs, dr, ds, bf', bl', ba', sc', fR', fS', fr', fs', dr', ds', hS, hD2, e1, e2, g1, g2, g3, g4⟩ := lines_spec (n := n) hn (F := F) hF (k := kF nv h) (r := σ) (w := fun i => nv i 6) (geo_nv hv hA hB) (kF_bd hv h) (fun i hi _ => by have := hσ i hi; omega) (by
      obtain ⟨i, hi, q⟩ := hs
      exact ⟨i, hi, (kF_pos hv hi).mpr q⟩) (st := st) (pit := pit) (re := re) (bf := bf0) (bl := bl0) (ba := ba0) (sc := sc0) (fr0 := fr0) (fs0 := fs0) (dr0 := dr0) (ds0 := ds0) (un := lu0) (fR := fR0) (fS := fS0) (fun i hi => (hz i hi).1) (fun i hi => (hz i hi).2) J.2.2.2.2.2
    refine ⟨D, fr, fs, dr, ds, st, re, fr', fs', dr', ds', zL D, bf', bl', ba', sc', fR', fS', ?_, hS, hD2, rfl, g1, g2, g3, g4⟩
    unfold f_F_layLines
    rw [e]
    simp only [bd2, Option.bind_some]
    rw [e1]
    simp only [bd7, Option.bind_some]
    rw [e2]
    rfl
  · rintro j z hj ⟨st, re, rfl, hz⟩
    have fin : ∀ a : Int, a = kF nv h j → ∃ s', fj_F_layLines_46 (zI (j : Int)) (zI (j : Int)) (zI a) se st re = some (.inl s') ∧ ∃ (st : Nat → Int32) (re : Nat → Int64), s' = (zI ((j + 1 : Nat) : Int), st, re) ∧ ∀ i, i < j + 1 → st i = zI (kF nv h i) ∧ re i = zL (σ i) := by
      intro a ha
      unfold fj_F_layLines_46
      rw [stI_z (f := st) (j := j) (by omega) (by omega), Option.bind_some, ldA_z (f := se) (j := j) (by omega) (by omega), Option.bind_some, stL_z (f := re) (j := j) (by omega) (by omega), Option.bind_some]
      simp only [nm, zI_1]
      refine ⟨_, rfl, _, _, rfl, fun i hi => ?_⟩
      rw [upd_at, updL_at]
      by_cases x : i = j
      · rw [if_pos x, if_pos x, x]; exact ⟨by rw [ha], hse j hj⟩
      · rw [if_neg x, if_neg x]; exact hz i (by omega)
    have hb := bit_one h h32 j (by omega)
    dsimp only [un3]
    unfold fb_F_layLines_2
    rw [if_neg (by rw [zI_le (by omega) (by omega) (by omega) (by omega)]; omega)]
    by_cases q : h.testBit j = true
    · rw [if_pos (hb.mpr q), ldA_z (f := g) (j := j) (by omega) (by omega), Option.bind_some, J.1 j hj]
      exact fin _ (kF_on q).symm
    · rw [if_neg (fun z => q (hb.mp z))]
      exact fin 0 (kF_off q).symm
  · rintro z ⟨st, re, rfl, hz⟩
    dsimp only [un3]
    unfold fb_F_layLines_2
    rw [if_pos (Int32.le_refl _)]
    exact ⟨_, rfl, st, re, rfl, hz⟩
theorem lnF_at {D : Int} {fr fs dr ds : Nat → Int} {lu1 : Int64} {fr1 fs1 dr1 ds1 : Nat → Int64} (hn : n ≤ 5) (hO : SOk n D fr fs dr ds lu1 fr1 fs1 dr1 ds1) (x : Int) {i : Nat} (hi : i < n) : f_L_forceAt (zI (i : Int)) (zL x) (1 : Int64) fr1 fs1 = some (zL (fr i * x + fs i * 1)) ∧ f_L_slipAt (zI (i : Int)) (zL x) (1 : Int64) dr1 ds1 = some (zL (dr i * x + ds i * 1)) := by
  obtain ⟨o1, o2, o3, o4, o5⟩ := hO
  constructor
  · unfold f_L_forceAt
    rw [ldA_z (by omega) (by omega), Option.bind_some, ldA_z (by omega) (by omega), Option.bind_some, o2 i hi, o3 i hi, l1z, zL_mul, zL_mul, zL_add]
  · unfold f_L_slipAt
    rw [ldA_z (by omega) (by omega), Option.bind_some, ldA_z (by omega) (by omega), Option.bind_some, o4 i hi, o5 i hi, l1z, zL_mul, zL_mul, zL_add]
theorem lnF_ex (hn : n ≤ 5) (hv : NvOk n nv) (hA : 0 ≤ A ∧ A ≤ 2) (hB : 0 ≤ B ∧ B ≤ 2) {h : Nat} (h32 : h < 32) (hs : ∃ i, i < n ∧ h.testBit i = true) (hσ : ∀ i, i < n → 0 ≤ σ i ∧ σ i ≤ 150000000) : ∃ (D : Int) (fr fs dr ds : Nat → Int), LnF n nv A B h σ D fr fs dr ds := by
  obtain ⟨D, fr, fs, dr, ds, st1, re1, fr1, fs1, dr1, ds1, lu1, bf1, bl1, ba1, sc1, fR1, fS1, -, hS, -, -⟩ := layLines_z (F := 21) hn (by omega) hv hA hB (jok_self n nv) h32 hs hσ (se := fun i => zL (σ i)) (fun _ _ => rfl) (fun _ => 0) (fun _ => 0) (fun _ => 0) (fun _ => 0) (fun _ => 0) (fun _ => 0) 0 (fun _ => 0) (fun _ => 0) (fun _ => 0) (fun _ => 0) 0 0
  exact ⟨D, fr, fs, dr, ds, hS⟩
end OPS24
