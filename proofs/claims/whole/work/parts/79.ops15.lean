/-! BUILDING the joint: copies, swaps -/
section OPS15
variable {n : Nat} {nv : Nat → Nat → Int} {A B : Int} {F : Nat} {g c y s u pit o now : Nat → Int32}
theorem copyBolt_z {k m : Nat} (hk : k < 5) (hm : m < 5) (g c y s u o gb cb yb sb ub ob : Nat → Int32) (hob : vp_nar .boolean (ob k) = ob k) : f_J_copyBolt (zI (k : Int)) (zI (m : Int)) g c y s u o gb cb yb sb ub ob = some (upd g m (gb k), upd c m (cb k), upd y m (yb k), upd s m (sb k), upd u m (ub k), upd o m (ob k)) := by
  unfold f_J_copyBolt f_J_write
  rw [ldA_z (f := gb) (j := k) hk (by omega), Option.bind_some, ldA_z (f := cb) (j := k) hk (by omega), Option.bind_some, ldA_z (f := yb) (j := k) hk (by omega), Option.bind_some, ldA_z (f := sb) (j := k) hk (by omega), Option.bind_some, ldA_z (f := ub) (j := k) hk (by omega), Option.bind_some, stI_z (f := g) (j := m) hm (by omega), Option.bind_some, stI_z (f := c) (j := m) hm (by omega), Option.bind_some, stI_z (f := y) (j := m) hm (by omega), Option.bind_some, stI_z (f := s) (j := m) hm (by omega), Option.bind_some, stI_z (f := u) (j := m) hm (by omega), Option.bind_some]
  simp only [bd5, Option.bind_some]
  rw [ldA_z (f := ob) (j := k) hk (by omega), Option.bind_some, stZ_z (f := o) (j := m) hm (by omega) hob, Option.bind_some]
theorem out_bool (hv : NvOk n nv) (ho : ∀ i, i < n → o i = zI (nv i 5)) {i : Nat} (hi : i < n) : vp_nar .boolean (o i) = o i := by
  have v := hv i hi
  rw [ho i hi]
  rcases (by omega : nv i 5 = 0 ∨ nv i 5 = 1) with e | e
  · rw [e]; rfl
  · rw [e]; rfl
theorem copyAll_z (hJt : Jt n nv A B) (hF : 10 < F) {bn ju jl : Int32} (J : JX n nv A B g c y s u o pit bn ju jl) (g2 c2 y2 s2 u2 o2 p2 : Nat → Int32) (b2 a2 l2 : Int32) :
    ∃ g' c' y' s' u' o' p' : Nat → Int32, f_J_copyAll F g2 c2 y2 s2 u2 o2 p2 b2 a2 l2 g c y s u o pit bn ju jl = some (g', c', y', s', u', o', p', bn, ju, jl) ∧ JX n nv A B g' c' y' s' u' o' p' bn ju jl ∧ ∀ i, i < n → g' i = g i ∧ c' i = c i ∧ y' i = y i ∧ s' i = s i ∧ u' i = u i ∧ o' i = o i ∧ p' i = pit i := by
  obtain ⟨J1, ho, rfl, rfl, rfl⟩ := J
  obtain ⟨hn, hv, hA, hB⟩ := hJt
  have loop := iter_for (body := un8 (fb_J_copyAll_26 (zI (n : Int)) g c y s u o pit)) (F := F) (s := ((0 : Int32), g2, c2, y2, s2, u2, o2, p2))
    (fun j z => ∃ g' c' y' s' u' o' p' : Nat → Int32, z = (zI (j : Int), g', c', y', s', u', o', p') ∧ ∀ i, i < j → g' i = g i ∧ c' i = c i ∧ y' i = y i ∧ s' i = s i ∧ u' i = u i ∧ o' i = o i ∧ p' i = pit i)
    (fun z => ∃ g' c' y' s' u' o' p' : Nat → Int32, z = (g', c', y', s', u', o', p') ∧ ∀ i, i < n → g' i = g i ∧ c' i = c i ∧ y' i = y i ∧ s' i = s i ∧ u' i = u i ∧ o' i = o i ∧ p' i = pit i) n (by omega) ⟨g2, c2, y2, s2, u2, o2, p2, rfl, fun i hi => absurd hi (Nat.not_lt_zero i)⟩ ?_ ?_
  · obtain ⟨z, e, g', c', y', s', u', o', p', rfl, hall⟩ := loop
    unfold f_J_copyAll
    rw [e]
    obtain ⟨j1, j2, j3, j4, j5, j6⟩ := J1
    refine ⟨g', c', y', s', u', o', p', rfl, ⟨⟨fun i hi => ?_, fun i hi => ?_, fun i hi => ?_, fun i hi => ?_, fun i hi => ?_, fun i hi => ?_⟩, fun i hi => ?_, rfl, rfl, rfl⟩, hall⟩
    · rw [(hall i hi).1]; exact j1 i hi
    · rw [(hall i hi).2.1]; exact j2 i hi
    · rw [(hall i hi).2.2.1]; exact j3 i hi
    · rw [(hall i hi).2.2.2.1]; exact j4 i hi
    · rw [(hall i hi).2.2.2.2.1]; exact j5 i hi
    · rw [(hall i (by omega)).2.2.2.2.2.2]; exact j6 i hi
    · rw [(hall i hi).2.2.2.2.2.1]; exact ho i hi
  · rintro j z hj ⟨g', c', y', s', u', o', p', rfl, hall⟩
    dsimp only [un8]
    unfold fb_J_copyAll_26
    rw [if_neg (by rw [zI_le (by omega) (by omega) (by omega) (by omega)]; omega), if_neg (show ¬ (5 : Int32) ≤ zI (j : Int) from fun w => absurd ((zI_le (a := 5) (b := (j : Int)) (by omega) (by omega) (by omega) (by omega)).mp w) (by omega)), copyBolt_z (by omega) (by omega) g' c' y' s' u' o' g c y s u o (out_bool hv ho hj)]
    simp only [bd6, Option.bind_some]
    rw [ldA_z (f := pit) (j := j) (by omega) (by omega), Option.bind_some, stI_z (f := p') (j := j) (by omega) (by omega), Option.bind_some]
    simp only [nm, zI_1]
    refine ⟨_, rfl, _, _, _, _, _, _, _, rfl, fun i hi => ?_⟩
    simp only [upd_at]
    by_cases w : i = j
    · rw [if_pos w, if_pos w, if_pos w, if_pos w, if_pos w, if_pos w, if_pos w, w]
      exact ⟨rfl, rfl, rfl, rfl, rfl, rfl, rfl⟩
    · rw [if_neg w, if_neg w, if_neg w, if_neg w, if_neg w, if_neg w, if_neg w]
      exact hall i (by omega)
  · rintro z ⟨g', c', y', s', u', o', p', rfl, hall⟩
    dsimp only [un8]
    unfold fb_J_copyAll_26
    rw [if_pos (Int32.le_refl _)]
    exact ⟨_, rfl, g', c', y', s', u', o', p', rfl, hall⟩
def nvSwp (a b : Nat) (nv : Nat → Nat → Int) : Nat → Nat → Int := fun i q => if q = 6 then nv i 6 else if i = b then nv a q else if i = a then nv b q else nv i q
theorem swp_at {a b i q : Nat} (hq : q ≠ 6) : nvSwp a b nv i q = if i = b then nv a q else if i = a then nv b q else nv i q := if_neg hq
theorem swp_ok (hv : NvOk n nv) {a b : Nat} (ha : a < n) (hb : b < n) : NvOk n (nvSwp a b nv) := by
  intro i hi
  have w := hv i hi
  have wa := hv a ha
  have wb := hv b hb
  have e6 : nvSwp a b nv i 6 = nv i 6 := if_pos rfl
  rw [e6, swp_at (q := 0) (by omega), swp_at (q := 1) (by omega), swp_at (q := 2) (by omega), swp_at (q := 3) (by omega), swp_at (q := 4) (by omega), swp_at (q := 5) (by omega)]
  by_cases z : i = b
  · simp only [if_pos z]; omega
  · by_cases x : i = a
    · simp only [if_neg z, if_pos x]; omega
    · simp only [if_neg z, if_neg x]; omega
theorem exch_z (hn : n ≤ 5) (hF : 10 < F) {a b : Nat} (ha : a < n) (hb : b < n) (h : ∀ i, i < n → ∀ q, q < 7 → now (7 * i + q) = zI (nv i q)) : ∃ L, f_M_exchange F (zI (a : Int)) (zI (b : Int)) now = some L ∧ ∀ i, i < n → ∀ q, q < 7 → L (7 * i + q) = zI (nvSwp a b nv i q) := by
  have loop := iter_for (body := un2 (fb_M_exchange_2 (zI (a : Int)) (zI (b : Int)))) (F := F) (s := ((0 : Int32), now)) (fun j z => ∃ t : Nat → Int32, z = (zI (j : Int), t) ∧ ∀ i, i < n → ∀ q, q < 7 → t (7 * i + q) = zI (if q < j then nvSwp a b nv i q else nv i q)) (fun t => ∀ i, i < n → ∀ q, q < 7 → t (7 * i + q) = zI (if q < 6 then nvSwp a b nv i q else nv i q)) 6 (by omega) ⟨now, rfl, fun i hi q hq => by rw [if_neg (Nat.not_lt_zero q)]; exact h i hi q hq⟩ ?_ ?_
  · obtain ⟨L, e, hL⟩ := loop
    unfold f_M_exchange
    rw [e]
    refine ⟨L, rfl, fun i hi q hq => ?_⟩
    rw [hL i hi q hq]
    by_cases w : q < 6
    · rw [if_pos w]
    · rw [if_neg w, show q = 6 by omega]; rfl
  · rintro j z hj ⟨t, rfl, ht⟩
    have r1 : f_M_of (zI (a : Int)) (zI (j : Int)) t = some (zI (nv a j)) := by
      rw [of_z (nv := fun i q => if q < j then nvSwp a b nv i q else nv i q) hn ht ha (show j < 7 by omega), if_neg (Nat.lt_irrefl j)]
    have r2 : f_M_of (zI (b : Int)) (zI (j : Int)) t = some (zI (nv b j)) := by
      rw [of_z (nv := fun i q => if q < j then nvSwp a b nv i q else nv i q) hn ht hb (show j < 7 by omega), if_neg (Nat.lt_irrefl j)]
    dsimp only [un2]
    unfold fb_M_exchange_2
    rw [if_neg (show ¬ (5 : Int32) < zI (j : Int) from fun w => absurd ((zI_lt (a := 5) (b := (j : Int)) (by omega) (by omega) (by omega) (by omega)).mp w) (by omega)), r1, r2, Option.bind_some, Option.bind_some, e7q a j, e7q b j, stI_z (f := t) (j := 7 * a + j) (by omega) (by omega), Option.bind_some, stI_z (j := 7 * b + j) (by omega) (by omega), Option.bind_some]
    simp only [nm, zI_1]
    refine ⟨_, rfl, _, rfl, fun i hi q hq => ?_⟩
    rw [upd_at, upd_at]
    by_cases w : q = j
    · subst w
      rw [if_pos (show q < q + 1 by omega), swp_at (by omega)]
      by_cases x : i = b
      · rw [if_pos (by omega), if_pos x]
      · rw [if_neg (by omega), if_neg x]
        by_cases x2 : i = a
        · rw [if_pos (by omega), if_pos x2]
        · rw [if_neg (by omega), if_neg x2, ht i hi q hq, if_neg (Nat.lt_irrefl q)]
    · rw [if_neg (by omega), if_neg (by omega), ht i hi q hq]
      by_cases x : q < j
      · rw [if_pos x, if_pos (show q < j + 1 by omega)]
      · rw [if_neg x, if_neg (show ¬ q < j + 1 by omega)]
  · rintro z ⟨t, rfl, ht⟩
    dsimp only [un2]
    unfold fb_M_exchange_2
    rw [if_pos (show (5 : Int32) < zI ((6 : Nat) : Int) from (zI_lt (a := 5) (b := ((6 : Nat) : Int)) (by omega) (by omega) (by omega) (by omega)).mpr (by omega))]
    exact ⟨t, rfl, ht⟩
theorem updI_swp {f f2 : Nat → Int32} {a b q : Nat} (h : ∀ i, i < n → f i = zI (nv i q)) (ha : f2 a = f a) (hb : f2 b = f b) (ia : a < n) (ib : b < n) (hq : q ≠ 6) : ∀ i, i < n → upd (upd f a (f2 b)) b (f2 a) i = zI (nvSwp a b nv i q) := by
  intro i hi
  rw [upd_at, upd_at, swp_at hq]
  by_cases z : i = b
  · rw [if_pos z, if_pos z, ha]; exact h a ia
  · rw [if_neg z, if_neg z]
    by_cases x : i = a
    · rw [if_pos x, if_pos x, hb]; exact h b ib
    · rw [if_neg x, if_neg x]; exact h i hi
theorem op_swaps (hJt : Jt n nv A B) (hF : 300 < F) {bn ju jl many mu ml : Int32} (J : JX n nv A B g c y s u o pit bn ju jl) (X : MX n nv A B now many mu ml) (x1 x2 kn th : Int32) (g2 c2 y2 s2 u2 o2 p2 : Nat → Int32) (b2 a2 l2 : Int32) :
    ∃ (r kn' : Int32) (nv' : Nat → Nat → Int) (g' c' y' s' u' o' now' g3 c3 y3 s3 u3 o3 p3 : Nat → Int32) (b3 a3 l3 : Int32), f_X_swaps F x1 x2 kn g c y s u o pit bn ju jl g2 c2 y2 s2 u2 o2 p2 b2 a2 l2 = some (r, kn', g', c', y', s', u', o', g3, c3, y3, s3, u3, o3, p3, b3, a3, l3) ∧ f_M_swaps F x1 x2 now many th = some (r, now', (0 : Int32)) ∧ Jt n nv' A B ∧ JX n nv' A B g' c' y' s' u' o' pit bn ju jl ∧ MX n nv' A B now' many mu ml ∧ (kn' = 0 ∨ kn' = kn ∧ nv' = nv) := by
  obtain ⟨i, rfl, hi⟩ := zI_all x1
  obtain ⟨k, rfl, hk⟩ := zI_all x2
  have J0 := J
  have hJt' := hJt
  obtain ⟨J1, ho, rfl, rfl, rfl⟩ := J
  obtain ⟨h, rfl, rfl, rfl⟩ := X
  obtain ⟨hn, hv, hA, hB⟩ := hJt
  unfold f_X_swaps f_M_swaps
  rw [has_z hn hi, isBolt_z hn hi, Option.bind_some, Option.bind_some]
  by_cases q1 : 0 ≤ i ∧ i < n
  rotate_left
  · rw [if_pos (b01_ne0.mpr q1), if_pos (b01_ne0.mpr q1)]
    exact ⟨_, kn, nv, g, c, y, s, u, o, now, g2, c2, y2, s2, u2, o2, p2, b2, a2, l2, rfl, rfl, hJt', J0, ⟨h, rfl, rfl, rfl⟩, Or.inr ⟨rfl, rfl⟩⟩
  rw [if_neg (fun z => (b01_ne0.mp z) q1), if_neg (fun z => (b01_ne0.mp z) q1), has_z hn hk, isBolt_z hn hk, Option.bind_some, Option.bind_some]
  by_cases q2 : 0 ≤ k ∧ k < n
  rotate_left
  · rw [if_pos (b01_ne0.mpr q2), if_pos (b01_ne0.mpr q2)]
    exact ⟨_, kn, nv, g, c, y, s, u, o, now, g2, c2, y2, s2, u2, o2, p2, b2, a2, l2, rfl, rfl, hJt', J0, ⟨h, rfl, rfl, rfl⟩, Or.inr ⟨rfl, rfl⟩⟩
  rw [if_neg (fun z => (b01_ne0.mp z) q2), if_neg (fun z => (b01_ne0.mp z) q2)]
  by_cases q3 : i = k
  · rw [if_pos (show zI i = zI k by rw [q3]), if_pos (show zI i = zI k by rw [q3])]
    exact ⟨_, kn, nv, g, c, y, s, u, o, now, g2, c2, y2, s2, u2, o2, p2, b2, a2, l2, rfl, rfl, hJt', J0, ⟨h, rfl, rfl, rfl⟩, Or.inr ⟨rfl, rfl⟩⟩
  have ne : ¬ zI i = zI k := fun z => q3 ((zI_eq (by omega) (by omega) (by omega) (by omega)).mp z)
  rw [if_neg ne, if_neg ne]
  obtain ⟨a, rfl⟩ : ∃ a : Nat, i = (a : Int) := ⟨i.toNat, by omega⟩
  obtain ⟨b, rfl⟩ : ∃ b : Nat, k = (b : Int) := ⟨k.toNat, by omega⟩
  have ia : a < n := by omega
  have ib : b < n := by omega
  obtain ⟨L, el, hL⟩ := exch_z (F := F) hn (by omega) ia ib h
  obtain ⟨g3, c3, y3, s3, u3, o3, p3, ec, J3, hall⟩ := copyAll_z (F := F) hJt' (by omega) J0 g2 c2 y2 s2 u2 o2 p2 b2 a2 l2
  have ho3 := J3.2.1
  rw [el, Option.bind_some, ec]
  simp only [bd10, Option.bind_some]
  rw [copyBolt_z (k := b) (m := a) (by omega) (by omega) g c y s u o g3 c3 y3 s3 u3 o3 (out_bool hv ho3 ib)]
  simp only [bd6, Option.bind_some]
  rw [copyBolt_z (k := a) (m := b) (by omega) (by omega) _ _ _ _ _ _ g3 c3 y3 s3 u3 o3 (out_bool hv ho3 ia)]
  simp only [Option.bind_some]
  obtain ⟨j1, j2, j3, j4, j5, j6⟩ := J1
  obtain ⟨a1, a2', a3, a4, a5, a6, -⟩ := hall a ia
  obtain ⟨b1, b2', b3, b4, b5, b6, -⟩ := hall b ib
  exact ⟨_, 0, nvSwp a b nv, _, _, _, _, _, _, L, g3, c3, y3, s3, u3, o3, p3, _, _, _, rfl, rfl, ⟨hn, swp_ok hv ia ib, hA, hB⟩, ⟨⟨updI_swp j1 a1 b1 ia ib (by omega), updI_swp j2 a2' b2' ia ib (by omega), updI_swp j3 a3 b3 ia ib (by omega), updI_swp j4 a4 b4 ia ib (by omega), updI_swp j5 a5 b5 ia ib (by omega), j6⟩, updI_swp ho a6 b6 ia ib (by omega), rfl, rfl, rfl⟩, ⟨hL, rfl, rfl, rfl⟩, Or.inl rfl⟩
end OPS15
