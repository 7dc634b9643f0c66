/-! BUILDING the joint: bolt -/
section OPS12
variable {n : Nat} {nv : Nat → Nat → Int} {A B : Int} {F : Nat} {g c y s u pit o now : Nat → Int32}
theorem e7q (k q : Nat) : (7 : Int32) * zI (k : Int) + zI (q : Int) = zI ((7 * k + q : Nat) : Int) := by
  rw [zI_mul7, zI_addN]
theorem lays_z {k : Nat} (hk : k < 5) (a b c d e : Int32) (now : Nat → Int32) : ∃ L : Nat → Int32, f_M_lays (zI (k : Int)) a b c d e now = some L ∧ L (7 * k + 0) = a ∧ L (7 * k + 1) = b ∧ L (7 * k + 2) = c ∧ L (7 * k + 3) = d ∧ L (7 * k + 4) = e ∧ ∀ j, (j < 7 * k ∨ 7 * k + 4 < j) → L j = now j := by
  have e0 : (7 : Int32) * zI (k : Int) + (0 : Int32) = zI ((7 * k + 0 : Nat) : Int) := e7q k 0
  have e1 : (7 : Int32) * zI (k : Int) + (1 : Int32) = zI ((7 * k + 1 : Nat) : Int) := e7q k 1
  have e2 : (7 : Int32) * zI (k : Int) + (2 : Int32) = zI ((7 * k + 2 : Nat) : Int) := e7q k 2
  have e3 : (7 : Int32) * zI (k : Int) + (3 : Int32) = zI ((7 * k + 3 : Nat) : Int) := e7q k 3
  have e4 : (7 : Int32) * zI (k : Int) + (4 : Int32) = zI ((7 * k + 4 : Nat) : Int) := e7q k 4
  unfold f_M_lays
  rw [e0, e1, e2, e3, e4, stI_z (f := now) (j := 7 * k + 0) (by omega) (by omega), Option.bind_some, stI_z (j := 7 * k + 1) (by omega) (by omega), Option.bind_some, stI_z (j := 7 * k + 2) (by omega) (by omega), Option.bind_some, stI_z (j := 7 * k + 3) (by omega) (by omega), Option.bind_some, stI_z (j := 7 * k + 4) (by omega) (by omega), Option.bind_some]
  refine ⟨upd (upd (upd (upd (upd now (7 * k + 0) a) (7 * k + 1) b) (7 * k + 2) c) (7 * k + 3) d) (7 * k + 4) e, rfl, ?_, ?_, ?_, ?_, ?_, fun j hj => ?_⟩
  · rw [upd_at, if_neg (by omega), upd_at, if_neg (by omega), upd_at, if_neg (by omega), upd_at, if_neg (by omega), upd_at, if_pos rfl]
  · rw [upd_at, if_neg (by omega), upd_at, if_neg (by omega), upd_at, if_neg (by omega), upd_at, if_pos rfl]
  · rw [upd_at, if_neg (by omega), upd_at, if_neg (by omega), upd_at, if_pos rfl]
  · rw [upd_at, if_neg (by omega), upd_at, if_pos rfl]
  · rw [upd_at, if_pos rfl]
  · rw [upd_at, if_neg (by omega), upd_at, if_neg (by omega), upd_at, if_neg (by omega), upd_at, if_neg (by omega), upd_at, if_neg (by omega)]
theorem comes_z {k : Nat} (hk : k < 5) (now : Nat → Int32) : ∃ L : Nat → Int32, f_M_comes now (zI (k : Int)) = some (L, zI ((k + 1 : Nat) : Int)) ∧ L (7 * k + 5) = 0 ∧ L (7 * k + 6) = 0 ∧ (0 < k → L (7 * (k - 1) + 6) = 1) ∧ ∀ j, j ≠ 7 * k + 5 → j ≠ 7 * k + 6 → ¬ (0 < k ∧ j = 7 * (k - 1) + 6) → L j = now j := by
  have e5 : (7 : Int32) * zI (k : Int) + (5 : Int32) = zI ((7 * k + 5 : Nat) : Int) := e7q k 5
  have e6 : (7 : Int32) * zI (k : Int) + (6 : Int32) = zI ((7 * k + 6 : Nat) : Int) := e7q k 6
  have en : zI (k : Int) + (1 : Int32) = zI ((k + 1 : Nat) : Int) := zI_addN k 1
  unfold f_M_comes
  rw [e5, e6, stI_z (f := now) (j := 7 * k + 5) (by omega) (by omega), Option.bind_some, stI_z (j := 7 * k + 6) (by omega) (by omega), Option.bind_some, en]
  by_cases q : k = 0
  · rw [if_pos (show zI (k : Int) ≤ (0 : Int32) from (zI_le (a := (k : Int)) (b := 0) (by omega) (by omega) (by omega) (by omega)).mpr (by omega))]
    refine ⟨upd (upd now (7 * k + 5) 0) (7 * k + 6) 0, rfl, ?_, ?_, fun z => absurd z (by omega), fun j h1 h2 _ => ?_⟩
    · rw [upd_at, if_neg (by omega), upd_at, if_pos rfl]
    · rw [upd_at, if_pos rfl]
    · rw [upd_at, if_neg h2, upd_at, if_neg h1]
  · have ep : (7 : Int32) * (zI (k : Int) - (1 : Int32)) + (6 : Int32) = zI ((7 * (k - 1) + 6 : Nat) : Int) := by
      have z : zI (k : Int) - (1 : Int32) = zI ((k - 1 : Nat) : Int) := by rw [i1, zI_sub]; congr 1; omega
      rw [z]; exact e7q (k - 1) 6
    rw [if_neg (show ¬ zI (k : Int) ≤ (0 : Int32) from fun z => absurd ((zI_le (a := (k : Int)) (b := 0) (by omega) (by omega) (by omega) (by omega)).mp z) (by omega)), ep, stI_z (j := 7 * (k - 1) + 6) (by omega) (by omega), Option.bind_some]
    refine ⟨upd (upd (upd now (7 * k + 5) 0) (7 * k + 6) 0) (7 * (k - 1) + 6) 1, rfl, ?_, ?_, fun z => ?_, fun j h1 h2 h3 => ?_⟩
    · rw [upd_at, if_neg (by omega), upd_at, if_neg (by omega), upd_at, if_pos rfl]
    · rw [upd_at, if_neg (by omega), upd_at, if_pos rfl]
    · rw [upd_at, if_pos rfl]
    · rw [upd_at, if_neg (by omega), upd_at, if_neg h2, upd_at, if_neg h1]
def nvAdd (n : Nat) (nv : Nat → Nat → Int) (a b c d e : Int) : Nat → Nat → Int := fun i q => if i = n then (if q = 0 then a else if q = 1 then b else if q = 2 then c else if q = 3 then d else if q = 4 then e else 0) else if i + 1 = n ∧ q = 6 then 1 else nv i q
theorem nvAdd_old {a b c d e : Int} {i q : Nat} (h : i ≠ n) (hq : ¬ (i + 1 = n ∧ q = 6)) : nvAdd n nv a b c d e i q = nv i q := by
  unfold nvAdd; rw [if_neg h, if_neg hq]
theorem nvAdd_gap {a b c d e : Int} {i : Nat} (h : i + 1 = n) : nvAdd n nv a b c d e i 6 = 1 := by
  unfold nvAdd; rw [if_neg (by omega), if_pos ⟨h, rfl⟩]
theorem nvAdd_new {a b c d e : Int} (q : Nat) : nvAdd n nv a b c d e n q = (if q = 0 then a else if q = 1 then b else if q = 2 then c else if q = 3 then d else if q = 4 then e else 0) := if_pos rfl
theorem updI_last {f : Nat → Int32} {v : Nat → Int} {q : Nat} {a b c d e x : Int} (h : ∀ i, i < n → f i = zI (nv i q)) (hq : q ≠ 6) (hx : nvAdd n nv a b c d e n q = x) : ∀ i, i < n + 1 → upd f n (zI x) i = zI (nvAdd n nv a b c d e i q) := by
  intro i hi
  rw [upd_at]
  by_cases z : i = n
  · rw [if_pos z, z, hx]
  · rw [if_neg z, nvAdd_old z (fun w => hq w.2)]; exact h i (by omega)
theorem add_z (hn : n < 5) (J1 : JOk n nv g c y s u pit) (ho : ∀ i, i < n → o i = zI (nv i 5)) (a b c' d e : Int) :
    ∃ g' k' y' s' u' o' p' : Nat → Int32, f_J_add (zI a) (zI b) (zI c') (zI d) (zI e) g c y s u o pit (zI (n : Int)) = some (g', k', y', s', u', o', p', zI ((n + 1 : Nat) : Int)) ∧ JOk (n + 1) (nvAdd n nv a b c' d e) g' k' y' s' u' p' ∧ ∀ i, i < n + 1 → o' i = zI (nvAdd n nv a b c' d e i 5) := by
  obtain ⟨j1, j2, j3, j4, j5, j6⟩ := J1
  have en : zI (n : Int) + (1 : Int32) = zI ((n + 1 : Nat) : Int) := zI_addN n 1
  have tail : ∀ p, fj_J_add_28 (zI a) (zI b) (zI c') (zI d) (zI e) g c y s u o p (zI (n : Int)) = some (upd g n (zI a), upd c n (zI b), upd y n (zI c'), upd s n (zI d), upd u n (zI e), upd o n (zI 0), p, zI ((n + 1 : Nat) : Int)) := by
    intro p
    have hz : stZ o 5 (zI (n : Int)) (0 : Int32) = some (upd o n (zI 0)) := stZ_z hn (by omega) rfl
    unfold fj_J_add_28 f_J_write
    rw [hz, Option.bind_some, stI_z (f := g) hn (by omega), Option.bind_some, stI_z (f := c) hn (by omega), Option.bind_some, stI_z (f := y) hn (by omega), Option.bind_some, stI_z (f := s) hn (by omega), Option.bind_some, stI_z (f := u) hn (by omega), Option.bind_some, en]
    rfl
  unfold f_J_add
  rw [if_pos (show zI (n : Int) < (5 : Int32) from (zI_lt (a := (n : Int)) (b := 5) (by omega) (by omega) (by omega) (by omega)).mpr (by omega))]
  have r1 := updI_last (v := fun _ => 0) (x := a) (a := a) (b := b) (c := c') (d := d) (e := e) (q := 0) j1 (by omega) (nvAdd_new 0)
  have r2 := updI_last (v := fun _ => 0) (x := b) (a := a) (b := b) (c := c') (d := d) (e := e) (q := 1) j2 (by omega) (nvAdd_new 1)
  have r3 := updI_last (v := fun _ => 0) (x := c') (a := a) (b := b) (c := c') (d := d) (e := e) (q := 2) j3 (by omega) (nvAdd_new 2)
  have r4 := updI_last (v := fun _ => 0) (x := d) (a := a) (b := b) (c := c') (d := d) (e := e) (q := 3) j4 (by omega) (nvAdd_new 3)
  have r5 := updI_last (v := fun _ => 0) (x := e) (a := a) (b := b) (c := c') (d := d) (e := e) (q := 4) j5 (by omega) (nvAdd_new 4)
  have r6 := updI_last (v := fun _ => 0) (x := 0) (a := a) (b := b) (c := c') (d := d) (e := e) (q := 5) ho (by omega) (nvAdd_new 5)
  by_cases q : n = 0
  · rw [if_pos (show zI (n : Int) ≤ (0 : Int32) from (zI_le (a := (n : Int)) (b := 0) (by omega) (by omega) (by omega) (by omega)).mpr (by omega)), tail]
    exact ⟨_, _, _, _, _, _, _, rfl, ⟨r1, r2, r3, r4, r5, fun i hi => absurd hi (by omega)⟩, r6⟩
  · have z : zI (n : Int) - (1 : Int32) = zI ((n - 1 : Nat) : Int) := by rw [i1, zI_sub]; congr 1; omega
    rw [if_neg (show ¬ zI (n : Int) ≤ (0 : Int32) from fun z => absurd ((zI_le (a := (n : Int)) (b := 0) (by omega) (by omega) (by omega) (by omega)).mp z) (by omega)), z, stI_z (f := pit) (j := n - 1) (by omega) (by omega), Option.bind_some, tail]
    refine ⟨_, _, _, _, _, _, _, rfl, ⟨r1, r2, r3, r4, r5, fun i hi => ?_⟩, r6⟩
    rw [upd_at]
    by_cases w : i = n - 1
    · rw [if_pos w, nvAdd_gap (by omega)]; rfl
    · rw [if_neg w, nvAdd_old (by omega) (by omega)]; exact j6 i (by omega)
theorem nvAdd_ok (hv : NvOk n nv) {a b c' d e : Int} (hf : Fair a b c' d e) : NvOk (n + 1) (nvAdd n nv a b c' d e) := by
  intro i hi
  by_cases z : i = n
  · rw [z]
    have q0 : nvAdd n nv a b c' d e n 0 = a := nvAdd_new 0
    have q1 : nvAdd n nv a b c' d e n 1 = b := nvAdd_new 1
    have q2 : nvAdd n nv a b c' d e n 2 = c' := nvAdd_new 2
    have q3 : nvAdd n nv a b c' d e n 3 = d := nvAdd_new 3
    have q4 : nvAdd n nv a b c' d e n 4 = e := nvAdd_new 4
    have q5 : nvAdd n nv a b c' d e n 5 = 0 := nvAdd_new 5
    have q6 : nvAdd n nv a b c' d e n 6 = 0 := nvAdd_new 6
    unfold Fair at hf
    omega
  · have w := hv i (by omega)
    rw [nvAdd_old (q := 0) z (by omega), nvAdd_old (q := 1) z (by omega), nvAdd_old (q := 2) z (by omega), nvAdd_old (q := 3) z (by omega), nvAdd_old (q := 4) z (by omega), nvAdd_old (q := 5) z (by omega)]
    by_cases x : i + 1 = n
    · rw [nvAdd_gap x]; omega
    · rw [nvAdd_old (q := 6) z (by omega)]; omega
theorem op_bolt (hJt : Jt n nv A B) {bn ju jl many mu ml : Int32} (J : JX n nv A B g c y s u o pit bn ju jl) (X : MX n nv A B now many mu ml) (x1 x2 x3 x4 x5 kn th : Int32) :
    ∃ (r kn' : Int32) (n' : Nat) (nv' : Nat → Nat → Int) (g' k' y' s' u' o' p' now' : Nat → Int32) (bn' : Int32), f_X_bolt x1 x2 x3 x4 x5 kn g c y s u o pit bn = some (r, kn', g', k', y', s', u', o', p', bn') ∧ f_M_bolt x1 x2 x3 x4 x5 now many th = some (r, now', bn', (0 : Int32)) ∧ Jt n' nv' A B ∧ JX n' nv' A B g' k' y' s' u' o' p' bn' ju jl ∧ MX n' nv' A B now' bn' mu ml ∧ (kn' = 0 ∨ kn' = kn ∧ n' = n ∧ nv' = nv) := by
  obtain ⟨a, rfl, ha⟩ := zI_all x1
  obtain ⟨b, rfl, hb⟩ := zI_all x2
  obtain ⟨c', rfl, hc⟩ := zI_all x3
  obtain ⟨d, rfl, hd⟩ := zI_all x4
  obtain ⟨e, rfl, he⟩ := zI_all x5
  obtain ⟨J1, ho, rfl, rfl, rfl⟩ := J
  obtain ⟨h, rfl, rfl, rfl⟩ := X
  obtain ⟨hn, hv, hA, hB⟩ := hJt
  unfold f_X_bolt f_M_bolt
  rcases fair_z ha hb hc hd he with ⟨f1, f2, hf⟩ | ⟨f1, f2⟩
  rotate_left
  · rw [f1, f2, Option.bind_some, Option.bind_some, if_pos rfl, if_pos rfl]
    exact ⟨_, kn, n, nv, g, c, y, s, u, o, pit, now, _, rfl, rfl, ⟨hn, hv, hA, hB⟩, ⟨J1, ho, rfl, rfl, rfl⟩, ⟨h, rfl, rfl, rfl⟩, Or.inr ⟨rfl, rfl, rfl⟩⟩
  rw [f1, f2, Option.bind_some, Option.bind_some, if_neg (show ¬ (1 : Int32) = 0 by decide), if_neg (show ¬ (1 : Int32) = 0 by decide)]
  by_cases q : n < 5
  rotate_left
  · rw [if_neg (show ¬ zI (n : Int) < (5 : Int32) from fun z => absurd ((zI_lt (a := (n : Int)) (b := 5) (by omega) (by omega) (by omega) (by omega)).mp z) (by omega)), if_pos (show zI (n : Int) = (5 : Int32) from (zI_eq (a := (n : Int)) (b := 5) (by omega) (by omega) (by omega) (by omega)).mpr (by omega))]
    exact ⟨_, kn, n, nv, g, c, y, s, u, o, pit, now, _, rfl, rfl, ⟨hn, hv, hA, hB⟩, ⟨J1, ho, rfl, rfl, rfl⟩, ⟨h, rfl, rfl, rfl⟩, Or.inr ⟨rfl, rfl, rfl⟩⟩
  rw [if_pos (show zI (n : Int) < (5 : Int32) from (zI_lt (a := (n : Int)) (b := 5) (by omega) (by omega) (by omega) (by omega)).mpr (by omega)), if_neg (show ¬ zI (n : Int) = (5 : Int32) from fun z => absurd ((zI_eq (a := (n : Int)) (b := 5) (by omega) (by omega) (by omega) (by omega)).mp z) (by omega))]
  obtain ⟨g', k', y', s', u', o', p', e1, J1', ho'⟩ := add_z q J1 ho a b c' d e
  obtain ⟨L1, e2, l0, l1, l2, l3, l4, lk⟩ := lays_z q (zI a) (zI b) (zI c') (zI d) (zI e) now
  obtain ⟨L2, e3, l5, l6, lg, lr⟩ := comes_z q L1
  rw [e1, e2, Option.bind_some, e3]
  simp only [bd8, bd2, Option.bind_some]
  refine ⟨_, 0, n + 1, nvAdd n nv a b c' d e, g', k', y', s', u', o', p', L2, _, rfl, rfl, ⟨by omega, nvAdd_ok hv hf, hA, hB⟩, ⟨J1', ho', rfl, rfl, rfl⟩, ⟨fun i hi p hp => ?_, rfl, rfl, rfl⟩, Or.inl rfl⟩
  by_cases z : i = n
  · subst z
    rcases (by omega : p = 0 ∨ p = 1 ∨ p = 2 ∨ p = 3 ∨ p = 4 ∨ p = 5 ∨ p = 6) with rfl | rfl | rfl | rfl | rfl | rfl | rfl
    · rw [lr _ (by omega) (by omega) (by omega), l0]; exact congrArg zI (nvAdd_new 0).symm
    · rw [lr _ (by omega) (by omega) (by omega), l1]; exact congrArg zI (nvAdd_new 1).symm
    · rw [lr _ (by omega) (by omega) (by omega), l2]; exact congrArg zI (nvAdd_new 2).symm
    · rw [lr _ (by omega) (by omega) (by omega), l3]; exact congrArg zI (nvAdd_new 3).symm
    · rw [lr _ (by omega) (by omega) (by omega), l4]; exact congrArg zI (nvAdd_new 4).symm
    · rw [l5]; exact congrArg zI (nvAdd_new 5).symm
    · rw [l6]; exact congrArg zI (nvAdd_new 6).symm
  · by_cases x : i + 1 = n ∧ p = 6
    · have hi' : i = n - 1 := by omega
      rw [x.2, nvAdd_gap x.1, hi', lg (by omega)]; rfl
    · rw [nvAdd_old z x, lr _ (by omega) (by omega) (by omega), lk _ (by omega)]
      exact h i (by omega) p hp
end OPS12
