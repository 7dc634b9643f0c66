/-! BUILDING the joint: alters -/
section OPS14
variable {n : Nat} {nv : Nat → Nat → Int} {A B : Int} {F : Nat} {g c y s u pit o now : Nat → Int32}
def nvAlt (k : Nat) (nv : Nat → Nat → Int) (a b c d e : Int) : Nat → Nat → Int := fun i q => if i = k ∧ q < 5 then (if q = 0 then a else if q = 1 then b else if q = 2 then c else if q = 3 then d else e) else nv i q
theorem nvAlt_keep {k : Nat} {a b c d e : Int} {i q : Nat} (h : ¬ (i = k ∧ q < 5)) : nvAlt k nv a b c d e i q = nv i q := if_neg h
theorem nvAlt_new {k : Nat} {a b c d e : Int} (q : Nat) (h : q < 5) : nvAlt k nv a b c d e k q = (if q = 0 then a else if q = 1 then b else if q = 2 then c else if q = 3 then d else e) := if_pos ⟨rfl, h⟩
def df (x z : Int) : Int := if x = z then 0 else 1
theorem df_bd (x z : Int) : 0 ≤ df x z ∧ df x z ≤ 1 := by
  unfold df; by_cases q : x = z
  · rw [if_pos q]; omega
  · rw [if_neg q]; omega
theorem df_ite {α : Type} {x z : Int} (hx : -2147483648 ≤ x ∧ x ≤ 2147483647) (hz : -2147483648 ≤ z ∧ z ≤ 2147483647) (f : Int32 → α) : (if zI x = zI z then f (0 : Int32) else f (1 : Int32)) = f (zI (df x z)) := by
  unfold df
  by_cases q : x = z
  · rw [if_pos q, if_pos (show zI x = zI z by rw [q])]; rfl
  · rw [if_neg q, if_neg (fun w => q ((zI_eq hx.1 hx.2 hz.1 hz.2).mp w))]; rfl
theorem updI_alt {f : Nat → Int32} {k q : Nat} {a b c d e x : Int} (h : ∀ i, i < n → f i = zI (nv i q)) (hq : q < 5) (hx : nvAlt k nv a b c d e k q = x) : ∀ i, i < n → upd f k (zI x) i = zI (nvAlt k nv a b c d e i q) := by
  intro i hi
  rw [upd_at]
  by_cases z : i = k
  · rw [if_pos z, z, hx]
  · rw [if_neg z, nvAlt_keep (fun w => z w.1)]; exact h i hi
theorem nvAlt_ok (hv : NvOk n nv) {k : Nat} {a b c' d e : Int} (hf : Fair a b c' d e) : NvOk n (nvAlt k nv a b c' d e) := by
  intro i hi
  have w := hv i hi
  rw [nvAlt_keep (q := 5) (by omega), nvAlt_keep (q := 6) (by omega)]
  by_cases z : i = k
  · subst z
    have q0 : nvAlt i nv a b c' d e i 0 = a := nvAlt_new 0 (by omega)
    have q1 : nvAlt i nv a b c' d e i 1 = b := nvAlt_new 1 (by omega)
    have q2 : nvAlt i nv a b c' d e i 2 = c' := nvAlt_new 2 (by omega)
    have q3 : nvAlt i nv a b c' d e i 3 = d := nvAlt_new 3 (by omega)
    have q4 : nvAlt i nv a b c' d e i 4 = e := nvAlt_new 4 (by omega)
    unfold Fair at hf
    omega
  · rw [nvAlt_keep (q := 0) (by omega), nvAlt_keep (q := 1) (by omega), nvAlt_keep (q := 2) (by omega), nvAlt_keep (q := 3) (by omega), nvAlt_keep (q := 4) (by omega)]
    exact w
theorem alt_aside (hn : n ≤ 5) (hF : 10 < F) {k : Nat} (hk : k < n) (h : ∀ i, i < n → ∀ q, q < 7 → now (7 * i + q) = zI (nv i q)) (as : Nat → Int32) : ∃ as' : Nat → Int32, iter (un2 (fb_M_alters_35 (zI (k : Int)) now)) F ((0 : Int32), as) = some as' ∧ ∀ q, q < 5 → as' q = zI (nv k q) := by
  refine iter_for (body := un2 (fb_M_alters_35 (zI (k : Int)) now)) (F := F) (s := ((0 : Int32), as)) (fun j z => ∃ t : Nat → Int32, z = (zI (j : Int), t) ∧ ∀ q, q < j → t q = zI (nv k q)) (fun t => ∀ q, q < 5 → t q = zI (nv k q)) 5 (by omega) ⟨as, rfl, fun q hq => absurd hq (Nat.not_lt_zero q)⟩ ?_ ?_
  · rintro j z hj ⟨t, rfl, ht⟩
    dsimp only [un2]
    unfold fb_M_alters_35
    rw [if_neg (show ¬ (4 : Int32) < zI (j : Int) from fun w => absurd ((zI_lt (a := 4) (b := (j : Int)) (by omega) (by omega) (by omega) (by omega)).mp w) (by omega)), of_z hn h hk (show j < 7 by omega), Option.bind_some, stI_z (f := t) (j := j) (by omega) (by omega), Option.bind_some]
    simp only [nm, zI_1]
    refine ⟨_, rfl, upd t j (zI (nv k j)), rfl, fun q hq => ?_⟩
    rw [upd_at]
    by_cases w : q = j
    · rw [if_pos w, w]
    · rw [if_neg w]; exact ht q (by omega)
  · rintro z ⟨t, rfl, ht⟩
    dsimp only [un2]
    unfold fb_M_alters_35
    rw [if_pos (show (4 : Int32) < zI ((5 : Nat) : Int) from (zI_lt (a := 4) (b := ((5 : Nat) : Int)) (by omega) (by omega) (by omega) (by omega)).mpr (by omega))]
    exact ⟨t, rfl, ht⟩
theorem alt_count (hn : n ≤ 5) (hF : 10 < F) (hv : NvOk n nv) {nv' : Nat → Nat → Int} (hv' : NvOk n nv') {k : Nat} (hk : k < n) {L as : Nat → Int32} (h : ∀ i, i < n → ∀ q, q < 7 → L (7 * i + q) = zI (nv' i q)) (ha : ∀ q, q < 5 → as q = zI (nv k q)) : iter (un2 (fb_M_alters_77 (zI (k : Int)) L as)) F ((0 : Int32), (0 : Int32)) = some (zI (sm (fun q => df (nv k q) (nv' k q)) 5)) := by
  have loop := iter_for (body := un2 (fb_M_alters_77 (zI (k : Int)) L as)) (F := F) (s := ((0 : Int32), (0 : Int32))) (fun j z => z = (zI (sm (fun q => df (nv k q) (nv' k q)) j), zI (j : Int))) (fun t => t = zI (sm (fun q => df (nv k q) (nv' k q)) 5)) 5 (by omega) rfl ?_ ?_
  · obtain ⟨q, e, rfl⟩ := loop
    exact e
  · rintro j z hj rfl
    have v := hv k hk
    have v' := hv' k hk
    have b1 : -2147483648 ≤ nv k j ∧ nv k j ≤ 2147483647 := by
      rcases (by omega : j = 0 ∨ j = 1 ∨ j = 2 ∨ j = 3 ∨ j = 4) with rfl | rfl | rfl | rfl | rfl <;> omega
    have b2 : -2147483648 ≤ nv' k j ∧ nv' k j ≤ 2147483647 := by
      rcases (by omega : j = 0 ∨ j = 1 ∨ j = 2 ∨ j = 3 ∨ j = 4) with rfl | rfl | rfl | rfl | rfl <;> omega
    dsimp only [un2]
    unfold fb_M_alters_77
    rw [if_neg (show ¬ (4 : Int32) < zI (j : Int) from fun w => absurd ((zI_lt (a := 4) (b := (j : Int)) (by omega) (by omega) (by omega) (by omega)).mp w) (by omega)), ldA_z (f := as) (j := j) (by omega) (by omega), Option.bind_some, of_z hn h hk (show j < 7 by omega), Option.bind_some, ha j hj, df_ite b1 b2 (fun w => fj_M_alters_107 (zI (j : Int)) (zI (sm (fun q => df (nv k q) (nv' k q)) j)) w)]
    unfold fj_M_alters_107
    simp only [nm, zI_1, zI_add]
    exact ⟨_, rfl, rfl⟩
  · rintro z rfl
    dsimp only [un2]
    unfold fb_M_alters_77
    rw [if_pos (show (4 : Int32) < zI ((5 : Nat) : Int) from (zI_lt (a := 4) (b := ((5 : Nat) : Int)) (by omega) (by omega) (by omega) (by omega)).mpr (by omega))]
    exact ⟨_, rfl, rfl⟩
theorem op_alters (hJt : Jt n nv A B) (hF : 300 < F) {bn ju jl many mu ml : Int32} (J : JX n nv A B g c y s u o pit bn ju jl) (X : MX n nv A B now many mu ml) (x1 x2 x3 x4 x5 x6 kn th : Int32) (as : Nat → Int32) :
    ∃ (r kn' : Int32) (nv' : Nat → Nat → Int) (g' k' y' s' u' now' as' : Nat → Int32), f_X_alters x1 x2 x3 x4 x5 x6 kn g c y s u bn = some (r, kn', g', k', y', s', u') ∧ f_M_alters F x1 x2 x3 x4 x5 x6 now many th as = some (r, now', (0 : Int32), as') ∧ Jt n nv' A B ∧ JX n nv' A B g' k' y' s' u' o pit bn ju jl ∧ MX n nv' A B now' many mu ml ∧ (kn' = 0 ∨ kn' = kn ∧ nv' = nv) := by
  obtain ⟨i, rfl, hi⟩ := zI_all x1
  obtain ⟨a, rfl, ha⟩ := zI_all x2
  obtain ⟨b, rfl, hb⟩ := zI_all x3
  obtain ⟨c', rfl, hc⟩ := zI_all x4
  obtain ⟨d, rfl, hd⟩ := zI_all x5
  obtain ⟨e, rfl, he⟩ := zI_all x6
  obtain ⟨J1, ho, rfl, rfl, rfl⟩ := J
  obtain ⟨h, rfl, rfl, rfl⟩ := X
  obtain ⟨hn, hv, hA, hB⟩ := hJt
  unfold f_X_alters f_M_alters
  rw [has_z hn hi, isBolt_z hn hi, Option.bind_some, Option.bind_some]
  by_cases q1 : 0 ≤ i ∧ i < n
  rotate_left
  · rw [if_pos (b01_ne0.mpr q1), if_pos (b01_ne0.mpr q1)]
    exact ⟨_, kn, nv, g, c, y, s, u, now, as, rfl, rfl, ⟨hn, hv, hA, hB⟩, ⟨J1, ho, rfl, rfl, rfl⟩, ⟨h, rfl, rfl, rfl⟩, Or.inr ⟨rfl, rfl⟩⟩
  rw [if_neg (fun z => (b01_ne0.mp z) q1), if_neg (fun z => (b01_ne0.mp z) q1)]
  obtain ⟨k, rfl⟩ : ∃ k : Nat, i = (k : Int) := ⟨i.toNat, by omega⟩
  have hk : k < n := by omega
  rcases fair_z ha hb hc hd he with ⟨f1, f2, hf⟩ | ⟨f1, f2⟩
  rotate_left
  · rw [f1, f2, Option.bind_some, Option.bind_some, if_pos rfl, if_pos rfl]
    exact ⟨_, kn, nv, g, c, y, s, u, now, as, rfl, rfl, ⟨hn, hv, hA, hB⟩, ⟨J1, ho, rfl, rfl, rfl⟩, ⟨h, rfl, rfl, rfl⟩, Or.inr ⟨rfl, rfl⟩⟩
  rw [f1, f2, Option.bind_some, Option.bind_some, if_neg (show ¬ (1 : Int32) = 0 by decide), if_neg (show ¬ (1 : Int32) = 0 by decide)]
  have v := hv k hk
  have q0 : nvAlt k nv a b c' d e k 0 = a := nvAlt_new 0 (by omega)
  have q1 : nvAlt k nv a b c' d e k 1 = b := nvAlt_new 1 (by omega)
  have q2 : nvAlt k nv a b c' d e k 2 = c' := nvAlt_new 2 (by omega)
  have q3 : nvAlt k nv a b c' d e k 3 = d := nvAlt_new 3 (by omega)
  have q4 : nvAlt k nv a b c' d e k 4 = e := nvAlt_new 4 (by omega)
  have hv' : NvOk n (nvAlt k nv a b c' d e) := nvAlt_ok hv hf
  obtain ⟨as', ea, hq⟩ := alt_aside (F := F) hn (by omega) hk h as
  obtain ⟨L, el, l0, l1, l2, l3, l4, lk⟩ := lays_z (k := k) (by omega) (zI a) (zI b) (zI c') (zI d) (zI e) now
  have h' : ∀ i, i < n → ∀ q, q < 7 → L (7 * i + q) = zI (nvAlt k nv a b c' d e i q) := by
    intro i hi q hq
    by_cases z : i = k ∧ q < 5
    · obtain ⟨rfl, z2⟩ := z
      rcases (by omega : q = 0 ∨ q = 1 ∨ q = 2 ∨ q = 3 ∨ q = 4) with rfl | rfl | rfl | rfl | rfl
      · rw [l0, q0]
      · rw [l1, q1]
      · rw [l2, q2]
      · rw [l3, q3]
      · rw [l4, q4]
    · rw [nvAlt_keep z, lk _ (by omega)]; exact h i hi q hq
  have ec := alt_count (F := F) hn (by omega) hv hv' hk h' hq
  have es : sm (fun q => df (nv k q) (nvAlt k nv a b c' d e k q)) 5 = df (nv k 0) a + df (nv k 1) b + df (nv k 2) c' + df (nv k 3) d + df (nv k 4) e := by
    rw [sm_s, sm_s, sm_s, sm_s, sm_s, q0, q1, q2, q3, q4, show sm (fun q => df (nv k q) (nvAlt k nv a b c' d e k q)) 0 = 0 from rfl]; omega
  rw [es] at ec
  obtain ⟨j1, j2, j3, j4, j5, j6⟩ := J1
  have d0 := df_bd (nv k 0) a
  have d1 := df_bd (nv k 1) b
  have d2 := df_bd (nv k 2) c'
  have d3 := df_bd (nv k 3) d
  have d4 := df_bd (nv k 4) e
  rw [ea, Option.bind_some, el, Option.bind_some, ec, Option.bind_some, ldA_z (f := g) (j := k) (by omega) (by omega), Option.bind_some, j1 k hk, df_ite (by omega) ha (fun w => fj_X_alters_45 (zI (k : Int)) (zI a) (zI b) (zI c') (zI d) (zI e) w kn g c y s u)]
  unfold fj_X_alters_45
  rw [ldA_z (f := c) (j := k) (by omega) (by omega), Option.bind_some, j2 k hk, df_ite (by omega) hb (fun w => fj_X_alters_63 (zI (k : Int)) (zI a) (zI b) (zI c') (zI d) (zI e) (zI (df (nv k 0) a)) w kn g c y s u)]
  unfold fj_X_alters_63
  rw [ldA_z (f := y) (j := k) (by omega) (by omega), Option.bind_some, j3 k hk, df_ite (by omega) hc (fun w => fj_X_alters_83 (zI (k : Int)) (zI a) (zI b) (zI c') (zI d) (zI e) (zI (df (nv k 0) a) + zI (df (nv k 1) b)) w kn g c y s u)]
  unfold fj_X_alters_83
  rw [ldA_z (f := s) (j := k) (by omega) (by omega), Option.bind_some, j4 k hk, df_ite (by omega) hd (fun w => fj_X_alters_103 (zI (k : Int)) (zI a) (zI b) (zI c') (zI d) (zI e) (zI (df (nv k 0) a) + zI (df (nv k 1) b) + zI (df (nv k 2) c')) w kn g c y s u)]
  unfold fj_X_alters_103
  rw [ldA_z (f := u) (j := k) (by omega) (by omega), Option.bind_some, j5 k hk, df_ite (by omega) he (fun w => fj_X_alters_123 (zI (k : Int)) (zI a) (zI b) (zI c') (zI d) (zI e) (zI (df (nv k 0) a) + zI (df (nv k 1) b) + zI (df (nv k 2) c') + zI (df (nv k 3) d)) w kn g c y s u)]
  unfold fj_X_alters_123
  simp only [nm, zI_add]
  have hz : zI (df (nv k 0) a + df (nv k 1) b + df (nv k 2) c' + df (nv k 3) d + df (nv k 4) e) = (0 : Int32) ↔ df (nv k 0) a + df (nv k 1) b + df (nv k 2) c' + df (nv k 3) d + df (nv k 4) e = 0 := by
    rw [i0]; exact zI_eq (by omega) (by omega) (by omega) (by omega)
  by_cases w : df (nv k 0) a + df (nv k 1) b + df (nv k 2) c' + df (nv k 3) d + df (nv k 4) e = 0
  · have same : ∀ x z, df x z = 0 → z = x := fun x z t => by
      unfold df at t
      by_cases q : x = z
      · exact q.symm
      · rw [if_neg q] at t; omega
    have s0 := same _ _ (show df (nv k 0) a = 0 by omega)
    have s1 := same _ _ (show df (nv k 1) b = 0 by omega)
    have s2 := same _ _ (show df (nv k 2) c' = 0 by omega)
    have s3 := same _ _ (show df (nv k 3) d = 0 by omega)
    have s4 := same _ _ (show df (nv k 4) e = 0 by omega)
    rw [if_pos (hz.mpr w), if_pos (hz.mpr w)]
    refine ⟨_, kn, nv, g, c, y, s, u, L, as', rfl, rfl, ⟨hn, hv, hA, hB⟩, ⟨⟨j1, j2, j3, j4, j5, j6⟩, ho, rfl, rfl, rfl⟩, ⟨fun i hi q hq => ?_, rfl, rfl, rfl⟩, Or.inr ⟨rfl, rfl⟩⟩
    rw [h' i hi q hq]
    by_cases z : i = k ∧ q < 5
    · obtain ⟨rfl, z2⟩ := z
      rcases (by omega : q = 0 ∨ q = 1 ∨ q = 2 ∨ q = 3 ∨ q = 4) with rfl | rfl | rfl | rfl | rfl
      · rw [q0, s0]
      · rw [q1, s1]
      · rw [q2, s2]
      · rw [q3, s3]
      · rw [q4, s4]
    · rw [nvAlt_keep z]
  · rw [if_neg (fun z => w (hz.mp z)), if_neg (fun z => w (hz.mp z))]
    unfold f_J_write
    rw [stI_z (f := g) (j := k) (by omega) (by omega), Option.bind_some, stI_z (f := c) (j := k) (by omega) (by omega), Option.bind_some, stI_z (f := y) (j := k) (by omega) (by omega), Option.bind_some, stI_z (f := s) (j := k) (by omega) (by omega), Option.bind_some, stI_z (f := u) (j := k) (by omega) (by omega), Option.bind_some]
    simp only [bd5, Option.bind_some]
    exact ⟨_, 0, nvAlt k nv a b c' d e, upd g k (zI a), upd c k (zI b), upd y k (zI c'), upd s k (zI d), upd u k (zI e), L, as', rfl, rfl, ⟨hn, hv', hA, hB⟩, ⟨⟨updI_alt j1 (by omega) q0, updI_alt j2 (by omega) q1, updI_alt j3 (by omega) q2, updI_alt j4 (by omega) q3, updI_alt j5 (by omega) q4, fun i hi => (j6 i hi).trans (by rw [nvAlt_keep (by omega)])⟩, fun i hi => (ho i hi).trans (by rw [nvAlt_keep (by omega)]), rfl, rfl, rfl⟩, ⟨h', rfl, rfl, rfl⟩, Or.inl rfl⟩
end OPS14
