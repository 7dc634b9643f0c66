/-! TOOLS OF THE CALLS: numbers, loads, bolts, the row -/
theorem zI_all (x : Int32) : ∃ p : Int, x = zI p ∧ -2147483648 ≤ p ∧ p ≤ 2147483647 :=
  ⟨x.toInt, (Int32.ofInt_toInt x).symm, by have := Int32.le_toInt x; omega, by have := Int32.toInt_lt x; omega⟩
def b01 (c : Prop) [Decidable c] : Int := if c then 1 else 0
theorem b01_t {c : Prop} [Decidable c] (h : c) : b01 c = 1 := if_pos h
theorem b01_f {c : Prop} [Decidable c] (h : ¬ c) : b01 c = 0 := if_neg h
theorem bz_b01 (c : Prop) [Decidable c] : bzO (zI (b01 c)) = some (zI (b01 c)) := by
  by_cases h : c
  · rw [b01_t h]; rfl
  · rw [b01_f h]; rfl
theorem within_z {v a b : Int} (h1 : -2147483648 ≤ v ∧ v ≤ 2147483647) (h2 : -2147483648 ≤ a ∧ a ≤ 2147483647) (h3 : -2147483648 ≤ b ∧ b ≤ 2147483647) : f_X_within (zI v) (zI a) (zI b) = some (zI (b01 (a ≤ v ∧ v ≤ b))) := by
  unfold f_X_within
  by_cases c : v < a
  · rw [if_pos (by rw [zI_lt (by omega) (by omega) (by omega) (by omega)]; exact c), b01_f (by omega)]; rfl
  · rw [if_neg (by rw [zI_lt (by omega) (by omega) (by omega) (by omega)]; exact c)]
    by_cases d : b < v
    · rw [if_pos (by rw [zI_lt (by omega) (by omega) (by omega) (by omega)]; exact d), b01_f (by omega)]; rfl
    · rw [if_neg (by rw [zI_lt (by omega) (by omega) (by omega) (by omega)]; exact d), b01_t (by omega)]; rfl
theorem in_z {v a b : Int} (h1 : -9223372036854775808 ≤ v ∧ v ≤ 9223372036854775807) (h2 : -9223372036854775808 ≤ a ∧ a ≤ 9223372036854775807) (h3 : -9223372036854775808 ≤ b ∧ b ≤ 9223372036854775807) : f_M_in (zL v) (zL a) (zL b) = some (zI (b01 (a ≤ v ∧ v ≤ b))) := by
  unfold f_M_in
  by_cases c : v < a
  · rw [if_pos (by rw [zL_lt (by omega) (by omega) (by omega) (by omega)]; exact c), b01_f (by omega)]; rfl
  · rw [if_neg (by rw [zL_lt (by omega) (by omega) (by omega) (by omega)]; exact c)]
    by_cases d : b < v
    · rw [if_pos (by rw [zL_lt (by omega) (by omega) (by omega) (by omega)]; exact d), b01_f (by omega)]; rfl
    · rw [if_neg (by rw [zL_lt (by omega) (by omega) (by omega) (by omega)]; exact d), b01_t (by omega)]; rfl
theorem b01_congr {c d : Prop} [Decidable c] [Decidable d] (h : c ↔ d) : b01 c = b01 d := by
  by_cases q : c
  · rw [b01_t q, b01_t (h.mp q)]
  · rw [b01_f q, b01_f (fun w => q (h.mpr w))]
theorem isLoad_z {p : Int} (h1 : -2147483648 ≤ p ∧ p ≤ 2147483647) : f_X_isLoad (zI p) = some (zI (b01 (0 ≤ p ∧ p ≤ 300))) := by
  unfold f_X_isLoad
  rw [i0, show (300 : Int32) = zI 300 from rfl, within_z h1 (by omega) (by omega), Option.bind_some, bz_b01, Option.bind_some]
theorem misLoad_z {p : Int} (h1 : -2147483648 ≤ p ∧ p ≤ 2147483647) : f_M_isLoad (zI p) = some (zI (b01 (0 ≤ p ∧ p ≤ 300))) := by
  unfold f_M_isLoad
  rw [zI_l h1.1 h1.2, l0z, show (300 : Int64) = zL 300 from rfl, in_z (by omega) (by omega) (by omega), Option.bind_some, bz_b01, Option.bind_some]
theorem has_z {n : Nat} (hn : n ≤ 5) {i : Int} (h1 : -2147483648 ≤ i ∧ i ≤ 2147483647) : f_J_has (zI i) (zI (n : Int)) = some (zI (b01 (0 ≤ i ∧ i < n))) := by
  unfold f_J_has
  by_cases c : i < 0
  · rw [if_pos (by rw [i0, zI_lt (by omega) (by omega) (by omega) (by omega)]; exact c), b01_f (by omega)]; rfl
  · rw [if_neg (by rw [i0, zI_lt (by omega) (by omega) (by omega) (by omega)]; exact c)]
    by_cases d : (n : Int) ≤ i
    · rw [if_pos (by rw [zI_le (by omega) (by omega) (by omega) (by omega)]; exact d), b01_f (by omega)]; rfl
    · rw [if_neg (by rw [zI_le (by omega) (by omega) (by omega) (by omega)]; exact d), if_neg (by rw [i5, zI_le (by omega) (by omega) (by omega) (by omega)]; omega), b01_t (by omega)]; rfl
theorem b01_ne0 {c : Prop} [Decidable c] : zI (b01 c) = (0 : Int32) ↔ ¬ c := by
  by_cases h : c
  · rw [b01_t h]; exact ⟨fun w => absurd w (by decide), fun w => absurd h w⟩
  · rw [b01_f h]; exact ⟨fun _ => h, fun _ => rfl⟩
theorem hasGap_z {n : Nat} (hn : n ≤ 5) {i : Int} (h1 : -2147483648 ≤ i ∧ i ≤ 2147483647) : f_J_hasGap (zI i) (zI (n : Int)) = some (zI (b01 (0 ≤ i ∧ i + 1 < n))) := by
  unfold f_J_hasGap
  rw [has_z hn h1, Option.bind_some]
  by_cases c : 0 ≤ i ∧ i < n
  · rw [if_neg (fun w => (b01_ne0.mp w) c), i1, zI_add, has_z hn (by omega), Option.bind_some]
    by_cases d : i + 1 < n
    · rw [if_neg (fun w => (b01_ne0.mp w) (by omega)), b01_t (by omega)]
      try rfl
    · rw [if_pos (b01_ne0.mpr (by omega)), b01_f (by omega)]; rfl
  · rw [if_pos (b01_ne0.mpr c), b01_f (by omega)]; rfl
theorem isBolt_z {n : Nat} (hn : n ≤ 5) {i : Int} (h1 : -2147483648 ≤ i ∧ i ≤ 2147483647) : f_M_isBolt (zI i) (zI (n : Int)) = some (zI (b01 (0 ≤ i ∧ i < n))) := by
  unfold f_M_isBolt
  rw [i1, zI_sub, zI_l h1.1 h1.2, zI_l (by omega) (by omega), l0z, in_z (by omega) (by omega) (by omega), Option.bind_some, bz_b01, Option.bind_some]
  exact congrArg (fun x => some (zI x)) (b01_congr (by omega))
/-! the row -/
def RowC (l : List Int) (nu : Nat → Int64) (sz : Int32) : Prop := sz = zI (l.length : Int) ∧ ∀ k e, l[k]? = some e → nu k = zL e
theorem RowC.nil (nu : Nat → Int64) : RowC [] nu 0 := ⟨rfl, fun k e h => by simp at h⟩
theorem RowC.add {l : List Int} {nu : Nat → Int64} {sz : Int32} (h : RowC l nu sz) (v : Int) : RowC (l ++ [v]) (vp_updL nu l.length (zL v)) (zI ((l.length + 1 : Nat) : Int)) := by
  refine ⟨by rw [List.length_append]; rfl, fun k e hk => ?_⟩
  rw [updL_at]
  by_cases q : k = l.length
  · subst q
    rw [List.getElem?_append_right (Nat.le_refl _), Nat.sub_self] at hk
    cases hk
    rw [if_pos rfl]
  · rw [if_neg q]
    by_cases q2 : k < l.length
    · rw [List.getElem?_append_left q2] at hk
      exact h.2 k e hk
    · rw [List.getElem?_eq_none (by rw [List.length_append]; show l.length + 1 ≤ k; omega)] at hk
      cases hk
theorem whole_z {l : List Int} {nu : Nat → Int64} {sz : Int32} (h : RowC l nu sz) (hl : l.length < 8) (v : Int) : ∃ nu' sz', f_R_whole (zL v) nu sz = some (nu', sz') ∧ RowC (l ++ [v]) nu' sz' := by
  refine ⟨_, _, ?_, h.add v⟩
  unfold f_R_whole
  rw [h.1, show (8 : Int32) = zI 8 from rfl, if_neg (by rw [zI_le (by omega) (by omega) (by omega) (by omega)]; omega)]
  simp only [nm, zI_1]
  rw [stL_z hl (by omega), Option.bind_some]
theorem tell_z {l : List Int} {nu : Nat → Int64} {sz : Int32} (h : RowC l nu sz) (hl : l.length < 64) (v : Int) : ∃ nu' sz', f_M_tell (zL v) nu sz = some (nu', sz') ∧ RowC (l ++ [v]) nu' sz' := by
  refine ⟨_, _, ?_, h.add v⟩
  unfold f_M_tell
  rw [h.1, stL_z hl (by omega), Option.bind_some]
  simp only [nm, zI_1]
theorem red_div {o u : Int} (h1 : -9223372036854775808 < o) (h2 : o < 9223372036854775808) (hu : 0 < u) (hu2 : u < 9223372036854775808) : 0 < (Int.gcd o u : Int) ∧ (Int.gcd o u : Int) ≤ u ∧ dvL (zL o) (zL (Int.gcd o u : Int)) = some (zL (red o u).1) ∧ dvL (zL u) (zL (Int.gcd o u : Int)) = some (zL (red o u).2) := by
  obtain ⟨t, t1, t0, t2, t3, t4, t5, -, -, -⟩ := red_ok (o := o) hu
  have ht : t ≤ u := by
    have := Int.mul_le_mul_of_nonneg_left (show 1 ≤ (red o u).2 by omega) (show 0 ≤ t by omega)
    omega
  have d1 : dvL (zL o) (zL t) = some (zL (red o u).1) := by
    have := dvL_ex (b := t) (q := (red o u).1) t1 (by omega) (by omega) (by omega)
    rwa [← t2] at this
  have d2 : dvL (zL u) (zL t) = some (zL (red o u).2) := by
    have := dvL_ex (b := t) (q := (red o u).2) t1 (by omega) (by omega) (by omega)
    rwa [← t3] at this
  rw [← t0]
  exact ⟨t1, ht, d1, d2⟩
def fra (o u : Int) : List Int := [(red o u).1, (red o u).2]
theorem fraction_z {l : List Int} {nu : Nat → Int64} {sz : Int32} {F : Nat} (hF : 100 < F) (h : RowC l nu sz) (hl : l.length + 2 ≤ 8) {o u : Int} (h1 : -9223372036854775808 < o) (h2 : o < 9223372036854775808) (hu : 0 < u) (hu2 : u < 9223372036854775808) : ∃ nu' sz', f_R_fraction F (zL o) (zL u) nu sz = some (nu', sz') ∧ RowC (l ++ fra o u) nu' sz' := by
  obtain ⟨g1, g2, d1, d2⟩ := red_div h1 h2 hu hu2
  obtain ⟨nu1, sz1, e1, r1⟩ := whole_z h (by omega) (red o u).1
  obtain ⟨nu2, sz2, e2, r2⟩ := whole_z r1 (by rw [List.length_append]; show l.length + 1 < 8; omega) (red o u).2
  refine ⟨nu2, sz2, ?_, by rw [List.append_assoc] at r2; exact r2⟩
  unfold f_R_fraction
  rw [divisor_z hF h1 h2 (by omega) hu2, Option.bind_some, if_neg (by rw [l0z, zL_eq (by omega) (by omega) (by omega) (by omega)]; omega)]
  unfold fj_R_fraction_17
  rw [d1, Option.bind_some, e1]
  simp only [bd2, Option.bind_some]
  rw [d2, Option.bind_some, e2]
  rfl
theorem tellFraction_z {l : List Int} {nu : Nat → Int64} {sz : Int32} {F : Nat} (hF : 100 < F) (h : RowC l nu sz) (hl : l.length + 2 ≤ 64) {o u : Int} (h1 : -9223372036854775808 < o) (h2 : o < 9223372036854775808) (hu : 0 < u) (hu2 : u < 9223372036854775808) : ∃ nu' sz', f_M_tellFraction F (zL o) (zL u) nu sz = some (nu', sz') ∧ RowC (l ++ fra o u) nu' sz' := by
  obtain ⟨g1, g2, d1, d2⟩ := red_div h1 h2 hu hu2
  obtain ⟨nu1, sz1, e1, r1⟩ := tell_z h (by omega) (red o u).1
  obtain ⟨nu2, sz2, e2, r2⟩ := tell_z r1 (by rw [List.length_append]; show l.length + 1 < 64; omega) (red o u).2
  refine ⟨nu2, sz2, ?_, by rw [List.append_assoc] at r2; exact r2⟩
  have main : fj_M_tellFraction_15 (zL o) (zL u) (zL (Int.gcd o u : Int)) nu sz = some (nu2, sz2) := by
    unfold fj_M_tellFraction_15
    rw [d1, Option.bind_some, e1]
    simp only [bd2, Option.bind_some]
    rw [d2, Option.bind_some, e2]
    rfl
  unfold f_M_tellFraction
  by_cases q : o = 0
  · rw [if_pos (by rw [q]; rfl)]
    have : (Int.gcd o u : Int) = u := by rw [q, Int.gcd_zero_left]; omega
    rw [this] at main
    exact main
  · rw [if_neg (by rw [l0z, zL_eq (by omega) (by omega) (by omega) (by omega)]; exact q), common_z hF h1 h2 hu hu2, Option.bind_some]
    exact main
/-! events: bolts that are left at a load -/
theorem bit_clr0 : ∀ m : Nat, m < 32 → ∀ c : Nat, c < 5 → zI (m : Int) &&& (((1 : Int32) <<< (zI (c : Int) &&& 31)) ^^^ (-1 : Int32)) = zI ((clr m c : Nat) : Int) := by decide +kernel
def lftp (m0 : Nat) (L : List (Int × Nat × Int × Int)) (p : Int) : Nat := L.foldl (fun m e => if e.1 = 2 ∧ e.2.2.1 ≤ p * e.2.2.2 then clr m e.2.1 else m) m0
theorem lftp_app (m0 : Nat) (L L' : List (Int × Nat × Int × Int)) (p : Int) : lftp m0 (L ++ L') p = lftp (lftp m0 L p) L' p := List.foldl_append ..
theorem lftp_all {L : List (Int × Nat × Int × Int)} {p : Int} : ∀ {m0 : Nat}, (∀ e ∈ L, e.1 = 2 → e.2.2.1 ≤ p * e.2.2.2) → lftp m0 L p = lft m0 L := by
  induction L with
  | nil => intro m0 _; rfl
  | cons e L ih =>
    intro m0 h
    have he := h e (List.mem_cons_self ..)
    show lftp (if e.1 = 2 ∧ e.2.2.1 ≤ p * e.2.2.2 then clr m0 e.2.1 else m0) L p = lft (if e.1 = 2 then clr m0 e.2.1 else m0) L
    rw [ih (fun x hx => h x (List.mem_cons_of_mem _ hx))]
    by_cases q : e.1 = 2
    · rw [if_pos ⟨q, he q⟩, if_pos q]
    · rw [if_neg (fun w => q w.1), if_neg q]
theorem lftp_none {L : List (Int × Nat × Int × Int)} {p : Int} : ∀ {m0 : Nat}, (∀ e ∈ L, ¬ e.2.2.1 ≤ p * e.2.2.2) → lftp m0 L p = m0 := by
  induction L with
  | nil => intro m0 _; rfl
  | cons e L ih =>
    intro m0 h
    show lftp (if e.1 = 2 ∧ e.2.2.1 ≤ p * e.2.2.2 then clr m0 e.2.1 else m0) L p = m0
    rw [if_neg (fun w => h e (List.mem_cons_self ..) w.2)]
    exact ih (fun x hx => h x (List.mem_cons_of_mem _ hx))
theorem lftp_bd {L : List (Int × Nat × Int × Int)} {p : Int} : ∀ {x : Nat}, x < 32 → (∀ e ∈ L, e.2.1 < 5) → lftp x L p < 32 := by
  induction L with
  | nil => intro x hx _; exact hx
  | cons e L ih =>
    intro x hx h
    show lftp (if e.1 = 2 ∧ e.2.2.1 ≤ p * e.2.2.2 then clr x e.2.1 else x) L p < 32
    refine ih ?_ (fun z hz => h z (List.mem_cons_of_mem _ hz))
    by_cases q : e.1 = 2 ∧ e.2.2.1 ≤ p * e.2.2.2
    · rw [if_pos q]; exact clr_lt x hx _ (h e (List.mem_cons_self ..))
    · rw [if_neg q]; exact hx
theorem take_s {α : Type} {L : List α} {i : Nat} {e : α} (h : L[i]? = some e) : L.take (i + 1) = L.take i ++ [e] := by
  rw [List.take_add_one, h]; rfl
theorem getElem_of_lt {α : Type} {L : List α} {i : Nat} (h : i < L.length) : ∃ e, L[i]? = some e := ⟨L[i], List.getElem?_eq_getElem h⟩
section LEFT
variable {n : Nat} {nv : Nat → Nat → Int} {A B : Int} {F : Nat} {m : Nat} {P Q : Int} {L : List (Int × Nat × Int × Int)} {tot : Int32} {kd wh o : Nat → Int32} {ov un : Nat → Int64}
theorem leftAfter_z (hn : n ≤ 5) (hF : 20 < F) (hv : NvOk n nv) (ho : ∀ i, i < n → o i = zI (nv i 5)) (hE : EOk n nv m P Q L) (hZ : EvZ L tot kd wh ov un) {p : Int} (hp : 0 ≤ p ∧ p ≤ 300) :
    f_G_leftAfter F (zI p) tot kd wh ov un o (zI (n : Int)) = some (zI (lftp (snd0 n nv) L p : Int)) := by
  have es := sound_z (F := F) hn (by omega) hv ho
  have h32 : snd0 n nv < 32 := msk_32 _ hn
  have hlen := hE.2.2.2.2.1
  have loop := iter_for (body := un2 (fb_G_leftAfter_10 (zI p) tot kd wh ov un)) (F := F) (s := (zI (snd0 n nv : Int), (0 : Int32))) (fun i z => z = (zI (lftp (snd0 n nv) (L.take i) p : Int), zI (i : Int))) (fun q => q = zI (lftp (snd0 n nv) L p : Int)) L.length (by omega) rfl ?_ ?_
  · obtain ⟨q, e, rfl⟩ := loop
    unfold f_G_leftAfter
    rw [es, Option.bind_some]
    rw [show zI ((msk (fun i => decide (nv i 5 = 0)) n : Nat) : Int) = zI (snd0 n nv : Int) from rfl, e, Option.bind_some]
  · rintro i z hi rfl
    obtain ⟨e, he⟩ := getElem_of_lt hi
    have hmem : e ∈ L := List.mem_of_getElem? he
    obtain ⟨c1, c2, c3, c4, c5⟩ := hE.2.2.2.2.2.1 e hmem
    obtain ⟨z1, z2, z3, z4⟩ := hZ.2 i e he
    obtain ⟨l1, l2, l3, l4, l5⟩ := c3
    have hb := lftp_bd (L := L.take i) (p := p) h32 (fun x hx => by have := (hE.2.2.2.2.2.1 x (List.mem_of_mem_take hx)).2.1; omega)
    have ts : lftp (snd0 n nv) (L.take (i + 1)) p = if e.1 = 2 ∧ e.2.2.1 ≤ p * e.2.2.2 then clr (lftp (snd0 n nv) (L.take i) p) e.2.1 else lftp (snd0 n nv) (L.take i) p := by
      rw [take_s he, lftp_app]; rfl
    rw [ts]
    have mb := mul_bd hp.1 (show 0 ≤ e.2.2.2 by omega) hp.2 l4
    dsimp only [un2]
    unfold fb_G_leftAfter_10
    rw [hZ.1, if_neg (by rw [zI_le (by omega) (by omega) (by omega) (by omega)]; omega), ldA_z (by omega) (by omega), Option.bind_some, z1]
    by_cases q : e.1 = 2
    · rw [if_pos (by rw [q]; rfl), ldA_z (by omega) (by omega), Option.bind_some, ldA_z (by omega) (by omega), Option.bind_some, z3, z4, zI_l (by omega) (by omega), zL_mul]
      by_cases w : p * e.2.2.2 < e.2.2.1
      · rw [if_pos (by rw [zL_lt (by omega) (by omega) (by omega) (by omega)]; exact w), if_neg (by omega)]
        simp only [fj_G_leftAfter_60, nm, zI_1]
        exact ⟨_, rfl, rfl⟩
      · rw [if_neg (by rw [zL_lt (by omega) (by omega) (by omega) (by omega)]; exact w), ldA_z (by omega) (by omega), Option.bind_some, z2, if_pos ⟨q, by omega⟩]
        simp only [fj_G_leftAfter_60, nm, zI_1]
        rw [bit_clr0 _ hb _ (by omega)]
        exact ⟨_, rfl, rfl⟩
    · rw [if_neg (by rw [i2, zI_eq (by omega) (by omega) (by omega) (by omega)]; exact q), if_neg (fun w => q w.1)]
      simp only [fj_G_leftAfter_60, nm, zI_1]
      exact ⟨_, rfl, rfl⟩
  · rintro z rfl
    refine ⟨_, ?_, rfl⟩
    dsimp only [un2]
    unfold fb_G_leftAfter_10
    rw [hZ.1, if_pos (by rw [zI_le (by omega) (by omega) (by omega) (by omega)]; omega), List.take_length]
theorem compare_z {a b : Int} (h1 : -9223372036854775808 ≤ a ∧ a ≤ 9223372036854775807) (h2 : -9223372036854775808 ≤ b ∧ b ≤ 9223372036854775807) : f_JL_compare (zL a) (zL b) = some (zI (if b < a then 1 else if a = b then 0 else -1)) := by
  unfold f_JL_compare
  by_cases c : b ≤ a
  · rw [if_pos (by rw [zL_le (by omega) (by omega) (by omega) (by omega)]; exact c)]
    by_cases d : a = b
    · rw [if_pos (by rw [d]), if_neg (by omega), if_pos d]; rfl
    · rw [if_neg (by rw [zL_eq (by omega) (by omega) (by omega) (by omega)]; exact d), if_pos (by omega)]; rfl
  · rw [if_neg (by rw [zL_le (by omega) (by omega) (by omega) (by omega)]; exact c), if_neg (by omega), if_neg (by omega)]; rfl
/-- from a step on, all events are at the next load or later -/
theorem gs_from (hn : n ≤ 5) (hv : NvOk n nv) (hA : 0 ≤ A ∧ A ≤ 2) (hB : 0 ≤ B ∧ B ≤ 2) {k : Nat} (hz : ¬ (gs n nv A B k).1 = 0) : ∀ j, 0 < (nxt n nv A B (gs n nv A B k).2.1).2 ∧ (nxt n nv A B (gs n nv A B k).2.1).1 * (gs n nv A B (k + 1 + j)).2.2.2.1 ≤ (gs n nv A B (k + 1 + j)).2.2.1 * (nxt n nv A B (gs n nv A B k).2.1).2 ∧
    ∃ L', (gs n nv A B (k + 1 + j)).2.2.2.2 = (gs n nv A B k).2.2.2.2 ++ L' ∧ ∀ e ∈ L', (nxt n nv A B (gs n nv A B k).2.1).1 * e.2.2.2 ≤ e.2.2.1 * (nxt n nv A B (gs n nv A B k).2.1).2 := by
  intro j
  induction j with
  | zero =>
    obtain ⟨hG, -⟩ := (gs_ok hn hv hA hB k).2 hz
    obtain ⟨r1, r2, r3, r4, r5, ⟨L', r6, r7⟩, r8⟩ := gst_ok hn hv hA hB hG hz
    have hq := r1.1.2.2.1
    show 0 < _ ∧ _ * (gst n nv A B (gs n nv A B k)).2.2.2.1 ≤ (gst n nv A B (gs n nv A B k)).2.2.1 * _ ∧ ∃ L', (gst n nv A B (gs n nv A B k)).2.2.2.2 = _ ∧ _
    rw [← r3]
    refine ⟨hq, Int.le_refl _, L', r6, fun e he => ?_⟩
    rw [r7 e he]
    exact Int.le_refl _
  | succ j ih =>
    obtain ⟨q0, h1, L', h2, h3⟩ := ih
    show 0 < _ ∧ _ * (gst n nv A B (gs n nv A B (k + 1 + j))).2.2.2.1 ≤ (gst n nv A B (gs n nv A B (k + 1 + j))).2.2.1 * _ ∧ ∃ L', (gst n nv A B (gs n nv A B (k + 1 + j))).2.2.2.2 = _ ∧ _
    by_cases w : (gs n nv A B (k + 1 + j)).1 = 0
    · have e : gst n nv A B (gs n nv A B (k + 1 + j)) = gs n nv A B (k + 1 + j) := if_pos w
      rw [e]
      exact ⟨q0, h1, L', h2, h3⟩
    · obtain ⟨hE, hG⟩ := gs_ok hn hv hA hB (k + 1 + j)
      obtain ⟨r1, r2, r3, r4, r5, ⟨L2, r6, r7⟩, r8⟩ := gst_ok hn hv hA hB (hG w).1 w
      have hq := r1.1.2.2.1
      have hq2 := hE.1.2.2.1
      generalize gst n nv A B (gs n nv A B (k + 1 + j)) = S at *
      generalize gs n nv A B (k + 1 + j) = S0 at *
      generalize (nxt n nv A B (gs n nv A B k).2.1).1 = a at *
      generalize (nxt n nv A B (gs n nv A B k).2.1).2 = b at *
      have hle : a * S.2.2.2.1 ≤ S.2.2.1 * b := by
        refine Int.le_of_mul_le_mul_right (a := S0.2.2.2.1) ?_ hq2
        have x1 := Int.mul_le_mul_of_nonneg_right h1 (show 0 ≤ S.2.2.2.1 by omega)
        have x2 := Int.mul_le_mul_of_nonneg_right r4 (show 0 ≤ b by omega)
        have e1 : a * S.2.2.2.1 * S0.2.2.2.1 = a * S0.2.2.2.1 * S.2.2.2.1 := Int.mul_right_comm _ _ _
        have e2 : S0.2.2.1 * b * S.2.2.2.1 = S0.2.2.1 * S.2.2.2.1 * b := Int.mul_right_comm _ _ _
        have e3 : S.2.2.1 * b * S0.2.2.2.1 = S.2.2.1 * S0.2.2.2.1 * b := Int.mul_right_comm _ _ _
        omega
      refine ⟨q0, hle, L' ++ L2, by rw [r6, h2, List.append_assoc], fun e he => ?_⟩
      rcases List.mem_append.mp he with x | x
      · exact h3 e x
      · rw [r7 e x]; exact hle
theorem le_trans_fr {a b p x y : Int} (hb : 0 < b) (hy : 0 < y) (h1 : p * b < a) (h2 : a * y ≤ x * b) : p * y < x := by
  refine Int.lt_of_mul_lt_mul_right (a := b) ?_ (by omega)
  have e1 : p * y * b = p * b * y := Int.mul_right_comm _ _ _
  have := Int.mul_lt_mul_of_pos_right h1 hy
  omega
theorem stop_left (hn : n ≤ 5) (hv : NvOk n nv) (hA : 0 ≤ A ∧ A ≤ 2) (hB : 0 ≤ B ∧ B ≤ 2) {p : Int} (hp : 0 ≤ p) {k : Nat} (h : StopAt n nv A B p k) :
    lftp (snd0 n nv) (gs n nv A B 15).2.2.2.2 p = (gs n nv A B k).1 ∧ (¬ (gs n nv A B k).1 = 0 ↔ p * (gs n nv A B 15).2.2.2.1 < (gs n nv A B 15).2.2.1) ∧ (gs n nv A B k).2.2.1 ≤ p * (gs n nv A B k).2.2.2.1 := by
  obtain ⟨hE, hG⟩ := gs_ok hn hv hA hB k
  have hle : (gs n nv A B k).2.2.1 ≤ p * (gs n nv A B k).2.2.2.1 := by
    cases k with
    | zero => show (0 : Int) ≤ p * 1; omega
    | succ k =>
      obtain ⟨h1, h2⟩ := h.1 k (by omega)
      obtain ⟨hG, -⟩ := (gs_ok hn hv hA hB k).2 h1
      obtain ⟨-, -, r3, -⟩ := gst_ok hn hv hA hB hG h1
      rw [← r3] at h2
      exact h2
  have hev : ∀ e ∈ (gs n nv A B k).2.2.2.2, e.1 = 2 → e.2.2.1 ≤ p * e.2.2.2 := fun e he _ => by
    obtain ⟨c1, c2, c3, c4, c5⟩ := hE.2.2.2.2.2.1 e he
    have hq := hE.1.2.2.1
    have hq2 := c3.2.2.1
    refine Int.le_of_mul_le_mul_right (a := (gs n nv A B k).2.2.2.1) ?_ hq
    have := Int.mul_le_mul_of_nonneg_right hle (show 0 ≤ e.2.2.2 by omega)
    rw [Int.mul_right_comm] at this
    omega
  have hk := hE.2.2.2.1
  by_cases hz : (gs n nv A B k).1 = 0
  · have hf := gs_fin (k := k) hn hv hA hB hz
    rw [← hf]
    exact ⟨by rw [lftp_all hev, hk], ⟨fun w => absurd hz w, fun w => by omega⟩, hle⟩
  · have hk15 : k < 15 := Nat.lt_of_not_le fun w => hz (by
      have e := gs_stay (gs_end hn hv hA hB) (k - 15)
      rw [show 15 + (k - 15) = k by omega] at e
      rw [e]; exact gs_end hn hv hA hB)
    obtain ⟨q0, h1, L', h2, h3⟩ := gs_from hn hv hA hB hz (14 - k)
    rw [show k + 1 + (14 - k) = 15 by omega] at h1 h2
    have hst := h.2.resolve_left hz
    have hq15 := (gs_ok hn hv hA hB 15).1.1.2.2.1
    have hev15 := (gs_ok hn hv hA hB 15).1.2.2.2.2.2.1
    refine ⟨?_, ⟨fun _ => le_trans_fr q0 hq15 hst h1, fun _ => hz⟩, hle⟩
    rw [h2, lftp_app, lftp_all hev, hk]
    refine lftp_none fun e he => ?_
    have := le_trans_fr q0 (hev15 e (by rw [h2]; exact List.mem_append_right _ he)).2.2.1.2.2.1 hst (h3 e he)
    omega
end LEFT
