/-! THE CALLS AS LOAD GROWS: peak, order, when -/
section OPS8
variable {n : Nat} {nv : Nat → Nat → Int} {A B : Int} {F : Nat} {g c y s u pit o now : Nat → Int32}
def evo (L : List Ev4) (i : Nat) : Int := (L.getD i (0, 0, 0, 0)).2.2.1
def evu (L : List Ev4) (i : Nat) : Int := (L.getD i (0, 0, 0, 0)).2.2.2
theorem evo_at {L : List Ev4} {i : Nat} {e : Ev4} (h : L[i]? = some e) : evo L i = e.2.2.1 ∧ evu L i = e.2.2.2 := by
  unfold evo evu
  rw [List.getD_eq_getElem?_getD, h]
  exact ⟨rfl, rfl⟩
def atPk (L : List Ev4) (O U : Int) (i : Nat) : Bool := decide (evk L i = 2 ∧ evo L i = O ∧ evu L i = U)
theorem peak_z (hF : 40 < F) {L : List Ev4} (hL : L.length ≤ 15) (hall : ∀ e ∈ L, (0 ≤ e.1 ∧ e.1 ≤ 2) ∧ e.2.1 < n ∧ LOk e.2.2.1 e.2.2.2) {O U : Int} (hO : LOk O U) {tot : Int32} {kd wh : Nat → Int32} {ov un : Nat → Int64} (hE : EvZ L tot kd wh ov un) : iter (un2 (fb_X_peak_11 tot kd ov un (zL O) (zL U))) F ((0 : Int32), (0 : Int32)) = some (zI ((sel (atPk L O U) L.length).length : Int)) := by
  have loop := iter_for (body := un2 (fb_X_peak_11 tot kd ov un (zL O) (zL U))) (F := F) (s := ((0 : Int32), (0 : Int32))) (fun k z => z = (zI ((sel (atPk L O U) k).length : Int), zI (k : Int))) (fun q => q = zI ((sel (atPk L O U) L.length).length : Int)) L.length (by omega) rfl ?_ ?_
  · obtain ⟨q, e, rfl⟩ := loop
    exact e
  · rintro k z hk rfl
    obtain ⟨e, he⟩ := getElem_of_lt hk
    obtain ⟨b, -, l1, l2, l3, l4, l5⟩ := hall e (List.mem_of_getElem? he)
    obtain ⟨m1, m2, m3, m4, m5⟩ := hO
    have ek := (evk_at he).1
    obtain ⟨eo, eu⟩ := evo_at he
    obtain ⟨z1, z2, z3, z4⟩ := hE.2 k e he
    have ap : atPk L O U k = true ↔ e.1 = 2 ∧ e.2.2.1 * U = O * e.2.2.2 := by
      unfold atPk
      rw [decide_eq_true_iff, ek, eo, eu]
      exact ⟨fun w => ⟨w.1, by rw [w.2.1, w.2.2]⟩, fun w => ⟨w.1, cop_eq l3 m3 l5 m5 w.2⟩⟩
    have stay : ¬ atPk L O U k = true → (sel (atPk L O U) (k + 1)).length = (sel (atPk L O U) k).length := fun w => by
      rw [sel_s]; unfold c1; rw [if_neg w]; rfl
    have take : atPk L O U k = true → (sel (atPk L O U) (k + 1)).length = (sel (atPk L O U) k).length + 1 := fun w => by
      rw [sel_s]; unfold c1; rw [if_pos w]
    have x1 := abs_mul_bd (a := e.2.2.1) (b := U) (x := 400 * 299269) (y := 25 * 299269) (by omega) (by omega) (by omega) (by omega)
    have x2 := abs_mul_bd (a := O) (b := e.2.2.2) (x := 400 * 299269) (y := 25 * 299269) (by omega) (by omega) (by omega) (by omega)
    dsimp only [un2]
    unfold fb_X_peak_11
    rw [hE.1, if_neg (by rw [zI_le (by omega) (by omega) (by omega) (by omega)]; omega), ldA_z (by omega) (by omega), Option.bind_some, z1]
    by_cases w : e.1 = 2
    · rw [if_pos (by rw [w]; rfl), ldA_z (by omega) (by omega), Option.bind_some, ldA_z (by omega) (by omega), Option.bind_some, z3, z4, zL_mul, zL_mul]
      by_cases x : e.2.2.1 * U = O * e.2.2.2
      · rw [if_pos (by rw [x])]
        simp only [fj_X_peak_76, nm, zI_1]
        exact ⟨_, rfl, by rw [take (ap.mpr ⟨w, x⟩)]⟩
      · rw [if_neg (by rw [zL_eq (by omega) (by omega) (by omega) (by omega)]; exact x)]
        simp only [fj_X_peak_76, nm, zI_1]
        exact ⟨_, rfl, by rw [stay (fun q => x (ap.mp q).2)]⟩
    · rw [if_neg (by rw [i2, zI_eq (by omega) (by omega) (by omega) (by omega)]; exact w)]
      simp only [fj_X_peak_76, nm, zI_1]
      exact ⟨_, rfl, by rw [stay (fun q => w (ap.mp q).1)]⟩
  · rintro z rfl
    dsimp only [un2]
    unfold fb_X_peak_11
    rw [hE.1, if_pos (Int32.le_refl _)]
    exact ⟨_, rfl, rfl⟩
theorem mpeak_z (hF : 40 < F) {L : List Ev4} (hL : L.length ≤ 15) (hall : ∀ e ∈ L, (0 ≤ e.1 ∧ e.1 ≤ 2) ∧ e.2.1 < n ∧ LOk e.2.2.1 e.2.2.2) {O U : Int} (hO : LOk O U) {tot : Int32} {kd wh : Nat → Int32} {ov un : Nat → Int64} (hE : EvZ L tot kd wh ov un) : iter (un2 (fb_M_peak_13 (zL O) (zL U) tot kd ov un)) F ((0 : Int32), (0 : Int32)) = some (zI ((sel (atPk L O U) L.length).length : Int)) := by
  have loop := iter_for (body := un2 (fb_M_peak_13 (zL O) (zL U) tot kd ov un)) (F := F) (s := ((0 : Int32), (0 : Int32))) (fun k z => z = (zI ((sel (atPk L O U) k).length : Int), zI (k : Int))) (fun q => q = zI ((sel (atPk L O U) L.length).length : Int)) L.length (by omega) rfl ?_ ?_
  · obtain ⟨q, e, rfl⟩ := loop
    exact e
  · rintro k z hk rfl
    obtain ⟨e, he⟩ := getElem_of_lt hk
    obtain ⟨b, -, l1, l2, l3, l4, l5⟩ := hall e (List.mem_of_getElem? he)
    obtain ⟨m1, m2, m3, m4, m5⟩ := hO
    have ek := (evk_at he).1
    obtain ⟨eo, eu⟩ := evo_at he
    obtain ⟨z1, z2, z3, z4⟩ := hE.2 k e he
    have ap : atPk L O U k = true ↔ e.1 = 2 ∧ e.2.2.1 = O ∧ e.2.2.2 = U := by
      unfold atPk
      rw [decide_eq_true_iff, ek, eo, eu]
    have ez : ∀ x : Int, zI x + (0 : Int32) = zI x := fun x => by rw [i0, zI_add, Int.add_zero]
    have stay : ¬ atPk L O U k = true → ∃ s', fj_M_peak_64 (zI (k : Int)) (zI ((sel (atPk L O U) k).length : Int)) = some (.inl s') ∧ s' = (zI ((sel (atPk L O U) (k + 1)).length : Int), zI ((k + 1 : Nat) : Int)) := fun w => by
      simp only [fj_M_peak_64, fj_M_peak_65, nm, zI_1, ez]
      refine ⟨_, rfl, ?_⟩
      rw [sel_s]; unfold c1; rw [if_neg w]; rfl
    dsimp only [un2]
    unfold fb_M_peak_13
    rw [hE.1, if_neg (by rw [zI_le (by omega) (by omega) (by omega) (by omega)]; omega), ldA_z (by omega) (by omega), Option.bind_some, z1]
    by_cases w : e.1 = 2
    · rw [if_pos (by rw [w]; rfl), ldA_z (by omega) (by omega), Option.bind_some, z3]
      by_cases x : e.2.2.1 = O
      · rw [if_pos (by rw [x]), ldA_z (by omega) (by omega), Option.bind_some, z4]
        by_cases t : e.2.2.2 = U
        · rw [if_pos (by rw [t])]
          simp only [fj_M_peak_65, nm, zI_1]
          refine ⟨_, rfl, ?_⟩
          rw [sel_s]; unfold c1; rw [if_pos (ap.mpr ⟨w, x, t⟩)]
        · rw [if_neg (by rw [zL_eq (by omega) (by omega) (by omega) (by omega)]; exact t)]
          exact stay (fun q => t (ap.mp q).2.2)
      · rw [if_neg (by rw [zL_eq (by omega) (by omega) (by omega) (by omega)]; exact x)]
        exact stay (fun q => x (ap.mp q).2.1)
    · rw [if_neg (by rw [i2, zI_eq (by omega) (by omega) (by omega) (by omega)]; exact w)]
      exact stay (fun q => w (ap.mp q).1)
  · rintro z rfl
    dsimp only [un2]
    unfold fb_M_peak_13
    rw [hE.1, if_pos (Int32.le_refl _)]
    exact ⟨_, rfl, rfl⟩
/-- no more breaks than bolts -/
theorem breaks_le (hn : n ≤ 5) {m : Nat} {P Q : Int} {L : List Ev4} (hE : EOk n nv m P Q L) : ∀ k, k ≤ L.length → (sel (fun i => decide (evk L i = 2)) k).length + popc (lft (snd0 n nv) (L.take k)) n ≤ n := by
  have h32 : snd0 n nv < 32 := msk_32 _ hn
  intro k
  induction k with
  | zero => intro _; show 0 + popc (snd0 n nv) n ≤ n; have := popc_le (m := snd0 n nv) (n := n); omega
  | succ k ih =>
    intro hk
    have a := ih (by omega)
    obtain ⟨e, he⟩ := getElem_of_lt (L := L) (i := k) (by omega)
    have ek := (evk_at he).1
    have hmem := List.mem_of_getElem? he
    have b32 := (lft_sub (L := L.take k) h32 (fun x hx => by have := (hE.2.2.2.2.2.1 x (List.mem_of_mem_take hx)).2.1; omega)).1
    have ts : lft (snd0 n nv) (L.take (k + 1)) = if e.1 = 2 then clr (lft (snd0 n nv) (L.take k)) e.2.1 else lft (snd0 n nv) (L.take k) := by
      rw [take_s he, lft_app]; rfl
    rw [ts, sel_s]
    unfold c1
    by_cases w : e.1 = 2
    · rw [if_pos w, if_pos (by simp [ek, w])]
      have hd : L = L.take k ++ e :: L.drop (k + 1) := by
        have h1 := (List.take_append_drop (k + 1) L).symm
        rw [take_s he] at h1
        simpa using h1
      have hb := hE.2.2.2.2.2.2 _ _ _ hd w
      have hbn := (hE.2.2.2.2.2.1 e hmem).2.1
      have := popc_clr hn b32 hbn hb
      omega
    · rw [if_neg w, if_neg (by simp [ek, w])]
      exact a
def ordL (L : List Ev4) (k : Nat) : List Int := (sel (fun i => decide (evk L i = 2)) k).map (fun i => (evb L i : Int))
theorem ordL_len (L : List Ev4) (k : Nat) : (ordL L k).length = (sel (fun i => decide (evk L i = 2)) k).length := by unfold ordL; rw [List.length_map]
theorem ordL_s {L : List Ev4} {k : Nat} {e : Ev4} (he : L[k]? = some e) : ordL L (k + 1) = if e.1 = 2 then ordL L k ++ [(e.2.1 : Int)] else ordL L k := by
  obtain ⟨ek, eb⟩ := evk_at he
  unfold ordL
  simp only [sel]
  by_cases w : e.1 = 2
  · rw [if_pos (by simp [ek, w]), if_pos w, List.map_append]
    simp [eb]
  · rw [if_neg (by simp [ek, w]), if_neg w]
theorem order_z (hF : 40 < F) {L : List Ev4} (hL : L.length ≤ 15) (hall : ∀ e ∈ L, (0 ≤ e.1 ∧ e.1 ≤ 2) ∧ e.2.1 < n ∧ LOk e.2.2.1 e.2.2.2) (hn : n ≤ 5) (h5 : ∀ k, k ≤ L.length → (ordL L k).length ≤ 5) {tot : Int32} {kd wh : Nat → Int32} {ov un : Nat → Int64} (hE : EvZ L tot kd wh ov un) (nu : Nat → Int64) : ∃ nu1 sz1, iter (un3 (fb_X_order_17 tot kd wh)) F ((0 : Int32), nu, (0 : Int32)) = some (nu1, sz1) ∧ RowC (ordL L L.length) nu1 sz1 := by
  have loop := iter_for (body := un3 (fb_X_order_17 tot kd wh)) (F := F) (s := ((0 : Int32), nu, (0 : Int32))) (fun k z => ∃ nu1 sz1, z = (zI (k : Int), nu1, sz1) ∧ RowC (ordL L k) nu1 sz1) (fun q => RowC (ordL L L.length) q.1 q.2) L.length (by omega) ⟨nu, 0, rfl, RowC.nil nu⟩ ?_ ?_
  · obtain ⟨q, e, h⟩ := loop
    exact ⟨q.1, q.2, e, h⟩
  · rintro k z hk ⟨nu1, sz1, rfl, R⟩
    obtain ⟨e, he⟩ := getElem_of_lt hk
    obtain ⟨b, hb, -⟩ := hall e (List.mem_of_getElem? he)
    obtain ⟨z1, z2, z3, z4⟩ := hE.2 k e he
    have os := ordL_s he
    have hl := h5 (k + 1) (by omega)
    dsimp only [un3]
    unfold fb_X_order_17
    rw [hE.1, if_neg (by rw [zI_le (by omega) (by omega) (by omega) (by omega)]; omega), ldA_z (by omega) (by omega), Option.bind_some, z1]
    by_cases w : e.1 = 2
    · rw [if_pos w] at os
      rw [os, List.length_append] at hl
      have hl1 : [(e.2.1 : Int)].length = 1 := rfl
      obtain ⟨nu2, sz2, e2, R2⟩ := whole_z R (by omega) (e.2.1 : Int)
      rw [if_pos (by rw [w]; rfl), ldA_z (by omega) (by omega), Option.bind_some, z2, zI_l (by omega) (by omega), e2]
      simp only [bd2, Option.bind_some, fj_X_order_58, nm, zI_1]
      exact ⟨_, rfl, nu2, sz2, rfl, by rw [os]; exact R2⟩
    · rw [if_neg w] at os
      rw [if_neg (by rw [i2, zI_eq (by omega) (by omega) (by omega) (by omega)]; exact w)]
      simp only [fj_X_order_58, nm, zI_1]
      exact ⟨_, rfl, nu1, sz1, rfl, by rw [os]; exact R⟩
  · rintro z ⟨nu1, sz1, rfl, R⟩
    dsimp only [un3]
    unfold fb_X_order_17
    rw [hE.1, if_pos (Int32.le_refl _)]
    exact ⟨_, rfl, R⟩
theorem morder_z (hF : 40 < F) {L : List Ev4} (hL : L.length ≤ 15) (hall : ∀ e ∈ L, (0 ≤ e.1 ∧ e.1 ≤ 2) ∧ e.2.1 < n ∧ LOk e.2.2.1 e.2.2.2) (hn : n ≤ 5) (h5 : ∀ k, k ≤ L.length → (ordL L k).length ≤ 5) {tot : Int32} {kd wh : Nat → Int32} {ov un : Nat → Int64} (hE : EvZ L tot kd wh ov un) (nu : Nat → Int64) : ∃ nu1 sz1, iter (un3 (fb_M_order_16 tot kd wh)) F ((0 : Int32), nu, (0 : Int32)) = some (nu1, sz1) ∧ RowC (ordL L L.length) nu1 sz1 := by
  have loop := iter_for (body := un3 (fb_M_order_16 tot kd wh)) (F := F) (s := ((0 : Int32), nu, (0 : Int32))) (fun k z => ∃ nu1 sz1, z = (zI (k : Int), nu1, sz1) ∧ RowC (ordL L k) nu1 sz1) (fun q => RowC (ordL L L.length) q.1 q.2) L.length (by omega) ⟨nu, 0, rfl, RowC.nil nu⟩ ?_ ?_
  · obtain ⟨q, e, h⟩ := loop
    exact ⟨q.1, q.2, e, h⟩
  · rintro k z hk ⟨nu1, sz1, rfl, R⟩
    obtain ⟨e, he⟩ := getElem_of_lt hk
    obtain ⟨b, hb, -⟩ := hall e (List.mem_of_getElem? he)
    obtain ⟨z1, z2, z3, z4⟩ := hE.2 k e he
    have os := ordL_s he
    have hl := h5 k (by omega)
    dsimp only [un3]
    unfold fb_M_order_16
    rw [hE.1, if_neg (by rw [zI_le (by omega) (by omega) (by omega) (by omega)]; omega), ldA_z (by omega) (by omega), Option.bind_some, z1]
    by_cases w : e.1 = 2
    · rw [if_pos w] at os
      obtain ⟨nu2, sz2, e2, R2⟩ := tell_z R (by omega) (e.2.1 : Int)
      rw [if_pos (by rw [w]; rfl), ldA_z (by omega) (by omega), Option.bind_some, z2, zI_l (by omega) (by omega), e2]
      simp only [bd2, Option.bind_some, fj_M_order_45, nm, zI_1]
      exact ⟨_, rfl, nu2, sz2, rfl, by rw [os]; exact R2⟩
    · rw [if_neg w] at os
      rw [if_neg (by rw [i2, zI_eq (by omega) (by omega) (by omega) (by omega)]; exact w)]
      simp only [fj_M_order_45, nm, zI_1]
      exact ⟨_, rfl, nu1, sz1, rfl, by rw [os]; exact R⟩
  · rintro z ⟨nu1, sz1, rfl, R⟩
    dsimp only [un3]
    unfold fb_M_order_16
    rw [hE.1, if_pos (Int32.le_refl _)]
    exact ⟨_, rfl, R⟩
theorem op_peak (hJt : Jt n nv A B) (hF : 300 < F) {bn ju jl many mu ml : Int32} (J : JX n nv A B g c y s u o pit bn ju jl) (X : MX n nv A B now many mu ml) (way0 wb0 : Nat → Int32) (kn0 tot0 : Int32) (kd0 wh0 : Nat → Int32) (ov0 un0 : Nat → Int64) (eO0 eU0 : Int64) (dO0 dU0 : Nat → Int64) (sO0 sU0 : Int64) (st0 : Nat → Int32) (re0 fr0 fs0 dr0 ds0 : Nat → Int64) (lu0 : Int64) (bf0 bl0 ba0 sc0 : Nat → Int64) (fR0 fS0 : Int64) (hK : KnG n nv A B kn0 tot0 kd0 wh0 ov0 un0 eO0 eU0) (mo0 : Nat → Int32) (uu0 : Int64) (sl0 mb0 ss0 sb0 of0 : Nat → Int64) (be0 : Nat → Int32) (bs0 : Int32) (ma0 : Nat → Int64) (lO0 lU0 : Int64) (mt0 : Int32) (mk0 mw0 : Nat → Int32) (mv0 mn0 : Nat → Int64) (ha0 : Nat → Int32) (nO0 nU0 : Int64) (me0 fe0 : Nat → Int32) (aO0 aU0 bO0 bU0 : Nat → Int64) (hf : ∀ i, i < 5 → fe0 i = 0) (nu : Nat → Int64) (sz : Int32) (row : Nat → Int64) (rm th : Int32) (hR : RowEq nu sz row rm) :
    ∃ (r : Int32) (way1 wb1 : Nat → Int32) (kn1 tot1 : Int32) (kd1 wh1 : Nat → Int32) (ov1 un1 : Nat → Int64) (eO1 eU1 : Int64) (dO1 dU1 : Nat → Int64) (sO1 sU1 : Int64) (st1 : Nat → Int32) (re1 fr1 fs1 dr1 ds1 : Nat → Int64) (lu1 : Int64) (bf1 bl1 ba1 sc1 : Nat → Int64) (fR1 fS1 : Int64) (nu1 : Nat → Int64) (sz1 : Int32) (mo1 : Nat → Int32) (uu1 : Int64) (sl1 mb1 ss1 sb1 of1 : Nat → Int64) (be1 : Nat → Int32) (bs1 : Int32) (ma1 : Nat → Int64) (lO1 lU1 : Int64) (mt1 : Int32) (mk1 mw1 : Nat → Int32) (mv1 mn1 : Nat → Int64) (ha1 : Nat → Int32) (nO1 nU1 : Int64) (me1 fe1 : Nat → Int32) (aO1 aU1 bO1 bU1 : Nat → Int64) (row1 : Nat → Int64) (rm1 : Int32), f_X_peak F way0 wb0 kn0 tot0 kd0 wh0 ov0 un0 eO0 eU0 dO0 dU0 sO0 sU0 st0 re0 fr0 fs0 dr0 ds0 lu0 bf0 bl0 ba0 sc0 fR0 fS0 g c y s u o pit bn ju jl nu sz = some (r, way1, wb1, kn1, tot1, kd1, wh1, ov1, un1, eO1, eU1, dO1, dU1, sO1, sU1, st1, re1, fr1, fs1, dr1, ds1, lu1, bf1, bl1, ba1, sc1, fR1, fS1, nu1, sz1) ∧ f_M_peak F now many mu ml row rm th mo0 uu0 sl0 mb0 ss0 sb0 of0 be0 bs0 ma0 lO0 lU0 mt0 mk0 mw0 mv0 mn0 ha0 nO0 nU0 me0 fe0 aO0 aU0 bO0 bU0 = some (r, row1, rm1, (0 : Int32), mo1, uu1, sl1, mb1, ss1, sb1, of1, be1, bs1, ma1, lO1, lU1, mt1, mk1, mw1, mv1, mn1, ha1, nO1, nU1, me1, fe1, aO1, aU1, bO1, bU1) ∧
      KnG n nv A B kn1 tot1 kd1 wh1 ov1 un1 eO1 eU1 ∧ (∀ i, i < 5 → fe1 i = 0) ∧ RowEq nu1 sz1 row1 rm1 := by
  have hJt' := hJt
  obtain ⟨hn, hv, hA, hB⟩ := hJt'
  obtain ⟨J1, ho, rfl, rfl, rfl⟩ := J
  obtain ⟨h, rfl, rfl, rfl⟩ := X
  obtain ⟨way1, wb1, kn1, tot1, kd1, wh1, ov1, un1, eO1, eU1, dO1, dU1, sO1, sU1, st1, re1, fr1, fs1, dr1, ds1, lu1, bf1, bl1, ba1, sc1, fR1, fS1, mo1, uu1, sl1, mb1, ss1, sb1, of1, be1, bs1, ma1, lO1, lU1, mt1, mk1, mw1, mv1, mn1, ha1, nO1, nU1, me1, fe1, aO1, aU1, bO1, bU1, e, em, hK1, hEv, hEm, heO, heU, hlO, hlU, hrec, hf1⟩ := both_grow hJt hF ⟨J1, ho, rfl, rfl, rfl⟩ ⟨h, rfl, rfl, rfl⟩ way0 wb0 kn0 tot0 kd0 wh0 ov0 un0 eO0 eU0 dO0 dU0 sO0 sU0 st0 re0 fr0 fs0 dr0 ds0 lu0 bf0 bl0 ba0 sc0 fR0 fS0 hK mo0 uu0 sl0 mb0 ss0 sb0 of0 be0 bs0 ma0 lO0 lU0 mt0 mk0 mw0 mv0 mn0 ha0 nO0 nU0 me0 fe0 aO0 aU0 bO0 bU0 hf
  obtain ⟨l15, hall⟩ := evL_all (n := n) (nv := nv) (A := A) (B := B) hn hv hA hB
  have hpk := pk_ok (n := n) (nv := nv) (A := A) (B := B) hn hv hA hB
  subst heO heU hlO hlU
  clear hrec
  have cz := peak_z (F := F) (by omega) l15 hall hpk hEv
  have mz := mpeak_z (F := F) (by omega) l15 hall hpk hEm
  obtain ⟨nu1, sz1, e1, R1⟩ := fraction_z (F := F) (by omega) (RowC.nil nu) (by show 0 + 2 ≤ 8; omega) (o := pkO n nv A B) (u := pkU n nv A B) (by have := hpk.1; omega) (by have := hpk.2.1; omega) hpk.2.2.1 (by have := hpk.2.2.2.1; omega)
  obtain ⟨row1, rm1, e2, R2⟩ := tellFraction_z (F := F) (by omega) (RowC.nil row) (by show 0 + 2 ≤ 64; omega) (o := pkO n nv A B) (u := pkU n nv A B) (by have := hpk.1; omega) (by have := hpk.2.1; omega) hpk.2.2.1 (by have := hpk.2.2.2.1; omega)
  unfold f_X_peak f_M_peak
  rw [e, em]
  simp only [bd27, bd26, Option.bind_some]
  rw [cz, mz, Option.bind_some, Option.bind_some, e1, e2]
  simp only [bd2, Option.bind_some]
  exact ⟨_, way1, wb1, kn1, tot1, kd1, wh1, ov1, un1, _, _, dO1, dU1, sO1, sU1, st1, re1, fr1, fs1, dr1, ds1, lu1, bf1, bl1, ba1, sc1, fR1, fS1, nu1, sz1, mo1, uu1, sl1, mb1, ss1, sb1, of1, be1, bs1, ma1, _, _, mt1, mk1, mw1, mv1, mn1, ha1, nO1, nU1, me1, fe1, aO1, aU1, bO1, bU1, row1, rm1, rfl, rfl, hK1, hf1, _, by show 2 ≤ 8; omega, R1, R2⟩
theorem op_order (hJt : Jt n nv A B) (hF : 300 < F) {bn ju jl many mu ml : Int32} (J : JX n nv A B g c y s u o pit bn ju jl) (X : MX n nv A B now many mu ml) (way0 wb0 : Nat → Int32) (kn0 tot0 : Int32) (kd0 wh0 : Nat → Int32) (ov0 un0 : Nat → Int64) (eO0 eU0 : Int64) (dO0 dU0 : Nat → Int64) (sO0 sU0 : Int64) (st0 : Nat → Int32) (re0 fr0 fs0 dr0 ds0 : Nat → Int64) (lu0 : Int64) (bf0 bl0 ba0 sc0 : Nat → Int64) (fR0 fS0 : Int64) (hK : KnG n nv A B kn0 tot0 kd0 wh0 ov0 un0 eO0 eU0) (mo0 : Nat → Int32) (uu0 : Int64) (sl0 mb0 ss0 sb0 of0 : Nat → Int64) (be0 : Nat → Int32) (bs0 : Int32) (ma0 : Nat → Int64) (lO0 lU0 : Int64) (mt0 : Int32) (mk0 mw0 : Nat → Int32) (mv0 mn0 : Nat → Int64) (ha0 : Nat → Int32) (nO0 nU0 : Int64) (me0 fe0 : Nat → Int32) (aO0 aU0 bO0 bU0 : Nat → Int64) (hf : ∀ i, i < 5 → fe0 i = 0) (nu : Nat → Int64) (sz : Int32) (row : Nat → Int64) (rm th : Int32) (hR : RowEq nu sz row rm) :
    ∃ (r : Int32) (way1 wb1 : Nat → Int32) (kn1 tot1 : Int32) (kd1 wh1 : Nat → Int32) (ov1 un1 : Nat → Int64) (eO1 eU1 : Int64) (dO1 dU1 : Nat → Int64) (sO1 sU1 : Int64) (st1 : Nat → Int32) (re1 fr1 fs1 dr1 ds1 : Nat → Int64) (lu1 : Int64) (bf1 bl1 ba1 sc1 : Nat → Int64) (fR1 fS1 : Int64) (nu1 : Nat → Int64) (sz1 : Int32) (mo1 : Nat → Int32) (uu1 : Int64) (sl1 mb1 ss1 sb1 of1 : Nat → Int64) (be1 : Nat → Int32) (bs1 : Int32) (ma1 : Nat → Int64) (lO1 lU1 : Int64) (mt1 : Int32) (mk1 mw1 : Nat → Int32) (mv1 mn1 : Nat → Int64) (ha1 : Nat → Int32) (nO1 nU1 : Int64) (me1 fe1 : Nat → Int32) (aO1 aU1 bO1 bU1 : Nat → Int64) (row1 : Nat → Int64) (rm1 : Int32), f_X_order F way0 wb0 kn0 tot0 kd0 wh0 ov0 un0 eO0 eU0 dO0 dU0 sO0 sU0 st0 re0 fr0 fs0 dr0 ds0 lu0 bf0 bl0 ba0 sc0 fR0 fS0 g c y s u o pit bn ju jl nu sz = some (r, way1, wb1, kn1, tot1, kd1, wh1, ov1, un1, eO1, eU1, dO1, dU1, sO1, sU1, st1, re1, fr1, fs1, dr1, ds1, lu1, bf1, bl1, ba1, sc1, fR1, fS1, nu1, sz1) ∧ f_M_order F now many mu ml row rm th mo0 uu0 sl0 mb0 ss0 sb0 of0 be0 bs0 ma0 lO0 lU0 mt0 mk0 mw0 mv0 mn0 ha0 nO0 nU0 me0 fe0 aO0 aU0 bO0 bU0 = some (r, row1, rm1, (0 : Int32), mo1, uu1, sl1, mb1, ss1, sb1, of1, be1, bs1, ma1, lO1, lU1, mt1, mk1, mw1, mv1, mn1, ha1, nO1, nU1, me1, fe1, aO1, aU1, bO1, bU1) ∧
      KnG n nv A B kn1 tot1 kd1 wh1 ov1 un1 eO1 eU1 ∧ (∀ i, i < 5 → fe1 i = 0) ∧ RowEq nu1 sz1 row1 rm1 := by
  have hJt' := hJt
  obtain ⟨hn, hv, hA, hB⟩ := hJt'
  obtain ⟨J1, ho, rfl, rfl, rfl⟩ := J
  obtain ⟨h, rfl, rfl, rfl⟩ := X
  obtain ⟨way1, wb1, kn1, tot1, kd1, wh1, ov1, un1, eO1, eU1, dO1, dU1, sO1, sU1, st1, re1, fr1, fs1, dr1, ds1, lu1, bf1, bl1, ba1, sc1, fR1, fS1, mo1, uu1, sl1, mb1, ss1, sb1, of1, be1, bs1, ma1, lO1, lU1, mt1, mk1, mw1, mv1, mn1, ha1, nO1, nU1, me1, fe1, aO1, aU1, bO1, bU1, e, em, hK1, hEv, hEm, heO, heU, hlO, hlU, hrec, hf1⟩ := both_grow hJt hF ⟨J1, ho, rfl, rfl, rfl⟩ ⟨h, rfl, rfl, rfl⟩ way0 wb0 kn0 tot0 kd0 wh0 ov0 un0 eO0 eU0 dO0 dU0 sO0 sU0 st0 re0 fr0 fs0 dr0 ds0 lu0 bf0 bl0 ba0 sc0 fR0 fS0 hK mo0 uu0 sl0 mb0 ss0 sb0 of0 be0 bs0 ma0 lO0 lU0 mt0 mk0 mw0 mv0 mn0 ha0 nO0 nU0 me0 fe0 aO0 aU0 bO0 bU0 hf
  obtain ⟨l15, hall⟩ := evL_all (n := n) (nv := nv) (A := A) (B := B) hn hv hA hB
  have h5 : ∀ k, k ≤ (evL n nv A B).length → (ordL (evL n nv A B) k).length ≤ 5 := fun k hk => by
    have h0 : (sel (fun i => decide (evk (evL n nv A B) i = 2)) k).length + popc (lft (snd0 n nv) ((evL n nv A B).take k)) n ≤ n := breaks_le hn (gs_ok (n := n) (nv := nv) (A := A) (B := B) hn hv hA hB 15).1 k hk
    rw [ordL_len]
    omega
  clear hrec heO heU hlO hlU
  generalize evL n nv A B = L at *
  obtain ⟨nu1, sz1, e1, R1⟩ := order_z (F := F) (by omega) l15 hall hn h5 hEv nu
  obtain ⟨row1, rm1, e2, R2⟩ := morder_z (F := F) (by omega) l15 hall hn h5 hEm row
  unfold f_X_order f_M_order
  rw [e, em]
  simp only [bd27, bd26, Option.bind_some]
  rw [e1, e2]
  simp only [bd2, Option.bind_some]
  refine ⟨_, way1, wb1, kn1, tot1, kd1, wh1, ov1, un1, eO1, eU1, dO1, dU1, sO1, sU1, st1, re1, fr1, fs1, dr1, ds1, lu1, bf1, bl1, ba1, sc1, fR1, fS1, nu1, sz1, mo1, uu1, sl1, mb1, ss1, sb1, of1, be1, bs1, ma1, lO1, lU1, mt1, mk1, mw1, mv1, mn1, ha1, nO1, nU1, me1, fe1, aO1, aU1, bO1, bU1, row1, rm1, rfl, ?_, hK1, hf1, _, by have := h5 _ (Nat.le_refl _); omega, R1, R2⟩
  rw [R1.1, R2.1]
end OPS8
