/-! THE CALLS AS LOAD GROWS: when; COUNTS -/
section OPS9
variable {n : Nat} {nv : Nat → Nat → Int} {A B : Int} {F : Nat} {g c y s u pit o now : Nat → Int32}
/-- the place of the first event of a kind of a bolt, -1: none -/
def fnd (L : List Ev4) (a b : Int) : Int := fst1 (fun i => decide (evk L i = a) && decide ((evb L i : Int) = b)) L.length
theorem fnd_cs (L : List Ev4) (a b : Int) : fnd L a b = -1 ∨ (0 ≤ fnd L a b ∧ (fnd L a b).toNat < L.length) := by
  rcases fst1_cs (fun i => decide (evk L i = a) && decide ((evb L i : Int) = b)) L.length with h | h
  · exact Or.inl h
  · exact Or.inr ⟨h.1, h.2.1⟩
theorem find_z (hF : 40 < F) {L : List Ev4} (hL : L.length ≤ 15) (hn : n ≤ 5) (hall : ∀ e ∈ L, (0 ≤ e.1 ∧ e.1 ≤ 2) ∧ e.2.1 < n ∧ LOk e.2.2.1 e.2.2.2) {tot : Int32} {kd wh : Nat → Int32} {ov un : Nat → Int64} (hE : EvZ L tot kd wh ov un) {a b : Int} (ha : 0 ≤ a ∧ a ≤ 3) (hb : 0 ≤ b ∧ b < n) : f_G_find F (zI a) (zI b) tot kd wh = some (zI (fnd L a b)) := by
  have loop := iter_up (body := fb_G_find_2 (zI a) (zI b) tot kd wh)
    (fun i z => z = zI (i : Int) ∧ fst1 (fun i => decide (evk L i = a) && decide ((evb L i : Int) = b)) i = -1)
    (fun q => (q.1 = 0 ∧ q.2 = zI (fnd L a b)) ∨ (q.1 = 1 ∧ fnd L a b = -1)) L.length ?_ ?_ L.length 0 F (0 : Int32) (by omega) (by omega) ⟨rfl, rfl⟩
  · obtain ⟨⟨x, l⟩, e, h⟩ := loop
    unfold f_G_find
    rw [e]
    rcases h with ⟨rfl, h⟩ | ⟨rfl, h⟩
    · dsimp only at h
      subst h
      rfl
    · rw [h]; rfl
  · rintro i z hi ⟨rfl, hz⟩
    obtain ⟨e, he⟩ := getElem_of_lt hi
    obtain ⟨b1, b2, -⟩ := hall e (List.mem_of_getElem? he)
    obtain ⟨ek, eb⟩ := evk_at he
    obtain ⟨z1, z2, z3, z4⟩ := hE.2 i e he
    have stay : ¬ (e.1 = a ∧ (e.2.1 : Int) = b) → ∃ s', fj_G_find_32 (zI (i : Int)) = some (.inl s') ∧ s' = zI ((i + 1 : Nat) : Int) ∧ fst1 (fun i => decide (evk L i = a) && decide ((evb L i : Int) = b)) (i + 1) = -1 := fun w =>
      ⟨_, by simp only [fj_G_find_32, nm, zI_1], rfl, by simp only [fst1]; rw [if_pos hz, if_neg (by rw [ek, eb]; simpa using w)]⟩
    unfold fb_G_find_2
    rw [hE.1, if_neg (by rw [zI_le (by omega) (by omega) (by omega) (by omega)]; omega), ldA_z (by omega) (by omega), Option.bind_some, z1]
    by_cases w : e.1 = a
    · rw [if_pos (by rw [w]), ldA_z (by omega) (by omega), Option.bind_some, z2]
      by_cases x : (e.2.1 : Int) = b
      · right
        rw [if_pos (by rw [x])]
        refine ⟨_, rfl, Or.inl ⟨rfl, ?_⟩⟩
        have e1 : fst1 (fun i => decide (evk L i = a) && decide ((evb L i : Int) = b)) (i + 1) = (i : Int) := by simp only [fst1]; rw [if_pos hz, if_pos (by rw [ek, eb]; simp [w, x])]
        have := fst1_up (p := fun i => decide (evk L i = a) && decide ((evb L i : Int) = b)) (i := i + 1) (by omega) (L.length - (i + 1))
        rw [show i + 1 + (L.length - (i + 1)) = L.length by omega, e1] at this
        unfold fnd
        rw [this]
      · left
        rw [if_neg (by rw [zI_eq (by omega) (by omega) (by omega) (by omega)]; exact x)]
        exact stay (fun q => x q.2)
    · left
      rw [if_neg (by rw [zI_eq (by omega) (by omega) (by omega) (by omega)]; exact w)]
      exact stay (fun q => w q.1)
  · rintro z ⟨rfl, hz⟩
    unfold fb_G_find_2
    rw [hE.1, if_pos (Int32.le_refl _)]
    exact ⟨_, rfl, Or.inr ⟨rfl, hz⟩⟩
theorem eventOf_z (hF : 40 < F) {L : List Ev4} (hL : L.length ≤ 15) (hn : n ≤ 5) (hall : ∀ e ∈ L, (0 ≤ e.1 ∧ e.1 ≤ 2) ∧ e.2.1 < n ∧ LOk e.2.2.1 e.2.2.2) {tot : Int32} {kd wh : Nat → Int32} {ov un : Nat → Int64} (hE : EvZ L tot kd wh ov un) {a b : Int} (ha : 0 ≤ a ∧ a ≤ 3) (hb : 0 ≤ b ∧ b < n) : f_M_eventOf F (zI a) (zI b) tot kd wh = some (zI (fnd L a b)) := by
  have loop := iter_up (body := fb_M_eventOf_2 (zI a) (zI b) tot kd wh)
    (fun i z => z = zI (i : Int) ∧ fst1 (fun i => decide (evk L i = a) && decide ((evb L i : Int) = b)) i = -1)
    (fun q => (q.1 = 0 ∧ q.2 = zI (fnd L a b)) ∨ (q.1 = 1 ∧ fnd L a b = -1)) L.length ?_ ?_ L.length 0 F (0 : Int32) (by omega) (by omega) ⟨rfl, rfl⟩
  · obtain ⟨⟨x, l⟩, e, h⟩ := loop
    unfold f_M_eventOf
    rw [e]
    rcases h with ⟨rfl, h⟩ | ⟨rfl, h⟩
    · dsimp only at h
      subst h
      rfl
    · rw [h]; rfl
  · rintro i z hi ⟨rfl, hz⟩
    obtain ⟨e, he⟩ := getElem_of_lt hi
    obtain ⟨b1, b2, -⟩ := hall e (List.mem_of_getElem? he)
    obtain ⟨ek, eb⟩ := evk_at he
    obtain ⟨z1, z2, z3, z4⟩ := hE.2 i e he
    have stay : ¬ (e.1 = a ∧ (e.2.1 : Int) = b) → ∃ s', fj_M_eventOf_32 (zI (i : Int)) = some (.inl s') ∧ s' = zI ((i + 1 : Nat) : Int) ∧ fst1 (fun i => decide (evk L i = a) && decide ((evb L i : Int) = b)) (i + 1) = -1 := fun w =>
      ⟨_, by simp only [fj_M_eventOf_32, nm, zI_1], rfl, by simp only [fst1]; rw [if_pos hz, if_neg (by rw [ek, eb]; simpa using w)]⟩
    unfold fb_M_eventOf_2
    rw [hE.1, if_neg (by rw [zI_le (by omega) (by omega) (by omega) (by omega)]; omega), ldA_z (by omega) (by omega), Option.bind_some, z1]
    by_cases w : e.1 = a
    · rw [if_pos (by rw [w]), ldA_z (by omega) (by omega), Option.bind_some, z2]
      by_cases x : (e.2.1 : Int) = b
      · right
        rw [if_pos (by rw [x])]
        refine ⟨_, rfl, Or.inl ⟨rfl, ?_⟩⟩
        have e1 : fst1 (fun i => decide (evk L i = a) && decide ((evb L i : Int) = b)) (i + 1) = (i : Int) := by simp only [fst1]; rw [if_pos hz, if_pos (by rw [ek, eb]; simp [w, x])]
        have := fst1_up (p := fun i => decide (evk L i = a) && decide ((evb L i : Int) = b)) (i := i + 1) (by omega) (L.length - (i + 1))
        rw [show i + 1 + (L.length - (i + 1)) = L.length by omega, e1] at this
        unfold fnd
        rw [this]
      · left
        rw [if_neg (by rw [zI_eq (by omega) (by omega) (by omega) (by omega)]; exact x)]
        exact stay (fun q => x q.2)
    · left
      rw [if_neg (by rw [zI_eq (by omega) (by omega) (by omega) (by omega)]; exact w)]
      exact stay (fun q => w q.1)
  · rintro z ⟨rfl, hz⟩
    unfold fb_M_eventOf_2
    rw [hE.1, if_pos (Int32.le_refl _)]
    exact ⟨_, rfl, Or.inr ⟨rfl, hz⟩⟩
theorem op_when (hJt : Jt n nv A B) (hF : 300 < F) {bn ju jl many mu ml : Int32} (J : JX n nv A B g c y s u o pit bn ju jl) (X : MX n nv A B now many mu ml) (x1 x2 : Int32) (way0 wb0 : Nat → Int32) (kn0 tot0 : Int32) (kd0 wh0 : Nat → Int32) (ov0 un0 : Nat → Int64) (eO0 eU0 : Int64) (dO0 dU0 : Nat → Int64) (sO0 sU0 : Int64) (st0 : Nat → Int32) (re0 fr0 fs0 dr0 ds0 : Nat → Int64) (lu0 : Int64) (bf0 bl0 ba0 sc0 : Nat → Int64) (fR0 fS0 : Int64) (hK : KnG n nv A B kn0 tot0 kd0 wh0 ov0 un0 eO0 eU0) (mo0 : Nat → Int32) (uu0 : Int64) (sl0 mb0 ss0 sb0 of0 : Nat → Int64) (be0 : Nat → Int32) (bs0 : Int32) (ma0 : Nat → Int64) (lO0 lU0 : Int64) (mt0 : Int32) (mk0 mw0 : Nat → Int32) (mv0 mn0 : Nat → Int64) (ha0 : Nat → Int32) (nO0 nU0 : Int64) (me0 fe0 : Nat → Int32) (aO0 aU0 bO0 bU0 : Nat → Int64) (hf : ∀ i, i < 5 → fe0 i = 0) (nu : Nat → Int64) (sz : Int32) (row : Nat → Int64) (rm th : Int32) (hR : RowEq nu sz row rm) :
    ∃ (r : Int32) (way1 wb1 : Nat → Int32) (kn1 tot1 : Int32) (kd1 wh1 : Nat → Int32) (ov1 un1 : Nat → Int64) (eO1 eU1 : Int64) (dO1 dU1 : Nat → Int64) (sO1 sU1 : Int64) (st1 : Nat → Int32) (re1 fr1 fs1 dr1 ds1 : Nat → Int64) (lu1 : Int64) (bf1 bl1 ba1 sc1 : Nat → Int64) (fR1 fS1 : Int64) (nu1 : Nat → Int64) (sz1 : Int32) (mo1 : Nat → Int32) (uu1 : Int64) (sl1 mb1 ss1 sb1 of1 : Nat → Int64) (be1 : Nat → Int32) (bs1 : Int32) (ma1 : Nat → Int64) (lO1 lU1 : Int64) (mt1 : Int32) (mk1 mw1 : Nat → Int32) (mv1 mn1 : Nat → Int64) (ha1 : Nat → Int32) (nO1 nU1 : Int64) (me1 fe1 : Nat → Int32) (aO1 aU1 bO1 bU1 : Nat → Int64) (row1 : Nat → Int64) (rm1 : Int32), f_X_when F x1 x2 way0 wb0 kn0 tot0 kd0 wh0 ov0 un0 eO0 eU0 dO0 dU0 sO0 sU0 st0 re0 fr0 fs0 dr0 ds0 lu0 bf0 bl0 ba0 sc0 fR0 fS0 g c y s u o pit bn ju jl nu sz = some (r, way1, wb1, kn1, tot1, kd1, wh1, ov1, un1, eO1, eU1, dO1, dU1, sO1, sU1, st1, re1, fr1, fs1, dr1, ds1, lu1, bf1, bl1, ba1, sc1, fR1, fS1, nu1, sz1) ∧ f_M_when F x1 x2 now many mu ml row rm th mo0 uu0 sl0 mb0 ss0 sb0 of0 be0 bs0 ma0 lO0 lU0 mt0 mk0 mw0 mv0 mn0 ha0 nO0 nU0 me0 fe0 aO0 aU0 bO0 bU0 = some (r, row1, rm1, (0 : Int32), mo1, uu1, sl1, mb1, ss1, sb1, of1, be1, bs1, ma1, lO1, lU1, mt1, mk1, mw1, mv1, mn1, ha1, nO1, nU1, me1, fe1, aO1, aU1, bO1, bU1) ∧
      KnG n nv A B kn1 tot1 kd1 wh1 ov1 un1 eO1 eU1 ∧ (∀ i, i < 5 → fe1 i = 0) ∧ RowEq nu1 sz1 row1 rm1 := by
  obtain ⟨p, rfl, hp1, hp2⟩ := zI_all x1
  obtain ⟨i, rfl, hi1, hi2⟩ := zI_all x2
  have hJt' := hJt
  obtain ⟨hn, hv, hA, hB⟩ := hJt'
  obtain ⟨J1, ho, rfl, rfl, rfl⟩ := J
  obtain ⟨h, rfl, rfl, rfl⟩ := X
  obtain ⟨way1, wb1, kn1, tot1, kd1, wh1, ov1, un1, eO1, eU1, dO1, dU1, sO1, sU1, st1, re1, fr1, fs1, dr1, ds1, lu1, bf1, bl1, ba1, sc1, fR1, fS1, mo1, uu1, sl1, mb1, ss1, sb1, of1, be1, bs1, ma1, lO1, lU1, mt1, mk1, mw1, mv1, mn1, ha1, nO1, nU1, me1, fe1, aO1, aU1, bO1, bU1, e, em, hK1, hEv, hEm, heO, heU, hlO, hlU, hrec, hf1⟩ := both_grow hJt hF ⟨J1, ho, rfl, rfl, rfl⟩ ⟨h, rfl, rfl, rfl⟩ way0 wb0 kn0 tot0 kd0 wh0 ov0 un0 eO0 eU0 dO0 dU0 sO0 sU0 st0 re0 fr0 fs0 dr0 ds0 lu0 bf0 bl0 ba0 sc0 fR0 fS0 hK mo0 uu0 sl0 mb0 ss0 sb0 of0 be0 bs0 ma0 lO0 lU0 mt0 mk0 mw0 mv0 mn0 ha0 nO0 nU0 me0 fe0 aO0 aU0 bO0 bU0 hf
  obtain ⟨l15, hall⟩ := evL_all (n := n) (nv := nv) (A := A) (B := B) hn hv hA hB
  clear hrec heO heU hlO hlU
  generalize evL n nv A B = L at *
  have hwi : f_X_within (zI p) (0 : Int32) (2 : Int32) = some (zI (b01 (0 ≤ p ∧ p ≤ 2))) := by rw [i0, i2, within_z ⟨hp1, hp2⟩ (by omega) (by omega)]
  have hmi : f_M_in (Int32.toInt64 (zI p)) (0 : Int64) (2 : Int64) = some (zI (b01 (0 ≤ p ∧ p ≤ 2))) := by rw [zI_l (a := p) hp1 hp2, l0z, show (2 : Int64) = zL 2 from rfl, in_z (by omega) (by omega) (by omega)]
  unfold f_X_when f_M_when
  rw [hwi, hmi, Option.bind_some, Option.bind_some]
  by_cases w1 : 0 ≤ p ∧ p ≤ 2
  · rw [if_neg (fun z => (b01_ne0.mp z) w1), if_neg (fun z => (b01_ne0.mp z) w1), has_z hn ⟨hi1, hi2⟩, Option.bind_some, isBolt_z hn ⟨hi1, hi2⟩, Option.bind_some]
    by_cases w2 : 0 ≤ i ∧ i < n
    · rw [if_neg (fun z => (b01_ne0.mp z) w2), if_neg (fun z => (b01_ne0.mp z) w2), e, em]
      simp only [bd27, bd26, Option.bind_some]
      rw [find_z (F := F) (by omega) l15 hn hall hEv (by omega) w2, eventOf_z (F := F) (by omega) l15 hn hall hEm (by omega) w2, Option.bind_some, Option.bind_some]
      rcases fnd_cs L p i with q | ⟨q1, q2⟩
      · rw [q, if_neg (show ¬ (0 : Int32) ≤ zI (-1) by decide), if_pos (show zI (-1) = -1 from rfl)]
        exact ⟨_, way1, wb1, kn1, tot1, kd1, wh1, ov1, un1, eO1, eU1, dO1, dU1, sO1, sU1, st1, re1, fr1, fs1, dr1, ds1, lu1, bf1, bl1, ba1, sc1, fR1, fS1, nu, sz, mo1, uu1, sl1, mb1, ss1, sb1, of1, be1, bs1, ma1, lO1, lU1, mt1, mk1, mw1, mv1, mn1, ha1, nO1, nU1, me1, fe1, aO1, aU1, bO1, bU1, row, rm, rfl, rfl, hK1, hf1, hR⟩
      · obtain ⟨ev, he⟩ := getElem_of_lt q2
        obtain ⟨hk, hw, l1, l2, l3, l4, l5⟩ := hall ev (List.mem_of_getElem? he)
        obtain ⟨z1, z2, z3, z4⟩ := hEv.2 _ ev he
        obtain ⟨y1, y2, y3, y4⟩ := hEm.2 _ ev he
        have ep : fnd L p i = (((fnd L p i).toNat : Nat) : Int) := by omega
        generalize (fnd L p i).toNat = j at *
        rw [ep]
        have LA := fun (f : Nat → Int64) => ldA_z (f := f) (j := j) (n := 15) (by omega) (by omega)
        have LB := fun (f : Nat → Int64) => ldA_z (f := f) (j := j) (n := 32) (by omega) (by omega)
        obtain ⟨nu2, sz2, e2, R2⟩ := fraction_z (F := F) (by omega) (RowC.nil nu) (by show 0 + 2 ≤ 8; omega) (o := ev.2.2.1) (u := ev.2.2.2) (by omega) (by omega) l3 (by omega)
        obtain ⟨row2, rm2, e4, R4⟩ := tellFraction_z (F := F) (by omega) (RowC.nil row) (by show 0 + 2 ≤ 64; omega) (o := ev.2.2.1) (u := ev.2.2.2) (by omega) (by omega) l3 (by omega)
        rw [if_pos (by rw [i0, zI_le (by omega) (by omega) (by omega) (by omega)]; omega), if_neg (by rw [im1, zI_eq (by omega) (by omega) (by omega) (by omega)]; omega)]
        simp only [LA, LB, Option.bind_some, z3, z4, y3, y4]
        rw [e2, e4]
        simp only [bd2, Option.bind_some]
        exact ⟨_, way1, wb1, kn1, tot1, kd1, wh1, ov1, un1, eO1, eU1, dO1, dU1, sO1, sU1, st1, re1, fr1, fs1, dr1, ds1, lu1, bf1, bl1, ba1, sc1, fR1, fS1, nu2, sz2, mo1, uu1, sl1, mb1, ss1, sb1, of1, be1, bs1, ma1, lO1, lU1, mt1, mk1, mw1, mv1, mn1, ha1, nO1, nU1, me1, fe1, aO1, aU1, bO1, bU1, row2, rm2, rfl, rfl, hK1, hf1, _, by show 2 ≤ 8; omega, R2, R4⟩
    · rw [if_pos (b01_ne0.mpr w2), if_pos (b01_ne0.mpr w2)]
      exact ⟨_, way0, wb0, kn0, tot0, kd0, wh0, ov0, un0, eO0, eU0, dO0, dU0, sO0, sU0, st0, re0, fr0, fs0, dr0, ds0, lu0, bf0, bl0, ba0, sc0, fR0, fS0, nu, sz, mo0, uu0, sl0, mb0, ss0, sb0, of0, be0, bs0, ma0, lO0, lU0, mt0, mk0, mw0, mv0, mn0, ha0, nO0, nU0, me0, fe0, aO0, aU0, bO0, bU0, row, rm, rfl, rfl, hK, hf, hR⟩
  · rw [if_pos (b01_ne0.mpr w1), if_pos (b01_ne0.mpr w1)]
    exact ⟨_, way0, wb0, kn0, tot0, kd0, wh0, ov0, un0, eO0, eU0, dO0, dU0, sO0, sU0, st0, re0, fr0, fs0, dr0, ds0, lu0, bf0, bl0, ba0, sc0, fR0, fS0, nu, sz, mo0, uu0, sl0, mb0, ss0, sb0, of0, be0, bs0, ma0, lO0, lU0, mt0, mk0, mw0, mv0, mn0, ha0, nO0, nU0, me0, fe0, aO0, aU0, bO0, bU0, row, rm, rfl, rfl, hK, hf, hR⟩
theorem breaksT_z (hn : n ≤ 5) (hF : 10 < F) (hv : NvOk n nv) (hu : ∀ i, i < n → u i = zI (nv i 4)) (ho : ∀ i, i < n → o i = zI (nv i 5)) : f_J_breaksTogether F u o (zI (n : Int)) = some (zI (sm (fun i => if nv i 5 = 0 then nv i 4 else 0) n)) := by
  have loop := iter_for (body := un2 (fb_J_breaksTogether_4 u o (zI (n : Int)))) (F := F) (s := ((0 : Int32), (0 : Int32))) (fun k z => z = (zI (sm (fun i => if nv i 5 = 0 then nv i 4 else 0) k), zI (k : Int))) (fun q => q = zI (sm (fun i => if nv i 5 = 0 then nv i 4 else 0) n)) n (by omega) rfl ?_ ?_
  · obtain ⟨q, e, rfl⟩ := loop
    unfold f_J_breaksTogether
    rw [e, Option.bind_some]
  · rintro k z hk rfl
    have v := hv k hk
    dsimp only [un2]
    unfold fb_J_breaksTogether_4
    rw [if_neg (by rw [zI_le (by omega) (by omega) (by omega) (by omega)]; omega), ldA_z (by omega) (by omega), Option.bind_some, ho k hk]
    by_cases q : nv k 5 = 0
    · rw [if_pos (by rw [q]; rfl), ldA_z (by omega) (by omega), Option.bind_some, hu k hk]
      simp only [fj_J_breaksTogether_32, nm, zI_1, zI_add]
      refine ⟨_, rfl, ?_⟩
      rw [sm_s, if_pos q]
    · rw [if_neg (by rw [i0, zI_eq (by omega) (by omega) (by omega) (by omega)]; exact q)]
      have ez : ∀ x : Int, zI x + (0 : Int32) = zI x := fun x => by rw [i0, zI_add, Int.add_zero]
      simp only [fj_J_breaksTogether_32, nm, zI_1, ez]
      refine ⟨_, rfl, ?_⟩
      rw [sm_s, if_neg q, Int.add_zero]
  · rintro z rfl
    dsimp only [un2]
    unfold fb_J_breaksTogether_4
    rw [if_pos (Int32.le_refl _)]
    exact ⟨_, rfl, rfl⟩
theorem breakAll_z (hn : n ≤ 5) (hF : 10 < F) (hv : NvOk n nv) (h : ∀ i, i < n → ∀ q, q < 7 → now (7 * i + q) = zI (nv i q)) : f_M_breakAll F now (zI (n : Int)) = some (zI (sm (fun i => if nv i 5 = 0 then nv i 4 else 0) n)) := by
  have loop := iter_for (body := un2 (fb_M_breakAll_4 now (zI (n : Int)))) (F := F) (s := ((0 : Int32), (0 : Int32))) (fun k z => z = (zI (sm (fun i => if nv i 5 = 0 then nv i 4 else 0) k), zI (k : Int))) (fun q => q = zI (sm (fun i => if nv i 5 = 0 then nv i 4 else 0) n)) n (by omega) rfl ?_ ?_
  · obtain ⟨q, e, rfl⟩ := loop
    unfold f_M_breakAll
    rw [e, Option.bind_some]
  · rintro k z hk rfl
    have v := hv k hk
    dsimp only [un2]
    unfold fb_M_breakAll_4
    rw [if_neg (by rw [zI_le (by omega) (by omega) (by omega) (by omega)]; omega), show (5 : Int32) = zI ((5 : Nat) : Int) from rfl, of_z hn h hk (by omega), Option.bind_some]
    by_cases q : nv k 5 = 0
    · rw [if_pos (by rw [q]; rfl), show (4 : Int32) = zI ((4 : Nat) : Int) from rfl, of_z hn h hk (by omega), Option.bind_some]
      simp only [fj_M_breakAll_32, nm, zI_1, zI_add]
      refine ⟨_, rfl, ?_⟩
      rw [sm_s, if_pos q]
    · rw [if_neg (by rw [i0, zI_eq (by omega) (by omega) (by omega) (by omega)]; exact q)]
      have ez : ∀ x : Int, zI x + (0 : Int32) = zI x := fun x => by rw [i0, zI_add, Int.add_zero]
      simp only [fj_M_breakAll_32, nm, zI_1, ez]
      refine ⟨_, rfl, ?_⟩
      rw [sm_s, if_neg q, Int.add_zero]
  · rintro z rfl
    dsimp only [un2]
    unfold fb_M_breakAll_4
    rw [if_pos (Int32.le_refl _)]
    exact ⟨_, rfl, rfl⟩
theorem soundMany_z (hn : n ≤ 5) (hF : 10 < F) (hv : NvOk n nv) (h : ∀ i, i < n → ∀ q, q < 7 → now (7 * i + q) = zI (nv i q)) : f_M_soundMany F now (zI (n : Int)) = some (zI ((sel (fun i => decide (nv i 5 = 0)) n).length : Int)) := by
  have loop := iter_for (body := un2 (fb_M_soundMany_4 now (zI (n : Int)))) (F := F) (s := ((0 : Int32), (0 : Int32))) (fun k z => z = (zI ((sel (fun i => decide (nv i 5 = 0)) k).length : Int), zI (k : Int))) (fun q => q = zI ((sel (fun i => decide (nv i 5 = 0)) n).length : Int)) n (by omega) rfl ?_ ?_
  · obtain ⟨q, e, rfl⟩ := loop
    unfold f_M_soundMany
    rw [e, Option.bind_some]
  · rintro k z hk rfl
    have v := hv k hk
    dsimp only [un2]
    unfold fb_M_soundMany_4
    rw [if_neg (by rw [zI_le (by omega) (by omega) (by omega) (by omega)]; omega), show (5 : Int32) = zI ((5 : Nat) : Int) from rfl, of_z hn h hk (by omega), Option.bind_some]
    simp only [nm, zI_1]
    rw [i1, zI_sub, zI_add]
    refine ⟨_, rfl, ?_⟩
    rw [sel_s]; unfold c1
    by_cases q : nv k 5 = 0
    · rw [if_pos (by simp [q]), q]; rfl
    · rw [if_neg (by simp [q]), show nv k 5 = 1 by omega]
      simp
  · rintro z rfl
    dsimp only [un2]
    unfold fb_M_soundMany_4
    rw [if_pos (Int32.le_refl _)]
    exact ⟨_, rfl, rfl⟩
theorem clearLeast_z (hn : n ≤ 5) (hF : 10 < F) (hv : NvOk n nv) (h : ∀ i, i < n → ∀ q, q < 7 → now (7 * i + q) = zI (nv i q)) {k0 : Int} (hk0 : Lst n nv (snd0 n nv) k0) : f_M_clearLeast F now (zI (n : Int)) = some (zI k0) := by
  have loop := iter_dn (body := un2 (fb_M_clearLeast_9 now))
    (fun M z => ∃ k : Int, M ≤ n ∧ z = (zI k, zI ((M : Int) - 1)) ∧ ((k = -1 ∧ ∀ i, M ≤ i → i < n → ¬ nv i 5 = 0) ∨ ((∃ j, M ≤ j ∧ j < n ∧ nv j 5 = 0 ∧ k = nv j 1) ∧ ∀ i, M ≤ i → i < n → nv i 5 = 0 → k ≤ nv i 1)))
    (fun q => q = zI k0) ?_ F n ((-1 : Int32), zI ((n : Int) - 1)) (by omega) ⟨-1, Nat.le_refl _, rfl, Or.inl ⟨rfl, fun i h1 h2 => absurd h1 (by omega)⟩⟩
  · obtain ⟨q, e, rfl⟩ := loop
    unfold f_M_clearLeast
    simp only [nm]
    rw [show zI (n : Int) - (1 : Int32) = zI ((n : Int) - 1) by rw [i1, zI_sub], e, Option.bind_some]
  · rintro M z ⟨k, hM, rfl, hk⟩
    dsimp only [un2]
    unfold fb_M_clearLeast_9
    cases M with
    | zero =>
      left
      rw [if_pos (by decide)]
      refine ⟨_, rfl, congrArg zI (Lst.unique (n := n) (nv := nv) (m := snd0 n nv) ?_ hk0)⟩
      rcases hk with ⟨k1, k2⟩ | ⟨⟨j, j1, j2, j3, j4⟩, k2⟩
      · refine Or.inl ⟨k1, fun i hi => ?_⟩
        have : ¬ (snd0 n nv).testBit i = true := fun w => k2 i (by omega) hi ((snd0_test i).mp w).2
        simpa using this
      · exact Or.inr ⟨⟨j, j2, (snd0_test j).mpr ⟨j2, j3⟩, j4⟩, fun i hi hl => k2 i (by omega) hi ((snd0_test i).mp hl).2⟩
    | succ i =>
      right
      have hi : i < n := by omega
      have v := hv i hi
      have ei : ((i + 1 : Nat) : Int) - 1 = (i : Int) := by omega
      have hkb : -1 ≤ k ∧ k ≤ 9 := by
        rcases hk with ⟨k1, -⟩ | ⟨⟨j, j1, j2, j3, j4⟩, -⟩
        · omega
        · have := hv j j2; omega
      have keep : (¬ nv i 5 = 0 ∨ (¬ k = -1 ∧ k ≤ nv i 1)) → ∃ m' s', m' < i + 1 ∧ fj_M_clearLeast_44 (zI k) (zI (i : Int)) = some (.inl s') ∧ ∃ k : Int, m' ≤ n ∧ s' = (zI k, zI ((m' : Int) - 1)) ∧ ((k = -1 ∧ ∀ i, m' ≤ i → i < n → ¬ nv i 5 = 0) ∨ ((∃ j, m' ≤ j ∧ j < n ∧ nv j 5 = 0 ∧ k = nv j 1) ∧ ∀ i, m' ≤ i → i < n → nv i 5 = 0 → k ≤ nv i 1)) := fun w => by
        refine ⟨i, (zI k, zI ((i : Int) - 1)), by omega, ?_, k, by omega, rfl, ?_⟩
        · simp only [fj_M_clearLeast_44, nm]
          rw [im1, zI_add]; rfl
        · rcases hk with ⟨k1, k2⟩ | ⟨⟨j, j1, j2, j3, j4⟩, k2⟩
          · refine Or.inl ⟨k1, fun l l1 l2 => ?_⟩
            by_cases x : l = i
            · subst x; exact w.resolve_right (fun y => y.1 k1)
            · exact k2 l (by omega) l2
          · refine Or.inr ⟨⟨j, by omega, j2, j3, j4⟩, fun l l1 l2 l3 => ?_⟩
            by_cases x : l = i
            · subst x
              rcases w with w | w
              · exact absurd l3 w
              · exact w.2
            · exact k2 l (by omega) l2 l3
      have take : nv i 5 = 0 → (k = -1 ∨ nv i 1 < k) → ∃ m' s', m' < i + 1 ∧ fj_M_clearLeast_37 (zI (i : Int)) now = some (.inl s') ∧ ∃ k : Int, m' ≤ n ∧ s' = (zI k, zI ((m' : Int) - 1)) ∧ ((k = -1 ∧ ∀ i, m' ≤ i → i < n → ¬ nv i 5 = 0) ∨ ((∃ j, m' ≤ j ∧ j < n ∧ nv j 5 = 0 ∧ k = nv j 1) ∧ ∀ i, m' ≤ i → i < n → nv i 5 = 0 → k ≤ nv i 1)) := fun w w2 => by
        refine ⟨i, (zI (nv i 1), zI ((i : Int) - 1)), by omega, ?_, nv i 1, by omega, rfl, Or.inr ⟨⟨i, Nat.le_refl _, hi, w, rfl⟩, fun l l1 l2 l3 => ?_⟩⟩
        · unfold fj_M_clearLeast_37
          rw [show (1 : Int32) = zI ((1 : Nat) : Int) from rfl, of_z hn h hi (by omega), Option.bind_some]
          simp only [fj_M_clearLeast_44, nm]
          rw [im1, zI_add]; rfl
        · by_cases x : l = i
          · subst x; exact Int.le_refl _
          · rcases hk with ⟨k1, k2⟩ | ⟨⟨j, j1, j2, j3, j4⟩, k2⟩
            · exact absurd l3 (k2 l (by omega) l2)
            · have := k2 l (by omega) l2 l3
              have := hv j j2
              omega
      rw [ei, if_neg (by rw [i0, zI_lt (by omega) (by omega) (by omega) (by omega)]; omega), show (5 : Int32) = zI ((5 : Nat) : Int) from rfl, of_z hn h hi (by omega), Option.bind_some]
      by_cases q : nv i 5 = 0
      · rw [if_pos (by rw [q]; rfl)]
        by_cases q2 : k = -1
        · rw [if_pos (by rw [q2]; rfl)]
          exact take q (Or.inl q2)
        · rw [if_neg (by rw [im1, zI_eq (by omega) (by omega) (by omega) (by omega)]; exact q2), show (1 : Int32) = zI ((1 : Nat) : Int) from rfl, of_z hn h hi (by omega), Option.bind_some]
          by_cases q3 : k ≤ nv i 1
          · rw [if_pos (by rw [zI_le (by omega) (by omega) (by omega) (by omega)]; exact q3)]
            exact keep (Or.inr ⟨q2, q3⟩)
          · rw [if_neg (by rw [zI_le (by omega) (by omega) (by omega) (by omega)]; exact q3)]
            exact take q (Or.inr (by omega))
      · rw [if_neg (by rw [i0, zI_eq (by omega) (by omega) (by omega) (by omega)]; exact q)]
        exact keep (Or.inl q)
end OPS9
