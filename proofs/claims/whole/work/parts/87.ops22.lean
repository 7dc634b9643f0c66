/-! TEXT: replays -/
section OPS22
variable {n m : Nat} {nv : Nat → Nat → Int} {A B : Int} {F : Nat} {g c y s u pit o now sg tx : Nat → Int32}
theorem ford_z (ht : Px m sg tx) (hm : m ≤ 80) (hn : n ≤ 5) : ∀ (j F1 F2 : Nat), j < F1 → j + 1 < F2 → ∀ (k : Nat) (sn : Int32), k + j = m → (∀ i, i < k → ∃ d : Int, (0 ≤ d ∧ d < n) ∧ sg i = zI (d + 48) ∧ tx i = zI (d + 48)) →
    (iter (un2 (fb_T_findOrderFault_4 (zI (n : Int)) sg (zI (m : Int)))) F1 (sn, zI (k : Int)) = some (1, zI (m : Int)) ∧ iter (un3 (fb_M_replays_13 (zI (n : Int)) tx (zI (m : Int)))) F2 (sn, zI (k : Int), (-1 : Int32)) = some (-1 : Int32) ∧ ∀ i, i < m → ∃ d : Int, (0 ≤ d ∧ d < n) ∧ sg i = zI (d + 48) ∧ tx i = zI (d + 48)) ∨
    (∃ f : Nat, f ≤ m ∧ iter (un2 (fb_T_findOrderFault_4 (zI (n : Int)) sg (zI (m : Int)))) F1 (sn, zI (k : Int)) = some (0, zI (f : Int)) ∧ iter (un3 (fb_M_replays_13 (zI (n : Int)) tx (zI (m : Int)))) F2 (sn, zI (k : Int), (-1 : Int32)) = some (zI (f : Int))) := by
  intro j
  induction j with
  | zero =>
    intro F1 F2 h1 h2 k sn hk hd
    obtain ⟨F1, rfl⟩ : ∃ x, F1 = x + 1 := ⟨F1 - 1, by omega⟩
    obtain ⟨F2, rfl⟩ : ∃ x, F2 = x + 1 := ⟨F2 - 1, by omega⟩
    have hkm : k = m := by omega
    subst hkm
    left
    refine ⟨iter_en ?_, iter_en ?_, hd⟩
    · dsimp only [un2]
      unfold fb_T_findOrderFault_4
      rw [if_pos (Int32.le_refl _)]
    · dsimp only [un3]
      unfold fb_M_replays_13
      rw [if_pos (Int32.le_refl _)]
  | succ j ih =>
    intro F1 F2 h1 h2 k sn hk hd
    obtain ⟨F1, rfl⟩ : ∃ x, F1 = x + 1 := ⟨F1 - 1, by omega⟩
    obtain ⟨F2, rfl⟩ : ∃ x, F2 = x + 1 + 1 := ⟨F2 - 2, by omega⟩
    have hkm : k < m := by omega
    obtain ⟨v, hv, es, et⟩ := ht k hkm
    have hle : ¬ zI (m : Int) ≤ zI (k : Int) := by rw [zI_le (by omega) (by omega) (by omega) (by omega)]; omega
    have dg := digitAt_in hm hkm hv es
    have el : ldA tx 80 (zI (k : Int)) = some (zI (sgb v)) := by rw [ldA_z (f := tx) (by omega) (by omega), et]
    have eand : zI (sgb v) &&& (255 : Int32) = zI v := by
      obtain ⟨w, rfl⟩ : ∃ w : Nat, v = (w : Int) := ⟨v.toNat, by omega⟩
      exact sgb_and w (by omega)
    have e48 : zI v - (48 : Int32) = zI (v - 48) := by rw [show (48 : Int32) = zI 48 from rfl, zI_sub]
    have eb := isBolt_z (n := n) hn (i := v - 48) (by omega)
    have mstop : ∀ l1 l2, un3 (fb_M_replays_13 (zI (n : Int)) tx (zI (m : Int))) (l1, l2, zI (k : Int)) = some (.inr (zI (k : Int))) := by
      intro l1 l2
      dsimp only [un3]
      unfold fb_M_replays_13
      by_cases q : zI (m : Int) ≤ l2
      · rw [if_pos q]
      · rw [if_neg q, if_neg (fz_ne (by omega))]
    have bad1 : fj_M_replays_60 sn (zI (k : Int)) (-1 : Int32) = some (.inl (sn, zI ((k + 1 : Nat) : Int), zI (k : Int))) := by
      unfold fj_M_replays_60
      rw [mfault_z, Option.bind_some]
      simp only [fj_M_replays_74, nm, zI_1]
    by_cases q1 : 0 ≤ v - 48 ∧ v - 48 < (n : Int)
    · have hdig : zI (if 48 ≤ v ∧ v ≤ 57 then v - 48 else -1) = zI (v - 48) := by rw [if_pos (by omega)]
      rw [hdig] at dg
      have c1 : ¬ zI (v - 48) < (0 : Int32) := fun z => absurd ((zI_lt (a := v - 48) (b := 0) (by omega) (by omega) (by omega) (by omega)).mp z) (by omega)
      have c2 : ¬ zI (n : Int) ≤ zI (v - 48) := by rw [zI_le (by omega) (by omega) (by omega) (by omega)]; omega
      by_cases q2 : ((sn >>> (zI (v - 48) &&& 31)) &&& (1 : Int32)) = (1 : Int32)
      · right
        refine ⟨k, by omega, iter_en ?_, iter_st (F := F2 + 1) (s' := (sn, zI ((k + 1 : Nat) : Int), zI (k : Int))) ?_ (iter_en (mstop _ _))⟩
        · dsimp only [un2]
          unfold fb_T_findOrderFault_4
          rw [if_neg hle, dg, Option.bind_some, if_neg c1, if_neg c2, if_pos q2]
        · dsimp only [un3]
          unfold fb_M_replays_13
          rw [if_neg hle, if_pos rfl, el, Option.bind_some, eand, e48]
          simp only [nm]
          rw [eb, Option.bind_some, if_neg (fun z => (b01_ne0.mp z) q1), if_pos q2]
          exact bad1
      · have hs1 : un2 (fb_T_findOrderFault_4 (zI (n : Int)) sg (zI (m : Int))) (sn, zI (k : Int)) = some (.inl (sn ||| ((1 : Int32) <<< (zI (v - 48) &&& 31)), zI ((k + 1 : Nat) : Int))) := by
          dsimp only [un2]
          unfold fb_T_findOrderFault_4
          rw [if_neg hle, dg, Option.bind_some, if_neg c1, if_neg c2, if_neg q2]
          simp only [nm, zI_1]
        have hs2 : un3 (fb_M_replays_13 (zI (n : Int)) tx (zI (m : Int))) (sn, zI (k : Int), (-1 : Int32)) = some (.inl (sn ||| ((1 : Int32) <<< (zI (v - 48) &&& 31)), zI ((k + 1 : Nat) : Int), (-1 : Int32))) := by
          dsimp only [un3]
          unfold fb_M_replays_13
          rw [if_neg hle, if_pos rfl, el, Option.bind_some, eand, e48]
          simp only [nm]
          rw [eb, Option.bind_some, if_neg (fun z => (b01_ne0.mp z) q1), if_neg q2]
          simp only [fj_M_replays_74, nm, zI_1]
        rcases ih F1 (F2 + 1) (by omega) (by omega) (k + 1) (sn ||| ((1 : Int32) <<< (zI (v - 48) &&& 31))) (by omega) (fun i hi => by
          by_cases z : i = k
          · rw [z]
            exact ⟨v - 48, q1, by rw [es]; congr 1; omega, by rw [et]; congr 1; unfold sgb; omega⟩
          · exact hd i (by omega)) with ⟨a1, a2, a3⟩ | ⟨f, hf, a1, a2⟩
        · exact Or.inl ⟨iter_st hs1 a1, iter_st hs2 a2, a3⟩
        · exact Or.inr ⟨f, hf, iter_st hs1 a1, iter_st hs2 a2⟩
    · right
      refine ⟨k, by omega, iter_en ?_, iter_st (F := F2 + 1) (s' := (sn, zI ((k + 1 : Nat) : Int), zI (k : Int))) ?_ (iter_en (mstop _ _))⟩
      · dsimp only [un2]
        unfold fb_T_findOrderFault_4
        rw [if_neg hle, dg, Option.bind_some]
        by_cases q3 : 48 ≤ v ∧ v ≤ 57
        · rw [if_pos q3, if_neg (show ¬ zI (v - 48) < (0 : Int32) from fun z => absurd ((zI_lt (a := v - 48) (b := 0) (by omega) (by omega) (by omega) (by omega)).mp z) (by omega)), if_pos (by rw [zI_le (by omega) (by omega) (by omega) (by omega)]; omega)]
        · rw [if_neg q3, if_pos (show zI (-1) < (0 : Int32) by decide)]
      · dsimp only [un3]
        unfold fb_M_replays_13
        rw [if_neg hle, if_pos rfl, el, Option.bind_some, eand, e48]
        simp only [nm]
        rw [eb, Option.bind_some, if_pos (b01_ne0.mpr q1)]
        exact bad1
theorem ordL_pre {L : List Ev4} : ∀ (j k : Nat), k + j ≤ L.length → ∀ i, i < (ordL L k).length → (ordL L (k + j))[i]? = (ordL L k)[i]? := by
  intro j
  induction j with
  | zero => intro k _ i _; rfl
  | succ j ih =>
    intro k hk i hi
    obtain ⟨e, he⟩ := getElem_of_lt (L := L) (i := k + j) (by omega)
    have h1 := ih k (by omega) i hi
    have hl : (ordL L k).length ≤ (ordL L (k + j)).length := by
      rw [ordL_len, ordL_len]; exact sel_le _ (by omega)
    rw [show k + (j + 1) = k + j + 1 from rfl, ordL_s he]
    by_cases w : e.1 = 2
    · rw [if_pos w, List.getElem?_append_left (by omega), h1]
    · rw [if_neg w, h1]
theorem ordL_new {L : List Ev4} {k : Nat} {e : Ev4} (he : L[k]? = some e) (w : e.1 = 2) : (ordL L L.length)[(ordL L k).length]? = some (e.2.1 : Int) ∧ (ordL L (k + 1)).length = (ordL L k).length + 1 := by
  have hk : k < L.length := (List.getElem?_eq_some_iff.mp he).1
  have hs := ordL_s he
  rw [if_pos w] at hs
  have hl : (ordL L (k + 1)).length = (ordL L k).length + 1 := by rw [hs, List.length_append]; rfl
  refine ⟨?_, hl⟩
  have := ordL_pre (L := L) (L.length - (k + 1)) (k + 1) (by omega) (ordL L k).length (by omega)
  rw [show k + 1 + (L.length - (k + 1)) = L.length by omega] at this
  rw [this, hs, List.getElem?_append_right (Nat.le_refl _), Nat.sub_self]
  rfl
theorem ordL_old {L : List Ev4} {k : Nat} {e : Ev4} (he : L[k]? = some e) (w : ¬ e.1 = 2) : ordL L (k + 1) = ordL L k := by rw [ordL_s he, if_neg w]
theorem brokenAs_z (hF : 40 < F) {L : List Ev4} (hL : L.length ≤ 15) (hall : ∀ e ∈ L, (0 ≤ e.1 ∧ e.1 ≤ 2) ∧ e.2.1 < n ∧ LOk e.2.2.1 e.2.2.2) (h5 : ∀ k, k ≤ L.length → (ordL L k).length ≤ 5) {tot : Int32} {kd wh : Nat → Int32} {ov un : Nat → Int64} (hE : EvZ L tot kd wh ov un) {q : Nat} (hq : q < (ordL L L.length).length) :
    ∃ b : Nat, b < n ∧ (ordL L L.length)[q]? = some (b : Int) ∧ f_G_brokenAs F (zI (q : Int)) tot kd wh = some (zI (b : Int)) := by
  have h5L := h5 L.length (Nat.le_refl _)
  obtain ⟨r, er, k, e, rfl, he, w, hs⟩ := iter_up (body := un2 (fb_G_brokenAs_4 (zI (q : Int)) tot kd)) (fun k z => z = (zI ((ordL L k).length : Int), zI (k : Int)) ∧ (ordL L k).length ≤ q) (fun r => ∃ (k : Nat) (e : Ev4), r = (0, zI (k : Int)) ∧ L[k]? = some e ∧ e.1 = 2 ∧ (ordL L k).length = q) L.length (by
    rintro k z hk ⟨rfl, hz⟩
    obtain ⟨e, he⟩ := getElem_of_lt hk
    obtain ⟨z1, z2, z3, z4⟩ := hE.2 k e he
    have hmem := hall e (List.mem_of_getElem? he)
    dsimp only [un2]
    unfold fb_G_brokenAs_4
    rw [hE.1, if_neg (by rw [zI_le (by omega) (by omega) (by omega) (by omega)]; omega), ldA_z (f := kd) (by omega) (by omega), Option.bind_some, z1]
    by_cases w : e.1 = 2
    · obtain ⟨n1, n2⟩ := ordL_new he w
      rw [if_pos (show zI e.1 = (2 : Int32) by rw [w]; rfl)]
      by_cases x : (ordL L k).length = q
      · rw [if_pos (show zI ((ordL L k).length : Int) = zI (q : Int) by rw [x])]
        exact Or.inr ⟨_, rfl, k, e, rfl, he, w, x⟩
      · rw [if_neg (fun y => x (by have := (zI_eq (by omega) (by omega) (by omega) (by omega)).mp y; omega))]
        simp only [fj_G_brokenAs_37, nm, zI_1]
        exact Or.inl ⟨_, rfl, by rw [n2], by omega⟩
    · rw [if_neg (show ¬ zI e.1 = (2 : Int32) from fun y => w ((zI_eq (a := e.1) (b := 2) (by omega) (by omega) (by omega) (by omega)).mp y))]
      simp only [fj_G_brokenAs_37, nm, zI_1]
      exact Or.inl ⟨_, rfl, by rw [ordL_old he w], by rw [ordL_old he w]; exact hz⟩) (by
    rintro z ⟨-, hz⟩
    omega) L.length 0 F ((0 : Int32), (0 : Int32)) (by omega) (by omega) ⟨rfl, Nat.zero_le _⟩
  have hk : k < L.length := (List.getElem?_eq_some_iff.mp he).1
  have hmem := hall e (List.mem_of_getElem? he)
  obtain ⟨z1, z2, z3, z4⟩ := hE.2 k e he
  refine ⟨e.2.1, hmem.2.1, by rw [← hs]; exact (ordL_new he w).1, ?_⟩
  unfold f_G_brokenAs
  rw [er]
  simp only [bd2, Option.bind_some]
  rw [if_pos trivial, ldA_z (f := wh) (by omega) (by omega), Option.bind_some, z2]
/-- how many signs are as the bolts broke -/
def Smn (m : Nat) (dd : Nat → Int) (bl : List Int) (q : Nat) : Prop := q ≤ m ∧ q ≤ bl.length ∧ (∀ i, i < q → bl[i]? = some (dd i)) ∧ (q = m ∨ q = bl.length ∨ ¬ bl[q]? = some (dd q))
theorem Smn.one {dd : Nat → Int} {bl : List Int} {a b : Nat} (h : Smn m dd bl a) (h' : Smn m dd bl b) : a = b := by
  obtain ⟨p1, p2, p3, p4⟩ := h
  obtain ⟨q1, q2, q3, q4⟩ := h'
  rcases Nat.lt_trichotomy a b with w | w | w
  · rcases p4 with x | x | x
    · omega
    · omega
    · exact absurd (q3 a w) x
  · exact w
  · rcases q4 with x | x | x
    · omega
    · omega
    · exact absurd (p3 b w) x
theorem xsame_z (hm : m ≤ 80) (hF : 100 < F) {dd : Nat → Int} (hd : ∀ i, i < m → (0 ≤ dd i ∧ dd i < n) ∧ sg i = zI (dd i + 48) ∧ tx i = zI (dd i + 48)) (hn : n ≤ 5) {L : List Ev4} (hL : L.length ≤ 15) (hall : ∀ e ∈ L, (0 ≤ e.1 ∧ e.1 ≤ 2) ∧ e.2.1 < n ∧ LOk e.2.2.1 e.2.2.2) (h5 : ∀ k, k ≤ L.length → (ordL L k).length ≤ 5) {tot : Int32} {kd wh : Nat → Int32} {ov un : Nat → Int64} (hE : EvZ L tot kd wh ov un) :
    ∃ q : Nat, iter (fb_X_replays_42 F (zI (m : Int)) (zI ((ordL L L.length).length : Int)) tot kd wh sg (zI (m : Int))) F (0 : Int32) = some (zI (q : Int)) ∧ Smn m dd (ordL L L.length) q := by
  have h5L := h5 L.length (Nat.le_refl _)
  obtain ⟨r, er, q, rfl, hq⟩ := iter_up (body := fb_X_replays_42 F (zI (m : Int)) (zI ((ordL L L.length).length : Int)) tot kd wh sg (zI (m : Int))) (fun k z => z = zI (k : Int) ∧ k ≤ (ordL L L.length).length ∧ ∀ i, i < k → (ordL L L.length)[i]? = some (dd i)) (fun r => ∃ q : Nat, r = zI (q : Int) ∧ Smn m dd (ordL L L.length) q) m (by
    rintro k z hk ⟨rfl, hz, hp⟩
    unfold fb_X_replays_42
    rw [if_neg (by rw [zI_le (by omega) (by omega) (by omega) (by omega)]; omega)]
    by_cases x : (ordL L L.length).length ≤ k
    · rw [if_pos (by rw [zI_le (by omega) (by omega) (by omega) (by omega)]; omega)]
      exact Or.inr ⟨_, rfl, k, rfl, by omega, hz, hp, Or.inr (Or.inl (by omega))⟩
    · obtain ⟨b, hb, eb, er⟩ := brokenAs_z (F := F) (by omega) hL hall h5 hE (q := k) (by omega)
      obtain ⟨d1, d2, d3⟩ := hd k hk
      have dg := digitAt_in hm hk (by omega) d2
      rw [if_pos (by omega), show dd k + 48 - 48 = dd k by omega] at dg
      rw [if_neg (by rw [zI_le (by omega) (by omega) (by omega) (by omega)]; omega), dg, Option.bind_some, er, Option.bind_some]
      by_cases w : dd k = (b : Int)
      · rw [if_pos (by rw [w])]
        simp only [nm, zI_1]
        refine Or.inl ⟨_, rfl, rfl, by omega, fun i hi => ?_⟩
        by_cases y : i = k
        · rw [y, eb, w]
        · exact hp i (by omega)
      · rw [if_neg (fun y => w ((zI_eq (by omega) (by omega) (by omega) (by omega)).mp y))]
        exact Or.inr ⟨_, rfl, k, rfl, by omega, hz, hp, Or.inr (Or.inr (by rw [eb]; exact fun y => w (Option.some.inj y).symm))⟩) (by
    rintro z ⟨rfl, hz, hp⟩
    unfold fb_X_replays_42
    rw [if_pos (Int32.le_refl _)]
    exact ⟨_, rfl, m, rfl, Nat.le_refl _, hz, hp, Or.inl rfl⟩) m 0 F (0 : Int32) (by omega) (by omega) ⟨rfl, Nat.zero_le _, fun i hi => absurd hi (Nat.not_lt_zero i)⟩
  exact ⟨q, er, hq⟩
theorem msame_z (hm : m ≤ 80) (hF : 100 < F) {dd : Nat → Int} (hd : ∀ i, i < m → (0 ≤ dd i ∧ dd i < n) ∧ sg i = zI (dd i + 48) ∧ tx i = zI (dd i + 48)) (hn : n ≤ 5) {L : List Ev4} (hL : L.length ≤ 15) (hall : ∀ e ∈ L, (0 ≤ e.1 ∧ e.1 ≤ 2) ∧ e.2.1 < n ∧ LOk e.2.2.1 e.2.2.2) (h5 : ∀ k, k ≤ L.length → (ordL L k).length ≤ 5) {tot : Int32} {kd wh : Nat → Int32} {ov un : Nat → Int64} (hE : EvZ L tot kd wh ov un) :
    ∃ q : Nat, iter (un4 (fb_M_replays_109 tx (zI (m : Int)) tot kd wh)) F ((0 : Int32), (0 : Int32), (1 : Int32), (0 : Int32)) = some (zI (q : Int), zI ((ordL L L.length).length : Int)) ∧ Smn m dd (ordL L L.length) q := by
  have hsz : ∀ x : Nat, zI (x : Int) + (0 : Int32) = zI (x : Int) := fun x => by rw [i0, zI_add, Int.add_zero]
  obtain ⟨r, er, q, rfl, hq⟩ := iter_for (body := un4 (fb_M_replays_109 tx (zI (m : Int)) tot kd wh)) (F := F) (s := ((0 : Int32), (0 : Int32), (1 : Int32), (0 : Int32)))
    (fun k z => ∃ (q : Nat) (lk : Int32), z = (zI (q : Int), zI ((ordL L k).length : Int), lk, zI (k : Int)) ∧ q ≤ m ∧ q ≤ (ordL L k).length ∧ (∀ i, i < q → (ordL L L.length)[i]? = some (dd i)) ∧ ((lk = 1 ∧ q = (ordL L k).length) ∨ (lk = 0 ∧ (q = m ∨ ¬ (ordL L L.length)[q]? = some (dd q)))))
    (fun r => ∃ q : Nat, r = (zI (q : Int), zI ((ordL L L.length).length : Int)) ∧ Smn m dd (ordL L L.length) q) L.length (by omega) ⟨0, 1, rfl, Nat.zero_le _, Nat.zero_le _, fun i hi => absurd hi (Nat.not_lt_zero i), Or.inl ⟨rfl, rfl⟩⟩ (by
    rintro k z hk ⟨q, lk, rfl, hqm, hqa, hp, hlk⟩
    obtain ⟨e, he⟩ := getElem_of_lt hk
    obtain ⟨z1, z2, z3, z4⟩ := hE.2 k e he
    have hmem := hall e (List.mem_of_getElem? he)
    have h5k := h5 k (by omega)
    dsimp only [un4]
    unfold fb_M_replays_109
    rw [hE.1, if_neg (by rw [zI_le (by omega) (by omega) (by omega) (by omega)]; omega), ldA_z (f := kd) (by omega) (by omega), Option.bind_some, z1]
    by_cases w : e.1 = 2
    · obtain ⟨n1, n2⟩ := ordL_new he w
      have low : fj_M_replays_168 (zI (q : Int)) (zI ((ordL L k).length : Int)) (zI (k : Int)) = some (.inl (zI (q : Int), zI ((ordL L (k + 1)).length : Int), (0 : Int32), zI ((k + 1 : Nat) : Int))) := by
        unfold fj_M_replays_168 fj_M_replays_169
        rw [if_pos rfl]
        simp only [fj_M_replays_182, fj_M_replays_187, nm, zI_1, hsz, n2]
      rw [if_pos (show zI e.1 = (2 : Int32) by rw [w]; rfl)]
      rcases hlk with ⟨rfl, hl⟩ | ⟨rfl, hl⟩
      · rw [if_neg (by decide)]
        by_cases x : m ≤ (ordL L k).length
        · rw [if_pos (by rw [zI_le (by omega) (by omega) (by omega) (by omega)]; omega), low]
          exact ⟨_, rfl, q, 0, rfl, hqm, by omega, hp, Or.inr ⟨rfl, Or.inl (by omega)⟩⟩
        · obtain ⟨d1, d2, d3⟩ := hd (ordL L k).length (by omega)
          have e48 : zI (dd (ordL L k).length + 48) - (48 : Int32) = zI (dd (ordL L k).length) := by rw [show (48 : Int32) = zI 48 from rfl, zI_sub]; congr 1; omega
          rw [if_neg (by rw [zI_le (by omega) (by omega) (by omega) (by omega)]; omega), ldA_z (f := tx) (by omega) (by omega), Option.bind_some, ldA_z (f := wh) (by omega) (by omega), Option.bind_some, d3, z2, e48]
          by_cases v : dd (ordL L k).length = (e.2.1 : Int)
          · rw [if_pos (by rw [v])]
            unfold fj_M_replays_169
            rw [if_neg (by decide)]
            simp only [fj_M_replays_182, fj_M_replays_187, nm, zI_1]
            refine ⟨_, rfl, q + 1, 1, by rw [n2], by omega, by omega, fun i hi => ?_, Or.inl ⟨rfl, by omega⟩⟩
            by_cases y : i = q
            · rw [y, hl, n1, v]
            · exact hp i (by omega)
          · rw [if_neg (fun y => v ((zI_eq (by omega) (by omega) (by omega) (by omega)).mp y)), low]
            refine ⟨_, rfl, q, 0, rfl, hqm, by omega, hp, Or.inr ⟨rfl, Or.inr ?_⟩⟩
            rw [hl, n1]
            exact fun y => v (Option.some.inj y).symm
      · rw [if_pos rfl, low]
        exact ⟨_, rfl, q, 0, rfl, hqm, by omega, hp, Or.inr ⟨rfl, hl⟩⟩
    · have eo := ordL_old he w
      rw [if_neg (show ¬ zI e.1 = (2 : Int32) from fun y => w ((zI_eq (a := e.1) (b := 2) (by omega) (by omega) (by omega) (by omega)).mp y))]
      simp only [fj_M_replays_187, nm, zI_1]
      exact ⟨_, rfl, q, lk, by rw [eo], hqm, by rw [eo]; exact hqa, hp, by rw [eo]; exact hlk⟩) (by
    rintro z ⟨q, lk, rfl, hqm, hqa, hp, hlk⟩
    dsimp only [un4]
    unfold fb_M_replays_109
    rw [hE.1, if_pos (Int32.le_refl _)]
    refine ⟨_, rfl, q, rfl, hqm, hqa, hp, ?_⟩
    rcases hlk with ⟨-, hl⟩ | ⟨-, hl | hl⟩
    · exact Or.inr (Or.inl hl)
    · exact Or.inl hl
    · exact Or.inr (Or.inr hl))
  exact ⟨q, er, hq⟩
theorem op_replays (hJt : Jt n nv A B) (hF : 300 < F) {bn ju jl many mu ml : Int32} (J : JX n nv A B g c y s u o pit bn ju jl) (X : MX n nv A B now many mu ml) {ts ty : Int32} (hT : TX m sg ts tx ty) (way0 wb0 : Nat → Int32) (kn0 tot0 : Int32) (kd0 wh0 : Nat → Int32) (ov0 un0 : Nat → Int64) (eO0 eU0 : Int64) (dO0 dU0 : Nat → Int64) (sO0 sU0 : Int64) (st0 : Nat → Int32) (re0 fr0 fs0 dr0 ds0 : Nat → Int64) (lu0 : Int64) (bf0 bl0 ba0 sc0 : Nat → Int64) (fR0 fS0 : Int64) (hK : KnG n nv A B kn0 tot0 kd0 wh0 ov0 un0 eO0 eU0) (mo0 : Nat → Int32) (uu0 : Int64) (sl0 mb0 ss0 sb0 of0 : Nat → Int64) (be0 : Nat → Int32) (bs0 : Int32) (ma0 : Nat → Int64) (lO0 lU0 : Int64) (mt0 : Int32) (mk0 mw0 : Nat → Int32) (mv0 mn0 : Nat → Int64) (ha0 : Nat → Int32) (nO0 nU0 : Int64) (me0 fe0 : Nat → Int32) (aO0 aU0 bO0 bU0 : Nat → Int64) (hf : ∀ i, i < 5 → fe0 i = 0) (nu : Nat → Int64) (sz : Int32) (row : Nat → Int64) (rm th len att wr : Int32) (hR : RowEq nu sz row rm) :
    ∃ (r : Int32) (way1 wb1 : Nat → Int32) (kn1 tot1 : Int32) (kd1 wh1 : Nat → Int32) (ov1 un1 : Nat → Int64) (eO1 eU1 : Int64) (dO1 dU1 : Nat → Int64) (sO1 sU1 : Int64) (st1 : Nat → Int32) (re1 fr1 fs1 dr1 ds1 : Nat → Int64) (lu1 : Int64) (bf1 bl1 ba1 sc1 : Nat → Int64) (fR1 fS1 : Int64) (nu1 : Nat → Int64) (sz1 : Int32) (mo1 : Nat → Int32) (uu1 : Int64) (sl1 mb1 ss1 sb1 of1 : Nat → Int64) (be1 : Nat → Int32) (bs1 : Int32) (ma1 : Nat → Int64) (lO1 lU1 : Int64) (mt1 : Int32) (mk1 mw1 : Nat → Int32) (mv1 mn1 : Nat → Int64) (ha1 : Nat → Int32) (nO1 nU1 : Int64) (me1 fe1 : Nat → Int32) (aO1 aU1 bO1 bU1 : Nat → Int64) (row1 : Nat → Int64) (rm1 len1 at1 wr1 : Int32), f_X_replays F way0 wb0 kn0 tot0 kd0 wh0 ov0 un0 eO0 eU0 dO0 dU0 sO0 sU0 st0 re0 fr0 fs0 dr0 ds0 lu0 bf0 bl0 ba0 sc0 fR0 fS0 g c y s u o pit bn ju jl sg ts nu sz = some (r, way1, wb1, kn1, tot1, kd1, wh1, ov1, un1, eO1, eU1, dO1, dU1, sO1, sU1, st1, re1, fr1, fs1, dr1, ds1, lu1, bf1, bl1, ba1, sc1, fR1, fS1, (0 : Int32), nu1, sz1) ∧ f_M_replays F now many mu ml tx ty row rm th len att wr mo0 uu0 sl0 mb0 ss0 sb0 of0 be0 bs0 ma0 lO0 lU0 mt0 mk0 mw0 mv0 mn0 ha0 nO0 nU0 me0 fe0 aO0 aU0 bO0 bU0 = some (r, (0 : Int32), row1, rm1, (0 : Int32), len1, at1, wr1, mo1, uu1, sl1, mb1, ss1, sb1, of1, be1, bs1, ma1, lO1, lU1, mt1, mk1, mw1, mv1, mn1, ha1, nO1, nU1, me1, fe1, aO1, aU1, bO1, bU1) ∧
      KnG n nv A B kn1 tot1 kd1 wh1 ov1 un1 eO1 eU1 ∧ (∀ i, i < 5 → fe1 i = 0) ∧ RowEq nu1 sz1 row1 rm1 := by
  obtain ⟨hm, rfl, rfl, ht⟩ := hT
  have ht : Px m sg tx := ht
  have hJt' := hJt
  obtain ⟨hn, hv, hA, hB⟩ := hJt'
  obtain ⟨J1, ho, rfl, rfl, rfl⟩ := J
  obtain ⟨h, rfl, rfl, rfl⟩ := X
  obtain ⟨way1, wb1, kn1, tot1, kd1, wh1, ov1, un1, eO1, eU1, dO1, dU1, sO1, sU1, st1, re1, fr1, fs1, dr1, ds1, lu1, bf1, bl1, ba1, sc1, fR1, fS1, mo1, uu1, sl1, mb1, ss1, sb1, of1, be1, bs1, ma1, lO1, lU1, mt1, mk1, mw1, mv1, mn1, ha1, nO1, nU1, me1, fe1, aO1, aU1, bO1, bU1, e, em, hK1, hEv, hEm, heO, heU, hlO, hlU, hrec, hf1⟩ := both_grow hJt hF ⟨J1, ho, rfl, rfl, rfl⟩ ⟨h, rfl, rfl, rfl⟩ way0 wb0 kn0 tot0 kd0 wh0 ov0 un0 eO0 eU0 dO0 dU0 sO0 sU0 st0 re0 fr0 fs0 dr0 ds0 lu0 bf0 bl0 ba0 sc0 fR0 fS0 hK mo0 uu0 sl0 mb0 ss0 sb0 of0 be0 bs0 ma0 lO0 lU0 mt0 mk0 mw0 mv0 mn0 ha0 nO0 nU0 me0 fe0 aO0 aU0 bO0 bU0 hf
  obtain ⟨l15, hall⟩ := evL_all (n := n) (nv := nv) (A := A) (B := B) hn hv hA hB
  have h5 : ∀ k, k ≤ (evL n nv A B).length → (ordL (evL n nv A B) k).length ≤ 5 := fun k hk => by
    have h0 : (sel (fun i => decide (evk (evL n nv A B) i = 2)) k).length + popc (lft (snd0 n nv) ((evL n nv A B).take k)) n ≤ n := breaks_le hn (gs_ok (n := n) (nv := nv) (A := A) (B := B) hn hv hA hB 15).1 k hk
    rw [ordL_len]
    omega
  clear hrec heO heU hlO hlU
  generalize evL n nv A B = L at *
  have ec : f_G_countOf F (2 : Int32) tot1 kd1 = some (zI ((ordL L L.length).length : Int)) := by
    rw [ordL_len]
    exact countOf_z (F := F) (by omega) l15 (fun e he => (hall e he).1) hEv (a := 2) (by omega)
  have h5L := h5 L.length (Nat.le_refl _)
  unfold f_X_replays f_M_replays f_M_begin
  rw [e]
  simp only [bd27, bd4, Option.bind_some]
  rcases ford_z ht hm hn m F F (by omega) (by omega) 0 (0 : Int32) (by omega) (fun i hi => absurd hi (Nat.not_lt_zero i)) with ⟨a1, a2, a3⟩ | ⟨f, hf2, a1, a2⟩
  · have efo : f_T_findOrderFault F (zI (n : Int)) sg (zI (m : Int)) = some (-1 : Int32) := by
      unfold f_T_findOrderFault
      rw [show iter (un2 (fb_T_findOrderFault_4 (zI (n : Int)) sg (zI (m : Int)))) F ((0 : Int32), (0 : Int32)) = _ from a1]
      simp only [bd2, Option.bind_some]
      rw [if_neg (by decide)]
    have hch : ∀ i, ∃ d : Int, i < m → (0 ≤ d ∧ d < n) ∧ sg i = zI (d + 48) ∧ tx i = zI (d + 48) := fun i => by
      by_cases q : i < m
      · obtain ⟨d, hd⟩ := a3 i q
        exact ⟨d, fun _ => hd⟩
      · exact ⟨0, fun w => absurd w q⟩
    obtain ⟨dd, hd⟩ := Classical.axiomOfChoice hch
    obtain ⟨q1, e1, s1⟩ := xsame_z (F := F) hm (by omega) hd hn l15 hall h5 hEv
    obtain ⟨q2, e2, s2⟩ := msame_z (F := F) hm (by omega) hd hn l15 hall h5 hEm
    have hq := s1.one s2
    subst hq
    have b1 := s1.1
    have b2 := s1.2.1
    have fin : ∀ b : Int, ∃ (nu1 : Nat → Int64) (sz1 : Int32) (row1 : Nat → Int64) (rm1 : Int32), f_R_whole (zL b) nu (0 : Int32) = some (nu1, sz1) ∧ f_M_tell (zL b) row (0 : Int32) = some (row1, rm1) ∧ RowEq nu1 sz1 row1 rm1 := fun b => by
      obtain ⟨nu1, sz1, w1, w2⟩ := whole_z (RowC.nil nu) (by show 0 < 8; omega) b
      obtain ⟨row1, rm1, w3, w4⟩ := tell_z (RowC.nil row) (by show 0 < 64; omega) b
      exact ⟨nu1, sz1, row1, rm1, w1, w3, [] ++ [b], by show 1 ≤ 8; omega, w2, w4⟩
    rw [efo, Option.bind_some, ec, Option.bind_some, e1, Option.bind_some, show iter (un3 (fb_M_replays_13 (zI (n : Int)) tx (zI (m : Int)))) F ((0 : Int32), (0 : Int32), (-1 : Int32)) = _ from a2, Option.bind_some]
    unfold fj_X_replays_81 fj_M_replays_80
    rw [if_pos (show (-1 : Int32) < (0 : Int32) by decide), if_pos rfl, em]
    simp only [bd26, Option.bind_some]
    rw [e2]
    simp only [bd2, Option.bind_some]
    obtain ⟨nu0', sz0', row0', rm0', x1, x2, x3⟩ := fin 0
    obtain ⟨nu1', sz1', row1', rm1', y1, y2, y3⟩ := fin 1
    have x1 : f_R_whole (0 : Int64) nu (0 : Int32) = some (nu0', sz0') := x1
    have x2 : f_M_tell (0 : Int64) row (0 : Int32) = some (row0', rm0') := x2
    have y1 : f_R_whole (1 : Int64) nu (0 : Int32) = some (nu1', sz1') := y1
    have y2 : f_M_tell (1 : Int64) row (0 : Int32) = some (row1', rm1') := y2
    rw [x1, x2, y1, y2]
    simp only [Option.bind_some]
    by_cases p1 : q1 = m
    · rw [if_pos (show zI (q1 : Int) = zI (m : Int) by rw [p1]), if_pos (show zI (q1 : Int) = zI (m : Int) by rw [p1])]
      by_cases p2 : q1 = (ordL L L.length).length
      · rw [if_pos (show zI (q1 : Int) = zI ((ordL L L.length).length : Int) by rw [p2]), if_pos (show zI ((ordL L L.length).length : Int) = zI (m : Int) by rw [← p2, p1])]
        exact ⟨_, way1, wb1, kn1, tot1, kd1, wh1, ov1, un1, eO1, eU1, dO1, dU1, sO1, sU1, st1, re1, fr1, fs1, dr1, ds1, lu1, bf1, bl1, ba1, sc1, fR1, fS1, nu1', sz1', mo1, uu1, sl1, mb1, ss1, sb1, of1, be1, bs1, ma1, lO1, lU1, mt1, mk1, mw1, mv1, mn1, ha1, nO1, nU1, me1, fe1, aO1, aU1, bO1, bU1, row1', rm1', _, _, _, rfl, rfl, hK1, hf1, y3⟩
      · rw [if_neg (fun w => p2 (by have := (zI_eq (by omega) (by omega) (by omega) (by omega)).mp w; omega)), if_neg (fun w => p2 (by have := (zI_eq (by omega) (by omega) (by omega) (by omega)).mp w; omega))]
        exact ⟨_, way1, wb1, kn1, tot1, kd1, wh1, ov1, un1, eO1, eU1, dO1, dU1, sO1, sU1, st1, re1, fr1, fs1, dr1, ds1, lu1, bf1, bl1, ba1, sc1, fR1, fS1, nu0', sz0', mo1, uu1, sl1, mb1, ss1, sb1, of1, be1, bs1, ma1, lO1, lU1, mt1, mk1, mw1, mv1, mn1, ha1, nO1, nU1, me1, fe1, aO1, aU1, bO1, bU1, row0', rm0', _, _, _, rfl, rfl, hK1, hf1, x3⟩
    · have ne : ¬ zI (q1 : Int) = zI (m : Int) := fun w => p1 (by have := (zI_eq (by omega) (by omega) (by omega) (by omega)).mp w; omega)
      rw [if_neg ne, if_neg ne]
      exact ⟨_, way1, wb1, kn1, tot1, kd1, wh1, ov1, un1, eO1, eU1, dO1, dU1, sO1, sU1, st1, re1, fr1, fs1, dr1, ds1, lu1, bf1, bl1, ba1, sc1, fR1, fS1, nu0', sz0', mo1, uu1, sl1, mb1, ss1, sb1, of1, be1, bs1, ma1, lO1, lU1, mt1, mk1, mw1, mv1, mn1, ha1, nO1, nU1, me1, fe1, aO1, aU1, bO1, bU1, row0', rm0', _, _, _, rfl, rfl, hK1, hf1, x3⟩
  · have efo : f_T_findOrderFault F (zI (n : Int)) sg (zI (m : Int)) = some (zI (f : Int)) := by
      unfold f_T_findOrderFault
      rw [show iter (un2 (fb_T_findOrderFault_4 (zI (n : Int)) sg (zI (m : Int)))) F ((0 : Int32), (0 : Int32)) = _ from a1]
      simp only [bd2, Option.bind_some]
      rw [if_pos trivial]
    have hxl : ∃ z, iter (fb_X_replays_42 F (zI (m : Int)) (zI ((ordL L L.length).length : Int)) tot1 kd1 wh1 sg (zI (m : Int))) F (0 : Int32) = some z := by
      obtain ⟨r, er, -⟩ := iter_up (body := fb_X_replays_42 F (zI (m : Int)) (zI ((ordL L L.length).length : Int)) tot1 kd1 wh1 sg (zI (m : Int))) (fun k z => z = zI (k : Int)) (fun _ => True) m (by
        rintro k z hk rfl
        obtain ⟨v, hv, es, et⟩ := ht k hk
        unfold fb_X_replays_42
        rw [if_neg (by rw [zI_le (by omega) (by omega) (by omega) (by omega)]; omega)]
        by_cases x : (ordL L L.length).length ≤ k
        · rw [if_pos (by rw [zI_le (by omega) (by omega) (by omega) (by omega)]; omega)]
          exact Or.inr ⟨_, rfl, trivial⟩
        · obtain ⟨b, hb, eb, er⟩ := brokenAs_z (F := F) (by omega) l15 hall h5 hEv (q := k) (by omega)
          rw [if_neg (by rw [zI_le (by omega) (by omega) (by omega) (by omega)]; omega), digitAt_in hm hk hv es, Option.bind_some, er, Option.bind_some]
          by_cases w : zI (if 48 ≤ v ∧ v ≤ 57 then v - 48 else -1) = zI (b : Int)
          · rw [if_pos w]
            simp only [nm, zI_1]
            exact Or.inl ⟨_, rfl, rfl⟩
          · rw [if_neg w]
            exact Or.inr ⟨_, rfl, trivial⟩) (by
        rintro z rfl
        unfold fb_X_replays_42
        rw [if_pos (Int32.le_refl _)]
        exact ⟨_, rfl, trivial⟩) m 0 F (0 : Int32) (by omega) (by omega) rfl
      exact ⟨r, er⟩
    obtain ⟨z, ez⟩ := hxl
    rw [efo, Option.bind_some, ec, Option.bind_some, ez, Option.bind_some, show iter (un3 (fb_M_replays_13 (zI (n : Int)) tx (zI (m : Int)))) F ((0 : Int32), (0 : Int32), (-1 : Int32)) = _ from a2, Option.bind_some]
    unfold fj_X_replays_81 fj_M_replays_80
    rw [if_neg (show ¬ zI (f : Int) < (0 : Int32) from fun z => absurd ((zI_lt (a := (f : Int)) (b := 0) (by omega) (by omega) (by omega) (by omega)).mp z) (by omega)), if_neg (fz_ne (by omega))]
    exact ⟨_, way1, wb1, kn1, tot1, kd1, wh1, ov1, un1, eO1, eU1, dO1, dU1, sO1, sU1, st1, re1, fr1, fs1, dr1, ds1, lu1, bf1, bl1, ba1, sc1, fR1, fS1, nu, sz, mo0, uu0, sl0, mb0, ss0, sb0, of0, be0, bs0, ma0, lO0, lU0, mt0, mk0, mw0, mv0, mn0, ha0, nO0, nU0, me0, fe0, aO0, aU0, bO0, bU0, row, rm, _, _, _, rfl, rfl, hK1, hf, hR⟩
end OPS22
