/-! TEXT: a joint is read -/
section OPS20
variable {n m : Nat} {nv : Nat → Nat → Int} {A B : Int} {F : Nat} {g c y s u pit o now sg tx : Nat → Int32}
/-- what the model has read of n bolts -/
def RD (n : Nat) (nv : Nat → Nat → Int) (rd : Nat → Int32) : Prop := (∀ i, i < n → ∀ q, q < 5 → rd (2 + 6 * i + q) = zI (nv i q)) ∧ ∀ i, i + 1 < n → rd (2 + 6 * (i + 1) + 5) = zI (nv i 6)
def Rdy (n : Nat) (nv : Nat → Nat → Int) (g c y s u o pit rd : Nat → Int32) : Prop := (1 ≤ n ∧ n ≤ 5) ∧ NvOk n nv ∧ (∀ i, i < n → nv i 5 = 0) ∧ nv (n - 1) 6 = 0 ∧ JOk n nv g c y s u pit ∧ (∀ i, i < n → o i = zI (nv i 5)) ∧ RD n nv rd
theorem set6_ok (hv : NvOk n nv) {k : Nat} {w : Int} (hw : 0 ≤ w ∧ w ≤ 2) : NvOk n (nvSet nv k 6 w) := by
  intro i hi
  have z := hv i hi
  have keep : ∀ q, q ≠ 6 → nvSet nv k 6 w i q = nv i q := fun q x => if_neg fun y => x y.2
  rw [keep 0 (by omega), keep 1 (by omega), keep 2 (by omega), keep 3 (by omega), keep 4 (by omega), keep 5 (by omega)]
  have h6 : 0 ≤ nvSet nv k 6 w i 6 ∧ nvSet nv k 6 w i 6 ≤ 2 := by
    by_cases x : i = k
    · rw [show nvSet nv k 6 w i 6 = w from if_pos ⟨x, rfl⟩]; exact hw
    · rw [show nvSet nv k 6 w i 6 = nv i 6 from if_neg fun y => x y.1]; omega
  omega
theorem set6_j (J : JOk n nv g c y s u pit) {k : Nat} {w : Int} : JOk n (nvSet nv k 6 w) g c y s u (upd pit k (zI w)) := by
  obtain ⟨j1, j2, j3, j4, j5, j6⟩ := J
  have keep : ∀ i q, q ≠ 6 → nvSet nv k 6 w i q = nv i q := fun i q x => if_neg fun y => x y.2
  refine ⟨fun i hi => ?_, fun i hi => ?_, fun i hi => ?_, fun i hi => ?_, fun i hi => ?_, fun i hi => ?_⟩
  · rw [keep i 0 (by omega)]; exact j1 i hi
  · rw [keep i 1 (by omega)]; exact j2 i hi
  · rw [keep i 2 (by omega)]; exact j3 i hi
  · rw [keep i 3 (by omega)]; exact j4 i hi
  · rw [keep i 4 (by omega)]; exact j5 i hi
  · rw [upd_at]
    by_cases z : i = k
    · rw [if_pos z, show nvSet nv k 6 w i 6 = w from if_pos ⟨z, rfl⟩]
    · rw [if_neg z, show nvSet nv k 6 w i 6 = nv i 6 from if_neg fun y => z y.1]; exact j6 i hi
/-- behind a fault both loops stop -/
theorem cl_stop {f : Nat} (hf : f ≤ 80) (k nx sz bn : Int32) (g c y s u o pit : Nat → Int32) : un11 (fb_T_readJoint_44 F sg sz) (k, nx, zI (f : Int), g, c, y, s, u, o, pit, bn) = some (.inr (nx, zI (f : Int), g, c, y, s, u, o, pit, bn)) := by
  dsimp only [un11]
  unfold fb_T_readJoint_44
  by_cases q : (5 : Int32) ≤ k
  · rw [if_pos q]
  · rw [if_neg q, if_pos (fz_le hf)]
theorem ml_stop {f : Nat} (hf : f ≤ 80) (k nx sz : Int32) (rd : Nat → Int32) : un4 (fb_M_joint_37 F tx sz) (k, nx, zI (f : Int), rd) = some (.inr (k, nx, zI (f : Int), rd)) := by
  dsimp only [un4]
  unfold fb_M_joint_37
  rw [if_neg (fz_ne hf)]
/-- what both loops come to: all is read, or one fault is found -/
def JOut (m : Nat) (rd0 : Nat → Int32) (x : Option (Int32 × Int32 × (Nat → Int32) × (Nat → Int32) × (Nat → Int32) × (Nat → Int32) × (Nat → Int32) × (Nat → Int32) × (Nat → Int32) × Int32)) (z : Option (Int32 × Int32 × Int32 × (Nat → Int32))) : Prop :=
  (∃ (N : Nat) (rv : Nat → Nat → Int) (nx : Int32) (g' k' y' s' u' o' p' rd' : Nat → Int32) (at' : Int32), Rdy N rv g' k' y' s' u' o' p' rd' ∧ rd' 0 = rd0 0 ∧ rd' 1 = rd0 1 ∧ x = some (nx, (-1 : Int32), g', k', y', s', u', o', p', zI (N : Int)) ∧ z = some (zI (N : Int), at', (-1 : Int32), rd')) ∨
  (∃ (f : Nat) (nx : Int32) (g' k' y' s' u' o' p' rd' : Nat → Int32) (bn' l1' at' : Int32), f ≤ m ∧ x = some (nx, zI (f : Int), g', k', y', s', u', o', p', bn') ∧ z = some (l1', at', zI (f : Int), rd'))
theorem lock (ht : Px m sg tx) (hm : m ≤ 80) (hF : 10 < F) : ∀ (j F1 F2 : Nat), j + 1 < F1 → j + 1 < F2 → ∀ (k a : Nat) (nv : Nat → Nat → Int) (g c y s u o pit rd : Nat → Int32), k + j = 4 → a ≤ m → Rdy (k + 1) nv g c y s u o pit rd →
    JOut m rd (iter (un11 (fb_T_readJoint_44 F sg (zI (m : Int)))) F1 (zI (k : Int), zI (a : Int), (-1 : Int32), g, c, y, s, u, o, pit, zI ((k + 1 : Nat) : Int))) (iter (un4 (fb_M_joint_37 F tx (zI (m : Int)))) F2 (zI ((k + 1 : Nat) : Int), zI (a : Int), (-1 : Int32), rd)) := by
  intro j
  induction j with
  | zero => ?_
  | succ j ih => ?_
  all_goals
    intro F1 F2 h1 h2 k a nv g c y s u o pit rd hk ha hR
    obtain ⟨F1, rfl⟩ : ∃ x, F1 = x + 2 := ⟨F1 - 2, by omega⟩
    obtain ⟨F2, rfl⟩ : ∃ x, F2 = x + 2 := ⟨F2 - 2, by omega⟩
    have hk5 : ¬ (5 : Int32) ≤ zI (k : Int) := fun z => absurd ((zI_le (a := 5) (b := (k : Int)) (by omega) (by omega) (by omega) (by omega)).mp z) (by omega)
    have hn1 : ¬ (0 : Int32) ≤ (-1 : Int32) := by decide
    have hk0 : ¬ zI ((k + 1 : Nat) : Int) = (0 : Int32) := fun z => absurd ((zI_eq (a := ((k + 1 : Nat) : Int)) (b := 0) (by omega) (by omega) (by omega) (by omega)).mp z) (by omega)
    have hk1 : ¬ zI ((k + 1 : Nat) : Int) ≤ (0 : Int32) := fun z => absurd ((zI_le (a := ((k + 1 : Nat) : Int)) (b := 0) (by omega) (by omega) (by omega) (by omega)).mp z) (by omega)
    have e2 : (2 : Int32) + ((6 : Int32) * zI ((k + 1 : Nat) : Int)) = zI ((2 + 6 * (k + 1) : Nat) : Int) := by
      rw [show (6 : Int32) = zI 6 from rfl, zI_mul, show (2 : Int32) = zI 2 from rfl, zI_add]; rfl
    by_cases hlt : a < m
    rotate_left
    · left
      have hle : zI (m : Int) ≤ zI (a : Int) := by rw [zI_le (by omega) (by omega) (by omega) (by omega)]; omega
      have hnl : ¬ zI (a : Int) < zI (m : Int) := by rw [zI_lt (by omega) (by omega) (by omega) (by omega)]; omega
      refine ⟨k + 1, nv, zI (a : Int), g, c, y, s, u, o, pit, rd, zI (a : Int), hR, rfl, rfl, iter_en (F := F1 + 1) ?_, iter_en (F := F2 + 1) ?_⟩
      · dsimp only [un11]
        unfold fb_T_readJoint_44
        rw [if_neg hk5, if_neg hn1, if_pos hle]
      · dsimp only [un4]
        unfold fb_M_joint_37
        rw [if_pos rfl, if_neg hnl, if_neg hk0]
    have hle : ¬ zI (m : Int) ≤ zI (a : Int) := by rw [zI_le (by omega) (by omega) (by omega) (by omega)]; omega
    have hnl : zI (a : Int) < zI (m : Int) := by rw [zI_lt (by omega) (by omega) (by omega) (by omega)]; omega
    obtain ⟨v, hv, es, et⟩ := ht a hlt
    have eld : ldA sg 80 (zI (a : Int)) = some (zI v) := by rw [ldA_z (f := sg) (by omega) (by omega), es]
    have ehe := here_in hm hlt hv et
    have fault : (v ≠ 47 ∨ k = 4) → JOut m rd (iter (un11 (fb_T_readJoint_44 F sg (zI (m : Int)))) (F1 + 2) (zI (k : Int), zI (a : Int), (-1 : Int32), g, c, y, s, u, o, pit, zI ((k + 1 : Nat) : Int))) (iter (un4 (fb_M_joint_37 F tx (zI (m : Int)))) (F2 + 2) (zI ((k + 1 : Nat) : Int), zI (a : Int), (-1 : Int32), rd)) := by
      intro hor
      right
      refine ⟨a, zI (a : Int), g, c, y, s, u, o, pit, rd, zI ((k + 1 : Nat) : Int), zI ((k + 1 : Nat) : Int), zI (a : Int), ha, iter_st (F := F1 + 1) (s' := (zI ((k + 1 : Nat) : Int), zI (a : Int), zI (a : Int), g, c, y, s, u, o, pit, zI ((k + 1 : Nat) : Int))) ?_ (iter_en (F := F1) (cl_stop (by omega) _ _ _ _ _ _ _ _ _ _ _)), iter_st (F := F2 + 1) (s' := (zI ((k + 1 : Nat) : Int), zI (a : Int), zI (a : Int), rd)) ?_ (iter_en (F := F2) (ml_stop (by omega) _ _ _ _))⟩
      · dsimp only [un11]
        unfold fb_T_readJoint_44
        rw [if_neg hk5, if_neg hn1, if_neg hle, eld, Option.bind_some]
        by_cases q : v = 47
        · have hb : f_J_has (zI (k : Int)) (zI ((k + 1 : Nat) : Int)) = some (zI (b01 (0 ≤ (k : Int) ∧ (k : Int) < ((k + 1 : Nat) : Int)))) := has_z (n := k + 1) (by omega) (by omega)
          rw [if_pos (show zI v = (47 : Int32) by rw [q]; rfl), hb, Option.bind_some, if_neg (fun z => (b01_ne0.mp z) (by omega)), if_neg (show ¬ zI ((k + 1 : Nat) : Int) < (5 : Int32) from fun z => absurd ((zI_lt (a := ((k + 1 : Nat) : Int)) (b := 5) (by omega) (by omega) (by omega) (by omega)).mp z) (by omega))]
          simp only [fj_T_readJoint_97, fj_T_readJoint_138, nm, zI_1]
        · rw [if_neg (show ¬ zI v = (47 : Int32) from fun z => q ((zI_eq (a := v) (b := 47) (by omega) (by omega) (by omega) (by omega)).mp z))]
          simp only [fj_T_readJoint_97, fj_T_readJoint_138, nm, zI_1]
      · dsimp only [un4]
        unfold fb_M_joint_37
        rw [if_pos rfl, if_pos hnl]
        unfold fj_M_joint_60
        simp only [nm]
        rw [if_neg hk1, ehe, Option.bind_some]
        have e85 : fj_M_joint_85 F (zI ((k + 1 : Nat) : Int)) ((2 : Int32) + ((6 : Int32) * zI ((k + 1 : Nat) : Int))) tx (zI (m : Int)) (zI (a : Int)) (-1 : Int32) rd = some (.inl (zI ((k + 1 : Nat) : Int), zI (a : Int), zI (a : Int), rd)) := by
          unfold fj_M_joint_85
          rw [mfault_z, Option.bind_some]
          unfold fj_M_joint_93
          rw [if_neg (fz_ne (by omega))]
        by_cases q : v = 47
        · rw [if_pos (show zI v = (47 : Int32) by rw [q]; rfl), if_pos (show zI ((k + 1 : Nat) : Int) = (5 : Int32) from (zI_eq (a := ((k + 1 : Nat) : Int)) (b := 5) (by omega) (by omega) (by omega) (by omega)).mpr (by omega))]
          exact e85
        · rw [if_neg (show ¬ zI v = (47 : Int32) from fun z => q ((zI_eq (a := v) (b := 47) (by omega) (by omega) (by omega) (by omega)).mp z))]
          exact e85
    by_cases q : v ≠ 47 ∨ k = 4
    · exact fault q
  · exact absurd (show v ≠ 47 ∨ k = 4 by omega) q
  · have hv47 : v = 47 := by omega
    have hk4 : k < 4 := by omega
    have hb : f_J_has (zI (k : Int)) (zI ((k + 1 : Nat) : Int)) = some (zI (b01 (0 ≤ (k : Int) ∧ (k : Int) < ((k + 1 : Nat) : Int)))) := has_z (n := k + 1) (by omega) (by omega)
    have h5 : zI ((k + 1 : Nat) : Int) < (5 : Int32) := (zI_lt (a := ((k + 1 : Nat) : Int)) (b := 5) (by omega) (by omega) (by omega) (by omega)).mpr (by omega)
    have h5' : ¬ zI ((k + 1 : Nat) : Int) = (5 : Int32) := fun z => absurd ((zI_eq (a := ((k + 1 : Nat) : Int)) (b := 5) (by omega) (by omega) (by omega) (by omega)).mp z) (by omega)
    obtain ⟨r1, r2, r3, r4, r5, r6, r7⟩ := hR
    have e5 : zI ((2 + 6 * (k + 1) : Nat) : Int) + (5 : Int32) = zI ((2 + 6 * (k + 1) + 5 : Nat) : Int) := zI_addN _ 5
    have hclass : ∀ R, (bd3 (f_T_readNumber F (1 : Int32) (0 : Int32) (2 : Int32) sg (zI (m : Int)) (zI ((a + 1 : Nat) : Int)) (-1 : Int32)) fun r_122 T_next_122 T_fault_122 => bd10 (f_T_readBolt F sg (zI (m : Int)) T_next_122 T_fault_122 g c y s u o pit (zI ((k + 1 : Nat) : Int))) fun x1 x2 x3 x4 x5 x6 x7 x8 x9 x10 => (stI x9 5 (zI (k : Int)) r_122).bind fun x11 => fj_T_readJoint_138 (zI (k : Int)) x1 x2 x3 x4 x5 x6 x7 x8 x11 x10) = R → un11 (fb_T_readJoint_44 F sg (zI (m : Int))) (zI (k : Int), zI (a : Int), (-1 : Int32), g, c, y, s, u, o, pit, zI ((k + 1 : Nat) : Int)) = R := by
      intro R hR
      dsimp only [un11]
      unfold fb_T_readJoint_44
      rw [if_neg hk5, if_neg hn1, if_neg hle, eld, Option.bind_some, if_pos (show zI v = (47 : Int32) by rw [hv47]; rfl), hb, Option.bind_some, if_neg (fun z => (b01_ne0.mp z) (by omega)), if_pos h5]
      simp only [nm, zI_1]
      exact hR
    have hmodel : ∀ R, (bd3 (f_M_digits F (1 : Int32) (0 : Int32) (2 : Int32) tx (zI (m : Int)) (zI ((a + 1 : Nat) : Int)) (-1 : Int32)) fun r_129 M_at_129 M_wrong_129 => (stI rd 32 (zI ((2 + 6 * (k + 1) + 5 : Nat) : Int)) r_129).bind fun x => fj_M_joint_133 F (zI ((k + 1 : Nat) : Int)) (zI ((2 + 6 * (k + 1) : Nat) : Int)) tx (zI (m : Int)) M_at_129 M_wrong_129 x) = R → un4 (fb_M_joint_37 F tx (zI (m : Int))) (zI ((k + 1 : Nat) : Int), zI (a : Int), (-1 : Int32), rd) = R := by
      intro R hR
      dsimp only [un4]
      unfold fb_M_joint_37
      rw [if_pos rfl, if_pos hnl]
      unfold fj_M_joint_60
      simp only [nm]
      rw [if_neg hk1, ehe, Option.bind_some, if_pos (show zI v = (47 : Int32) by rw [hv47]; rfl), if_neg h5']
      unfold fj_M_joint_93
      rw [if_pos rfl, if_neg hk1]
      simp only [nm, zI_1, e2, e5]
      exact hR
    rcases rn_zz ht hm hF (x1 := (1 : Int32)) (l2 := (0 : Int32)) (l3 := (2 : Int32)) (d := 1) (a := a + 1) (lo := 0) (hi := 2) rfl rfl rfl (Or.inl rfl) (by omega) (by omega) (by omega) with ⟨w, hw, ha1, c0, d0⟩ | ⟨f, r, nx, r', nx', hf, c0, d0⟩
    rotate_left
    · right
      obtain ⟨nx1, g1, k1, y1, s1, u1, o1, p1, b1, hb1, e1⟩ := bolt_bad (sg := sg) hF (show f ≤ 80 by omega) (show k + 1 ≤ 5 by omega) (zI (m : Int)) nx g c y s u o pit
      obtain ⟨l1', at', rd', em⟩ := mbolt_bad (tx := tx) hF (show f ≤ 80 by omega) (show 2 + 6 * (k + 1) + 5 < 32 by omega) (zI ((k + 1 : Nat) : Int)) (zI (m : Int)) nx' (upd rd (2 + 6 * (k + 1) + 5) r')
      refine ⟨f, nx1, g1, k1, y1, s1, u1, o1, upd p1 k r, rd', zI (b1 : Int), l1', at', hf, iter_st (F := F1 + 1) (hclass (some (.inl (zI ((k + 1 : Nat) : Int), nx1, zI (f : Int), g1, k1, y1, s1, u1, o1, upd p1 k r, zI (b1 : Int)))) ?_) (iter_en (F := F1) (cl_stop (by omega) _ _ _ _ _ _ _ _ _ _ _)), iter_st (F := F2 + 1) (hmodel (some (.inl (l1', at', zI (f : Int), rd'))) ?_) (iter_en (F := F2) (ml_stop (by omega) _ _ _ _))⟩
      · rw [c0]
        simp only [bd3, Option.bind_some]
        rw [e1]
        simp only [bd10, Option.bind_some]
        rw [stI_z (f := p1) (j := k) (by omega) (by omega), Option.bind_some]
        simp only [fj_T_readJoint_138, nm, zI_1]
      · rw [d0]
        simp only [bd3, Option.bind_some]
        rw [stI_z (f := rd) (j := 2 + 6 * (k + 1) + 5) (by omega) (by omega), Option.bind_some]
        exact em
    rcases bolt_z ht hm hF (a := a + 1 + 1) (n := k + 1) (b := 2 + 6 * (k + 1)) (by omega) (by omega) (by omega) r5 r6 (zI ((k + 1 : Nat) : Int)) (upd rd (2 + 6 * (k + 1) + 5) (zI w)) with ⟨v0, v1, v2, v3, v4, a', g', k', y', s', u', o', p', rd', hfa, ha', haa, e1, J1', ho', em, hq, hrd⟩ | ⟨f, hf, ⟨nx1, g1, k1, y1, s1, u1, o1, p1, b1, hb1, e1⟩, ⟨l1', at', rd', em⟩⟩
    rotate_left
    · right
      refine ⟨f, nx1, g1, k1, y1, s1, u1, o1, upd p1 k (zI w), rd', zI (b1 : Int), l1', at', hf, iter_st (F := F1 + 1) (hclass (some (.inl (zI ((k + 1 : Nat) : Int), nx1, zI (f : Int), g1, k1, y1, s1, u1, o1, upd p1 k (zI w), zI (b1 : Int)))) ?_) (iter_en (F := F1) (cl_stop (by omega) _ _ _ _ _ _ _ _ _ _ _)), iter_st (F := F2 + 1) (hmodel (some (.inl (l1', at', zI (f : Int), rd'))) ?_) (iter_en (F := F2) (ml_stop (by omega) _ _ _ _))⟩
      · rw [c0]
        simp only [bd3, Option.bind_some]
        rw [e1]
        simp only [bd10, Option.bind_some]
        rw [stI_z (f := p1) (j := k) (by omega) (by omega), Option.bind_some]
        simp only [fj_T_readJoint_138, nm, zI_1]
      · rw [d0]
        simp only [bd3, Option.bind_some]
        rw [stI_z (f := rd) (j := 2 + 6 * (k + 1) + 5) (by omega) (by omega), Option.bind_some]
        exact em
    have hnew : Rdy (k + 1 + 1) (nvSet (nvAdd (k + 1) nv v0 v1 v2 v3 v4) k 6 w) g' k' y' s' u' o' (upd p' k (zI w)) rd' := by
      have keep : ∀ i q, ¬ (i = k ∧ q = 6) → nvSet (nvAdd (k + 1) nv v0 v1 v2 v3 v4) k 6 w i q = nvAdd (k + 1) nv v0 v1 v2 v3 v4 i q := fun i q x => if_neg x
      refine ⟨by omega, set6_ok (nvAdd_ok r2 hfa) hw, fun i hi => ?_, ?_, set6_j J1', fun i hi => ?_, fun i hi q hq5 => ?_, fun i hi => ?_⟩
      · rw [keep i 5 (by omega)]
        by_cases z : i = k + 1
        · rw [z]; exact nvAdd_new 5
        · rw [nvAdd_old z (by omega)]; exact r3 i (by omega)
      · show nvSet _ _ _ _ (k + 1) 6 = 0
        rw [keep (k + 1) 6 (by omega)]; exact nvAdd_new 6
      · rw [keep i 5 (by omega)]; exact ho' i hi
      · rw [keep i q (by omega)]
        by_cases z : i = k + 1
        · rw [z]; exact hq q hq5
        · rw [nvAdd_old z (by omega), hrd _ (by omega), upd_at, if_neg (by omega)]
          exact r7.1 i (by omega) q hq5
      · by_cases z : i = k
        · rw [show nvSet (nvAdd (k + 1) nv v0 v1 v2 v3 v4) k 6 w i 6 = w from if_pos ⟨z, rfl⟩, z, hrd _ (by omega), upd_at, if_pos rfl]
        · rw [keep i 6 (by omega), nvAdd_old (by omega) (by omega), hrd _ (by omega), upd_at, if_neg (by omega)]
          exact r7.2 i (by omega)
    have hstep1 := hclass (some (.inl (zI ((k + 1 : Nat) : Int), zI (a' : Int), (-1 : Int32), g', k', y', s', u', o', upd p' k (zI w), zI ((k + 1 + 1 : Nat) : Int)))) (by
      rw [c0]
      simp only [bd3, Option.bind_some]
      rw [e1]
      simp only [bd10, Option.bind_some]
      rw [stI_z (f := p') (j := k) (by omega) (by omega), Option.bind_some]
      simp only [fj_T_readJoint_138, nm, zI_1])
    have hstep2 := hmodel (some (.inl (zI ((k + 1 + 1 : Nat) : Int), zI (a' : Int), (-1 : Int32), rd'))) (by
      rw [d0]
      simp only [bd3, Option.bind_some]
      rw [stI_z (f := rd) (j := 2 + 6 * (k + 1) + 5) (by omega) (by omega), Option.bind_some, em, zI_1])
    have hrest := ih (F1 + 1) (F2 + 1) (by omega) (by omega) (k + 1) a' _ g' k' y' s' u' o' (upd p' k (zI w)) rd' (by omega) ha' hnew
    have h00 : rd' 0 = rd 0 := by rw [hrd 0 (by omega), upd_at, if_neg (by omega)]
    have h01 : rd' 1 = rd 1 := by rw [hrd 1 (by omega), upd_at, if_neg (by omega)]
    rcases hrest with ⟨N, rv, nx, g2, k2, y2, s2, u2, o2, p2, rd2, at2, q1, q2, q3, q4, q5⟩ | ⟨f, nx, g2, k2, y2, s2, u2, o2, p2, rd2, b2, l2, at2, q1, q2, q3⟩
    · exact Or.inl ⟨N, rv, nx, g2, k2, y2, s2, u2, o2, p2, rd2, at2, q1, by rw [q2, h00], by rw [q3, h01], iter_st hstep1 q4, iter_st hstep2 q5⟩
    · exact Or.inr ⟨f, nx, g2, k2, y2, s2, u2, o2, p2, rd2, b2, l2, at2, q1, iter_st hstep1 q2, iter_st hstep2 q3⟩
end OPS20
