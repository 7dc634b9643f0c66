/-! TEXT: a bolt is read -/
section OPS19
variable {n m : Nat} {nv : Nat → Nat → Int} {A B : Int} {F : Nat} {g c y s u pit o now sg tx : Nat → Int32}
theorem rn_zz (ht : Px m sg tx) (hm : m ≤ 80) (hF : 10 < F) {x1 l2 l3 : Int32} {d a : Nat} {lo hi : Int} (h1 : x1 = zI (d : Int)) (h2 : l2 = zI lo) (h3 : l3 = zI hi) (hd : d = 1 ∨ d = 2) (ha : a ≤ m) (hlo : 0 ≤ lo ∧ lo ≤ 100) (hhi : 0 ≤ hi ∧ hi ≤ 100) :
    (∃ v : Int, (lo ≤ v ∧ v ≤ hi) ∧ a + d ≤ m ∧ f_T_readNumber F x1 l2 l3 sg (zI (m : Int)) (zI (a : Int)) (-1 : Int32) = some (zI v, zI ((a + d : Nat) : Int), (-1 : Int32)) ∧
      f_M_digits F x1 l2 l3 tx (zI (m : Int)) (zI (a : Int)) (-1 : Int32) = some (zI v, zI ((a + d : Nat) : Int), (-1 : Int32))) ∨
    (∃ (f : Nat) (r nx r' nx' : Int32), f ≤ m ∧ f_T_readNumber F x1 l2 l3 sg (zI (m : Int)) (zI (a : Int)) (-1 : Int32) = some (r, nx, zI (f : Int)) ∧
      f_M_digits F x1 l2 l3 tx (zI (m : Int)) (zI (a : Int)) (-1 : Int32) = some (r', nx', zI (f : Int))) := by
  subst h1 h2 h3
  exact rn_z ht hm hF hd ha hlo hhi
theorem jok_any (n : Nat) (g c y s u o pit : Nat → Int32) : ∃ nv : Nat → Nat → Int, JOk n nv g c y s u pit ∧ ∀ i, i < n → o i = zI (nv i 5) :=
  ⟨fun i q => if q = 0 then (g i).toInt else if q = 1 then (c i).toInt else if q = 2 then (y i).toInt else if q = 3 then (s i).toInt else if q = 4 then (u i).toInt else if q = 5 then (o i).toInt else (pit i).toInt, ⟨fun i _ => (Int32.ofInt_toInt (g i)).symm, fun i _ => (Int32.ofInt_toInt (c i)).symm, fun i _ => (Int32.ofInt_toInt (y i)).symm, fun i _ => (Int32.ofInt_toInt (s i)).symm, fun i _ => (Int32.ofInt_toInt (u i)).symm, fun i _ => (Int32.ofInt_toInt (pit i)).symm⟩, fun i _ => (Int32.ofInt_toInt (o i)).symm⟩
theorem addT {b : Nat} (hb : b ≤ 5) (x1 x2 x3 x4 x5 : Int32) (g c y s u o pit : Nat → Int32) : ∃ (g' k' y' s' u' o' p' : Nat → Int32) (b' : Nat), b' ≤ 5 ∧ f_J_add x1 x2 x3 x4 x5 g c y s u o pit (zI (b : Int)) = some (g', k', y', s', u', o', p', zI (b' : Int)) := by
  by_cases q : b < 5
  · obtain ⟨nv, J1, ho⟩ := jok_any b g c y s u o pit
    obtain ⟨a1, rfl, -⟩ := zI_all x1
    obtain ⟨a2, rfl, -⟩ := zI_all x2
    obtain ⟨a3, rfl, -⟩ := zI_all x3
    obtain ⟨a4, rfl, -⟩ := zI_all x4
    obtain ⟨a5, rfl, -⟩ := zI_all x5
    obtain ⟨g', k', y', s', u', o', p', e, -, -⟩ := add_z q J1 ho a1 a2 a3 a4 a5
    exact ⟨g', k', y', s', u', o', p', b + 1, by omega, e⟩
  · refine ⟨g, c, y, s, u, o, pit, b, hb, ?_⟩
    unfold f_J_add
    rw [if_neg (show ¬ zI (b : Int) < (5 : Int32) from fun z => absurd ((zI_lt (a := (b : Int)) (b := 5) (by omega) (by omega) (by omega) (by omega)).mp z) (by omega))]
theorem bolt_tail {b : Nat} (hb : b ≤ 5) (x1 x2 x3 x4 x5 nx fz : Int32) (g c y s u o pit : Nat → Int32) : ∃ (nx' : Int32) (g' k' y' s' u' o' p' : Nat → Int32) (b' : Nat), b' ≤ 5 ∧ (bd8 (f_J_add x1 x2 x3 x4 x5 g c y s u o pit (zI (b : Int))) fun g' k' y' s' u' o' p' b' => some (nx, fz, g', k', y', s', u', o', p', b')) = some (nx', fz, g', k', y', s', u', o', p', zI (b' : Int)) := by
  obtain ⟨g', k', y', s', u', o', p', b', h, e⟩ := addT hb x1 x2 x3 x4 x5 g c y s u o pit
  refine ⟨nx, g', k', y', s', u', o', p', b', h, ?_⟩
  rw [e]
  rfl
theorem bolt_bad (hF : 10 < F) {f : Nat} (hf : f ≤ 80) {b : Nat} (hb : b ≤ 5) (sz nx : Int32) (g c y s u o pit : Nat → Int32) : ∃ (nx' : Int32) (g' k' y' s' u' o' p' : Nat → Int32) (b' : Nat), b' ≤ 5 ∧ f_T_readBolt F sg sz nx (zI (f : Int)) g c y s u o pit (zI (b : Int)) = some (nx', zI (f : Int), g', k', y', s', u', o', p', zI (b' : Int)) := by
  have RB := fun l1 l2 l3 sz nx => rn_bad (sg := sg) (F := F) hF hf l1 l2 l3 sz nx
  unfold f_T_readBolt
  simp only [RB, bd3, Option.bind_some]
  exact bolt_tail hb _ _ _ _ _ _ _ g c y s u o pit

theorem mbolt_bad (hF : 10 < F) {f : Nat} (hf : f ≤ 80) {b : Nat} (hb : b + 5 < 32) (l1 sz nx : Int32) (rd : Nat → Int32) : ∃ (l1' at' : Int32) (rd' : Nat → Int32), fj_M_joint_133 F l1 (zI (b : Int)) tx sz nx (zI (f : Int)) rd = some (.inl (l1', at', zI (f : Int), rd')) := by
  have S0 : ∀ (f : Nat → Int32) (x : Int32), stI f 32 (zI (b : Int)) x = some (upd f b x) := fun f x => stI_z (f := f) (j := b) (by omega) (by omega)
  have S1 : ∀ (f : Nat → Int32) (x : Int32), stI f 32 (zI (b : Int) + (1 : Int32)) x = some (upd f (b + 1) x) := fun f x => by rw [show zI (b : Int) + (1 : Int32) = zI ((b + 1 : Nat) : Int) from zI_addN b 1]; exact stI_z (f := f) (j := b + 1) (by omega) (by omega)
  have S2 : ∀ (f : Nat → Int32) (x : Int32), stI f 32 (zI (b : Int) + (2 : Int32)) x = some (upd f (b + 2) x) := fun f x => by rw [show zI (b : Int) + (2 : Int32) = zI ((b + 2 : Nat) : Int) from zI_addN b 2]; exact stI_z (f := f) (j := b + 2) (by omega) (by omega)
  have S3 : ∀ (f : Nat → Int32) (x : Int32), stI f 32 (zI (b : Int) + (3 : Int32)) x = some (upd f (b + 3) x) := fun f x => by rw [show zI (b : Int) + (3 : Int32) = zI ((b + 3 : Nat) : Int) from zI_addN b 3]; exact stI_z (f := f) (j := b + 3) (by omega) (by omega)
  have S4 : ∀ (f : Nat → Int32) (x : Int32), stI f 32 (zI (b : Int) + (4 : Int32)) x = some (upd f (b + 4) x) := fun f x => by rw [show zI (b : Int) + (4 : Int32) = zI ((b + 4 : Nat) : Int) from zI_addN b 4]; exact stI_z (f := f) (j := b + 4) (by omega) (by omega)
  have L0 : ∀ f : Nat → Int32, ldA f 32 (zI (b : Int)) = some (f b) := fun f => ldA_z (f := f) (j := b) (by omega) (by omega)
  have L2 : ∀ f : Nat → Int32, ldA f 32 (zI (b : Int) + (2 : Int32)) = some (f (b + 2)) := fun f => by rw [show zI (b : Int) + (2 : Int32) = zI ((b + 2 : Nat) : Int) from zI_addN b 2]; exact ldA_z (f := f) (j := b + 2) (by omega) (by omega)
  have DB := fun l1 l2 l3 sz nx => dg_bad (tx := tx) (F := F) hF hf l1 l2 l3 sz nx
  unfold fj_M_joint_133
  simp only [DB, bd3, Option.bind_some, nm, S0, S1, S2, S3, S4, L0, L2]
  exact ⟨_, _, _, rfl⟩

theorem bolt_z (ht : Px m sg tx) (hm : m ≤ 80) (hF : 10 < F) {a : Nat} (hn : n < 5) (ha : a ≤ m) {b : Nat} (hb : b + 5 < 32) (J1 : JOk n nv g c y s u pit) (ho : ∀ i, i < n → o i = zI (nv i 5)) (l1 : Int32) (rd : Nat → Int32) :
    (∃ (v0 v1 v2 v3 v4 : Int) (a' : Nat) (g' k' y' s' u' o' p' rd' : Nat → Int32), Fair v0 v1 v2 v3 v4 ∧ a' ≤ m ∧ a < a' ∧
      f_T_readBolt F sg (zI (m : Int)) (zI (a : Int)) (-1 : Int32) g c y s u o pit (zI (n : Int)) = some (zI (a' : Int), (-1 : Int32), g', k', y', s', u', o', p', zI ((n + 1 : Nat) : Int)) ∧
      JOk (n + 1) (nvAdd n nv v0 v1 v2 v3 v4) g' k' y' s' u' p' ∧ (∀ i, i < n + 1 → o' i = zI (nvAdd n nv v0 v1 v2 v3 v4 i 5)) ∧
      fj_M_joint_133 F l1 (zI (b : Int)) tx (zI (m : Int)) (zI (a : Int)) (-1 : Int32) rd = some (.inl (l1 + (1 : Int32), zI (a' : Int), (-1 : Int32), rd')) ∧
      (∀ q, q < 5 → rd' (b + q) = zI (nvAdd n nv v0 v1 v2 v3 v4 n q)) ∧ ∀ j, (j < b ∨ b + 4 < j) → rd' j = rd j) ∨
    (∃ f : Nat, f ≤ m ∧ (∃ (nx' : Int32) (g' k' y' s' u' o' p' : Nat → Int32) (b' : Nat), b' ≤ 5 ∧ f_T_readBolt F sg (zI (m : Int)) (zI (a : Int)) (-1 : Int32) g c y s u o pit (zI (n : Int)) = some (nx', zI (f : Int), g', k', y', s', u', o', p', zI (b' : Int))) ∧
      ∃ (l1' at' : Int32) (rd' : Nat → Int32), fj_M_joint_133 F l1 (zI (b : Int)) tx (zI (m : Int)) (zI (a : Int)) (-1 : Int32) rd = some (.inl (l1', at', zI (f : Int), rd'))) := by
  have S0 : ∀ (f : Nat → Int32) (x : Int32), stI f 32 (zI (b : Int)) x = some (upd f b x) := fun f x => stI_z (f := f) (j := b) (by omega) (by omega)
  have S1 : ∀ (f : Nat → Int32) (x : Int32), stI f 32 (zI (b : Int) + (1 : Int32)) x = some (upd f (b + 1) x) := fun f x => by rw [show zI (b : Int) + (1 : Int32) = zI ((b + 1 : Nat) : Int) from zI_addN b 1]; exact stI_z (f := f) (j := b + 1) (by omega) (by omega)
  have S2 : ∀ (f : Nat → Int32) (x : Int32), stI f 32 (zI (b : Int) + (2 : Int32)) x = some (upd f (b + 2) x) := fun f x => by rw [show zI (b : Int) + (2 : Int32) = zI ((b + 2 : Nat) : Int) from zI_addN b 2]; exact stI_z (f := f) (j := b + 2) (by omega) (by omega)
  have S3 : ∀ (f : Nat → Int32) (x : Int32), stI f 32 (zI (b : Int) + (3 : Int32)) x = some (upd f (b + 3) x) := fun f x => by rw [show zI (b : Int) + (3 : Int32) = zI ((b + 3 : Nat) : Int) from zI_addN b 3]; exact stI_z (f := f) (j := b + 3) (by omega) (by omega)
  have S4 : ∀ (f : Nat → Int32) (x : Int32), stI f 32 (zI (b : Int) + (4 : Int32)) x = some (upd f (b + 4) x) := fun f x => by rw [show zI (b : Int) + (4 : Int32) = zI ((b + 4 : Nat) : Int) from zI_addN b 4]; exact stI_z (f := f) (j := b + 4) (by omega) (by omega)
  have L0 : ∀ f : Nat → Int32, ldA f 32 (zI (b : Int)) = some (f b) := fun f => ldA_z (f := f) (j := b) (by omega) (by omega)
  have L2 : ∀ f : Nat → Int32, ldA f 32 (zI (b : Int) + (2 : Int32)) = some (f (b + 2)) := fun f => by rw [show zI (b : Int) + (2 : Int32) = zI ((b + 2 : Nat) : Int) from zI_addN b 2]; exact ldA_z (f := f) (j := b + 2) (by omega) (by omega)
  have U0 : ∀ (rd : Nat → Int32) (x y z : Int32), upd (upd (upd rd b x) (b + 1) y) (b + 2) z b = x := fun rd x y z => by rw [upd_at, if_neg (by omega), upd_at, if_neg (by omega), upd_at, if_pos rfl]
  have U2 : ∀ (rd : Nat → Int32) (x y z w : Int32), upd (upd (upd (upd rd b x) (b + 1) y) (b + 2) z) (b + 3) w (b + 2) = z := fun rd x y z w => by rw [upd_at, if_neg (by omega), upd_at, if_pos rfl]
  unfold f_T_readBolt fj_M_joint_133
  rcases rn_zz ht hm hF (x1 := (1 : Int32)) (l2 := (1 : Int32)) (l3 := (5 : Int32)) (d := 1) (a := a) (lo := 1) (hi := 5) rfl rfl rfl (Or.inl rfl) (by omega) (by omega) (by omega) with ⟨v0, hv0, ha0, c0, d0⟩ | ⟨f, r, nx, r', nx', hf, c0, d0⟩
  rotate_left
  · right
    have RB := fun l1 l2 l3 sz nx => rn_bad (sg := sg) (F := F) hF (show f ≤ 80 by omega) l1 l2 l3 sz nx
    have DB := fun l1 l2 l3 sz nx => dg_bad (tx := tx) (F := F) hF (show f ≤ 80 by omega) l1 l2 l3 sz nx
    refine ⟨f, hf, ?_, ?_⟩
    · simp only [c0, RB, bd3, Option.bind_some]
      exact bolt_tail (by omega) _ _ _ _ _ _ _ g c y s u o pit
    · simp only [d0, DB, bd3, Option.bind_some, nm, S0, S1, S2, S3, S4, L0, L2, U0, U2]
      exact ⟨_, _, _, rfl⟩
  rcases rn_zz ht hm hF (x1 := (1 : Int32)) (l2 := (0 : Int32)) (l3 := (9 : Int32)) (d := 1) (a := a + 1) (lo := 0) (hi := 9) rfl rfl rfl (Or.inl rfl) (by omega) (by omega) (by omega) with ⟨v1, hv1, ha1, c1, d1⟩ | ⟨f, r, nx, r', nx', hf, c1, d1⟩
  rotate_left
  · right
    have RB := fun l1 l2 l3 sz nx => rn_bad (sg := sg) (F := F) hF (show f ≤ 80 by omega) l1 l2 l3 sz nx
    have DB := fun l1 l2 l3 sz nx => dg_bad (tx := tx) (F := F) hF (show f ≤ 80 by omega) l1 l2 l3 sz nx
    refine ⟨f, hf, ?_, ?_⟩
    · simp only [c0, c1, RB, bd3, Option.bind_some]
      exact bolt_tail (by omega) _ _ _ _ _ _ _ g c y s u o pit
    · simp only [d0, d1, DB, bd3, Option.bind_some, nm, S0, S1, S2, S3, S4, L0, L2, U0, U2]
      exact ⟨_, _, _, rfl⟩
  rcases rn_zz ht hm hF (x1 := (2 : Int32)) (l2 := (1 : Int32)) (l3 := (30 : Int32)) (d := 2) (a := a + 1 + 1) (lo := 1) (hi := 30) rfl rfl rfl (Or.inr rfl) (by omega) (by omega) (by omega) with ⟨v2, hv2, ha2, c2, d2⟩ | ⟨f, r, nx, r', nx', hf, c2, d2⟩
  rotate_left
  · right
    have RB := fun l1 l2 l3 sz nx => rn_bad (sg := sg) (F := F) hF (show f ≤ 80 by omega) l1 l2 l3 sz nx
    have DB := fun l1 l2 l3 sz nx => dg_bad (tx := tx) (F := F) hF (show f ≤ 80 by omega) l1 l2 l3 sz nx
    refine ⟨f, hf, ?_, ?_⟩
    · simp only [c0, c1, c2, RB, bd3, Option.bind_some]
      exact bolt_tail (by omega) _ _ _ _ _ _ _ g c y s u o pit
    · simp only [d0, d1, d2, DB, bd3, Option.bind_some, nm, S0, S1, S2, S3, S4, L0, L2, U0, U2]
      exact ⟨_, _, _, rfl⟩
  rcases rn_zz ht hm hF (x1 := (2 : Int32)) (l2 := zI v0) (l3 := (9 : Int32)) (d := 2) (a := a + 1 + 1 + 2) (lo := v0) (hi := 9) rfl rfl rfl (Or.inr rfl) (by omega) (by omega) (by omega) with ⟨v3, hv3, ha3, c3, d3⟩ | ⟨f, r, nx, r', nx', hf, c3, d3⟩
  rotate_left
  · right
    have RB := fun l1 l2 l3 sz nx => rn_bad (sg := sg) (F := F) hF (show f ≤ 80 by omega) l1 l2 l3 sz nx
    have DB := fun l1 l2 l3 sz nx => dg_bad (tx := tx) (F := F) hF (show f ≤ 80 by omega) l1 l2 l3 sz nx
    refine ⟨f, hf, ?_, ?_⟩
    · simp only [c0, c1, c2, c3, RB, bd3, Option.bind_some]
      exact bolt_tail (by omega) _ _ _ _ _ _ _ g c y s u o pit
    · simp only [d0, d1, d2, d3, DB, bd3, Option.bind_some, nm, S0, S1, S2, S3, S4, L0, L2, U0, U2]
      exact ⟨_, _, _, rfl⟩
  rcases rn_zz ht hm hF (x1 := (2 : Int32)) (l2 := zI v2 + (1 : Int32)) (l3 := (60 : Int32)) (d := 2) (a := a + 1 + 1 + 2 + 2) (lo := v2 + 1) (hi := 60) rfl (by rw [i1, zI_add]) rfl (Or.inr rfl) (by omega) (by omega) (by omega) with ⟨v4, hv4, ha4, c4, d4⟩ | ⟨f, r, nx, r', nx', hf, c4, d4⟩
  rotate_left
  · right
    have RB := fun l1 l2 l3 sz nx => rn_bad (sg := sg) (F := F) hF (show f ≤ 80 by omega) l1 l2 l3 sz nx
    have DB := fun l1 l2 l3 sz nx => dg_bad (tx := tx) (F := F) hF (show f ≤ 80 by omega) l1 l2 l3 sz nx
    refine ⟨f, hf, ?_, ?_⟩
    · simp only [c0, c1, c2, c3, c4, RB, bd3, Option.bind_some]
      exact bolt_tail (by omega) _ _ _ _ _ _ _ g c y s u o pit
    · simp only [d0, d1, d2, d3, d4, DB, bd3, Option.bind_some, nm, S0, S1, S2, S3, S4, L0, L2, U0, U2]
      exact ⟨_, _, _, rfl⟩
  left
  obtain ⟨g', k', y', s', u', o', p', ea, J1', ho'⟩ := add_z hn J1 ho v0 v1 v2 v3 v4
  have q0 : nvAdd n nv v0 v1 v2 v3 v4 n 0 = v0 := nvAdd_new 0
  have q1 : nvAdd n nv v0 v1 v2 v3 v4 n 1 = v1 := nvAdd_new 1
  have q2 : nvAdd n nv v0 v1 v2 v3 v4 n 2 = v2 := nvAdd_new 2
  have q3 : nvAdd n nv v0 v1 v2 v3 v4 n 3 = v3 := nvAdd_new 3
  have q4 : nvAdd n nv v0 v1 v2 v3 v4 n 4 = v4 := nvAdd_new 4
  refine ⟨v0, v1, v2, v3, v4, a + 1 + 1 + 2 + 2 + 2, g', k', y', s', u', o', p', upd (upd (upd (upd (upd rd b (zI v0)) (b + 1) (zI v1)) (b + 2) (zI v2)) (b + 3) (zI v3)) (b + 4) (zI v4), by unfold Fair; omega, ha4, by omega, ?_, J1', ho', ?_, fun q hq => ?_, fun j hj => ?_⟩
  · simp only [c0, c1, c2, c3, c4, bd3, Option.bind_some]
    rw [ea]
    rfl
  · simp only [d0, d1, d2, d3, d4, bd3, Option.bind_some, nm, S0, S1, S2, S3, S4, L0, L2, U0, U2]
  · rcases (by omega : q = 0 ∨ q = 1 ∨ q = 2 ∨ q = 3 ∨ q = 4) with rfl | rfl | rfl | rfl | rfl
    · rw [q0, upd_at, if_neg (by omega), upd_at, if_neg (by omega), upd_at, if_neg (by omega), upd_at, if_neg (by omega), upd_at, if_pos (by omega)]
    · rw [q1, upd_at, if_neg (by omega), upd_at, if_neg (by omega), upd_at, if_neg (by omega), upd_at, if_pos rfl]
    · rw [q2, upd_at, if_neg (by omega), upd_at, if_neg (by omega), upd_at, if_pos rfl]
    · rw [q3, upd_at, if_neg (by omega), upd_at, if_pos rfl]
    · rw [q4, upd_at, if_pos rfl]
  · rw [upd_at, if_neg (by omega), upd_at, if_neg (by omega), upd_at, if_neg (by omega), upd_at, if_neg (by omega), upd_at, if_neg (by omega)]
end OPS19
