/-! numbers that stay small: no overflow -/
def sm (x : Int32) (A : Nat) : Prop := x.toInt.natAbs ≤ A
def sl (x : Int64) (A : Nat) : Prop := x.toInt.natAbs ≤ A
theorem mul_bd {a b : Int} {A B : Nat} (ha : a.natAbs ≤ A) (hb : b.natAbs ≤ B) : (a * b).natAbs ≤ A * B := by rw [Int.natAbs_mul]; exact Nat.mul_le_mul ha hb
theorem sm_sub {x y : Int32} {A B : Nat} (hx : sm x A) (hy : sm y B) (h : A + B < 2147483648) : (x - y).toInt = x.toInt - y.toInt ∧ sm (x - y) (A + B) := by
  unfold sm at *
  have e : (x - y).toInt = x.toInt - y.toInt := by rw [Int32.toInt_sub, Int.bmod_def]; omega
  exact ⟨e, by rw [e]; omega⟩
theorem sm_add {x y : Int32} {A B : Nat} (hx : sm x A) (hy : sm y B) (h : A + B < 2147483648) : (x + y).toInt = x.toInt + y.toInt ∧ sm (x + y) (A + B) := by
  unfold sm at *
  have e : (x + y).toInt = x.toInt + y.toInt := by rw [Int32.toInt_add, Int.bmod_def]; omega
  exact ⟨e, by rw [e]; omega⟩
theorem sm_mul {x y : Int32} {A B : Nat} (hx : sm x A) (hy : sm y B) (h : A * B < 2147483648) : (x * y).toInt = x.toInt * y.toInt ∧ sm (x * y) (A * B) := by
  unfold sm at *
  have q := mul_bd hx hy
  have e : (x * y).toInt = x.toInt * y.toInt := by rw [Int32.toInt_mul, Int.bmod_def]; omega
  exact ⟨e, by rw [e]; exact q⟩
theorem sl_sub {x y : Int64} {A B : Nat} (hx : sl x A) (hy : sl y B) (h : A + B < 2147483648) : (x - y).toInt = x.toInt - y.toInt ∧ sl (x - y) (A + B) := by
  unfold sl at *
  have e : (x - y).toInt = x.toInt - y.toInt := by rw [Int64.toInt_sub, Int.bmod_def]; omega
  exact ⟨e, by rw [e]; omega⟩
theorem sl_add {x y : Int64} {A B : Nat} (hx : sl x A) (hy : sl y B) (h : A + B < 2147483648) : (x + y).toInt = x.toInt + y.toInt ∧ sl (x + y) (A + B) := by
  unfold sl at *
  have e : (x + y).toInt = x.toInt + y.toInt := by rw [Int64.toInt_add, Int.bmod_def]; omega
  exact ⟨e, by rw [e]; omega⟩
theorem sl_mul {x y : Int64} {A B : Nat} (hx : sl x A) (hy : sl y B) (h : A * B < 2147483648) : (x * y).toInt = x.toInt * y.toInt ∧ sl (x * y) (A * B) := by
  unfold sl at *
  have q := mul_bd hx hy
  have e : (x * y).toInt = x.toInt * y.toInt := by rw [Int64.toInt_mul, Int.bmod_def]; omega
  exact ⟨e, by rw [e]; exact q⟩
theorem sl_of {x : Int32} {A : Nat} (h : sm x A) : sl x.toInt64 A := by unfold sl; rw [Int32.toInt_toInt64]; exact h
theorem sm_rng {x : Int32} {A : Nat} (hA : A < 2147483648) (h0 : 0 ≤ x) (h1 : x ≤ nI A) : sm x A := by
  obtain ⟨k, hk, rfl⟩ := nat_of hA h0 h1
  unfold sm; rw [nI_toInt (by omega)]; omega
/-- within w of the line through two places, exactly -/
def nearZ (xi yi xj yj xc yc w : Int32) : Prop :=
  ((xj.toInt - xi.toInt) * (yc.toInt - yi.toInt) - (yj.toInt - yi.toInt) * (xc.toInt - xi.toInt)) * ((xj.toInt - xi.toInt) * (yc.toInt - yi.toInt) - (yj.toInt - yi.toInt) * (xc.toInt - xi.toInt)) ≤ w.toInt * w.toInt * ((xj.toInt - xi.toInt) * (xj.toInt - xi.toInt) + (yj.toInt - yi.toInt) * (yj.toInt - yi.toInt))
theorem near_i {xi yi xj yj xc yc w : Int32} (a : sm xi 63) (b : sm yi 63) (c : sm xj 63) (d : sm yj 63) (e : sm xc 63) (f : sm yc 63) (g : sm w 20) :
    (w * w * ((xj - xi) * (xj - xi) + (yj - yi) * (yj - yi)) < ((xj - xi) * (yc - yi) - (yj - yi) * (xc - xi)) * ((xj - xi) * (yc - yi) - (yj - yi) * (xc - xi))) ↔ ¬ nearZ xi yi xj yj xc yc w := by
  obtain ⟨e1, s1⟩ := sm_sub c a (by omega)
  obtain ⟨e2, s2⟩ := sm_sub d b (by omega)
  obtain ⟨e3, s3⟩ := sm_sub e a (by omega)
  obtain ⟨e4, s4⟩ := sm_sub f b (by omega)
  obtain ⟨e5, s5⟩ := sm_mul s1 s4 (by omega)
  obtain ⟨e6, s6⟩ := sm_mul s2 s3 (by omega)
  obtain ⟨e7, s7⟩ := sm_sub s5 s6 (by omega)
  obtain ⟨e8, s8⟩ := sm_mul s7 s7 (by omega)
  obtain ⟨e9, s9⟩ := sm_mul s1 s1 (by omega)
  obtain ⟨e10, s10⟩ := sm_mul s2 s2 (by omega)
  obtain ⟨e11, s11⟩ := sm_add s9 s10 (by omega)
  obtain ⟨e12, s12⟩ := sm_mul g g (by omega)
  obtain ⟨e13, s13⟩ := sm_mul s12 s11 (by omega)
  unfold nearZ
  rw [i_lt, e13, e12, e11, e10, e9, e8, e7, e6, e5, e4, e3, e2, e1]
  omega
theorem near_l {xi yi xj yj xc yc w : Int32} (a : sm xi 63) (b : sm yi 63) (c : sm xj 63) (d : sm yj 63) (e : sm xc 63) (f : sm yc 63) (g : sm w 20) :
    (w.toInt64 * w.toInt64 * ((xj - xi).toInt64 * (xj - xi).toInt64 + (yj - yi).toInt64 * (yj - yi).toInt64) < ((xj - xi).toInt64 * (yc - yi).toInt64 - (yj - yi).toInt64 * (xc - xi).toInt64) * ((xj - xi).toInt64 * (yc - yi).toInt64 - (yj - yi).toInt64 * (xc - xi).toInt64)) ↔ ¬ nearZ xi yi xj yj xc yc w := by
  obtain ⟨e1, s1⟩ := sm_sub c a (by omega)
  obtain ⟨e2, s2⟩ := sm_sub d b (by omega)
  obtain ⟨e3, s3⟩ := sm_sub e a (by omega)
  obtain ⟨e4, s4⟩ := sm_sub f b (by omega)
  have t1 := sl_of s1; have t2 := sl_of s2; have t3 := sl_of s3; have t4 := sl_of s4; have tg := sl_of g
  obtain ⟨e5, s5⟩ := sl_mul t1 t4 (by omega)
  obtain ⟨e6, s6⟩ := sl_mul t2 t3 (by omega)
  obtain ⟨e7, s7⟩ := sl_sub s5 s6 (by omega)
  obtain ⟨e8, s8⟩ := sl_mul s7 s7 (by omega)
  obtain ⟨e9, s9⟩ := sl_mul t1 t1 (by omega)
  obtain ⟨e10, s10⟩ := sl_mul t2 t2 (by omega)
  obtain ⟨e11, s11⟩ := sl_add s9 s10 (by omega)
  obtain ⟨e12, s12⟩ := sl_mul tg tg (by omega)
  obtain ⟨e13, s13⟩ := sl_mul s12 s11 (by omega)
  unfold nearZ
  rw [Int64.lt_iff_toInt_lt, e13, e12, e11, e10, e9, e8, e7, e6, e5]
  simp only [Int32.toInt_toInt64]
  rw [e4, e3, e2, e1]
  omega
/-- places of boards: small -/
def POK (kb : Nat) (x y : Nat → Int32) : Prop := ∀ i, i < kb → sm (x i) 63 ∧ sm (y i) 63
def nearB (x y : Nat → Int32) (w : Int32) (i j c : Nat) : Prop := nearZ (x i) (y i) (x j) (y j) (x c) (y c) w
theorem nearH_ok (N : Nat) (Q : Int32 → UU → Prop) (u : UU) (kb i j c : Nat) (hkb : kb ≤ 30) (hi : i < kb) (hj : j < kb) (hc : c < kb) (P : POK kb (u.2.1 0) (u.2.1 1)) (hw : sm (u.1 6) 20) (h1 : nearB (u.2.1 0) (u.2.1 1) (u.1 6) i j c → Q 1 u) (h0 : ¬ nearB (u.2.1 0) (u.2.1 1) (u.1 6) i j c → Q 0 u) : m_X9_isNear N (nI i) (nI j) (nI c) u Q := by
  unfold m_X9_isNear
  have a := vp_in_nI (n := i) (N := 30) (by omega) (by omega)
  have b := vp_in_nI (n := j) (N := 30) (by omega) (by omega)
  have d := vp_in_nI (n := c) (N := 30) (by omega) (by omega)
  rw [cl_nI (show i < 2 ^ 31 by omega), cl_nI (show j < 2 ^ 31 by omega), cl_nI (show c < 2 ^ 31 by omega)]
  refine ⟨b, a, fun z1 e1 => ⟨b, a, fun z2 e2 => ⟨d, a, fun z3 e3 => ⟨d, a, fun z4 e4 z5 e5 => ?_⟩⟩⟩⟩
  subst e1; subst e2; subst e3; subst e4; subst e5
  have key := near_i (P i hi).1 (P i hi).2 (P j hj).1 (P j hj).2 (P c hc).1 (P c hc).2 hw
  by_cases q : nearB (u.2.1 0) (u.2.1 1) (u.1 6) i j c
  · rw [if_neg (fun z => key.mp z q)]; exact ⟨nb_1, h1 q⟩
  · rw [if_pos (key.mpr q)]; exact ⟨nb_0, h0 q⟩
theorem nearM_ok (N : Nat) (Q : Int32 → UU → Prop) (u : UU) (w : Int32) (kb i j c : Nat) (hkb : kb ≤ 30) (hi : i < kb) (hj : j < kb) (hc : c < kb) (P : POK kb (u.2.1 0) (u.2.1 1)) (hw : sm w 20) (h1 : nearB (u.2.1 0) (u.2.1 1) w i j c → Q 1 u) (h0 : ¬ nearB (u.2.1 0) (u.2.1 1) w i j c → Q 0 u) : m_X12_isNear N (nI i) (nI j) (nI c) w u Q := by
  unfold m_X12_isNear
  have a := vp_in_nI (n := i) (N := 30) (by omega) (by omega)
  have b := vp_in_nI (n := j) (N := 30) (by omega) (by omega)
  have d := vp_in_nI (n := c) (N := 30) (by omega) (by omega)
  rw [cl_nI (show i < 2 ^ 31 by omega), cl_nI (show j < 2 ^ 31 by omega), cl_nI (show c < 2 ^ 31 by omega)]
  refine ⟨b, a, fun z1 e1 => ⟨b, a, fun z2 e2 => ⟨d, a, d, a, fun z3 e3 => ?_⟩⟩⟩
  subst e1; subst e2; subst e3
  simp only [cmp_gt]
  have key := near_l (P i hi).1 (P i hi).2 (P j hj).1 (P j hj).2 (P c hc).1 (P c hc).2 hw
  by_cases q : nearB (u.2.1 0) (u.2.1 1) w i j c
  · rw [if_neg (fun z => key.mp z q)]; exact ⟨nb_1, h1 q⟩
  · rw [if_pos (key.mpr q)]; exact ⟨nb_0, h0 q⟩
theorem rel_pl {u v : UU} (hR : Rel u v) {kb : Nat} (hkb : kb ≤ 30) (e2 : u.1 2 = nI kb) : POK kb (u.2.1 0) (u.2.1 1) ∧ ∀ i, i < kb → u.2.1 0 i = v.2.1 0 i ∧ u.2.1 1 i = v.2.1 1 i := by
  obtain ⟨⟨k, hk, e1, -, h⟩, -⟩ := hR
  have : k = kb := (nI_eq (by omega) (by omega)).mp (e1.symm.trans e2)
  subst this
  refine ⟨fun i hi => ?_, fun i hi => ⟨(h i hi).1, (h i hi).2.1⟩⟩
  obtain ⟨-, -, a, b, -⟩ := h i hi
  exact ⟨sm_rng (by omega) a.1 a.2, sm_rng (by omega) b.1 b.2⟩
theorem near_cong {x y x' y' : Nat → Int32} {kb i j c : Nat} (h : ∀ i, i < kb → x i = x' i ∧ y i = y' i) (hi : i < kb) (hj : j < kb) (hc : c < kb) (w : Int32) : nearB x y w i j c ↔ nearB x' y' w i j c := by
  unfold nearB
  rw [(h i hi).1, (h i hi).2, (h j hj).1, (h j hj).2, (h c hc).1, (h c hc).2]
theorem POK_cong {x y x' y' : Nat → Int32} {kb : Nat} (h : ∀ i, i < kb → x i = x' i ∧ y i = y' i) (P : POK kb x y) : POK kb x' y' := fun i hi => by rw [← (h i hi).1, ← (h i hi).2]; exact P i hi
theorem mt_within (N : Nat) (hN : 4000 ≤ N) : ∀ (u v : UU) (x1 : Int32), Rel u v → m_X11_within N x1 u (fun r u1 => m_X12_within N x1 v (fun r2 v1 => r = r2 ∧ Rel u1 v1)) := by
  intro u v x1 hR
  have hR2 := rel_thrown hR 0
  obtain ⟨kb, k, hkb, hk, e2, e2', -⟩ := rel_bd hR
  have hv : (sI v 0 0).1 2 = nI kb := e2'
  obtain ⟨P, hP⟩ := rel_pl hR hkb e2
  obtain ⟨-, -, -, -, ⟨k1, k2, k3, k4, k5⟩, -⟩ := id hR
  unfold m_X11_within m_X12_within m_X9_isDrawn m_X9_reaches
  simp only [has_eq, mBoard_eq N _ _ _ (show kb ≤ 300 by omega) hv, bi_0, forall_eq, e2]
  have g5 : (sI v 0 0).1 5 = u.1 7 := k2.symm
  have g6 : (sI v 0 0).1 6 = u.1 8 := k3.symm
  have g7 : (sI v 0 0).1 7 = u.1 6 := k1.symm
  rw [g5]
  by_cases p1 : (0 ≤ x1 ∧ x1 ≤ nI kb - 1)
  case neg =>
    rw [if_pos p1]
    by_cases q : u.1 7 = -1
    · rw [if_pos q]; exact ⟨by trivial, hR2⟩
    · rw [if_neg q, if_pos p1]; exact ⟨by trivial, hR2⟩
  rw [if_neg (fun q => q p1)]
  rcases k5 with ⟨q1, q2⟩ | ⟨kb', i, j, a1, a2, a3, a4, a5, a6⟩
  · rw [q1]
    simp only [if_true]
    exact ⟨nb_0, by trivial, hR2⟩
  · have : kb' = kb := (nI_eq (by omega) (by omega)).mp (a2.symm.trans e2)
    subst this
    obtain ⟨c, hc, rfl⟩ := (sub1_le (by omega)).mp p1
    have n7 : ¬ u.1 7 = -1 := by rw [a5]; intro q; exact absurd (show ¬ nI i < 0 from nI_pos (by omega)) (by rw [q]; decide)
    have n8 : ¬ u.1 8 = -1 := by rw [a6]; intro q; exact absurd (show ¬ nI j < 0 from nI_pos (by omega)) (by rw [q]; decide)
    have b7 : 0 ≤ u.1 7 ∧ u.1 7 ≤ nI kb' - 1 := by rw [a5]; exact (sub1_le (by omega)).mpr ⟨i, a3, rfl⟩
    have b8 : 0 ≤ u.1 8 ∧ u.1 8 ≤ nI kb' - 1 := by rw [a6]; exact (sub1_le (by omega)).mpr ⟨j, a4, rfl⟩
    rw [if_neg n7, if_neg n8]
    refine ⟨nb_1, ?_⟩
    rw [if_neg (by decide), if_neg (fun q => q p1), if_neg (fun q => q b7), if_neg (fun q => q b8), a5, a6]
    have hw : sm (u.1 6) 20 := sm_rng (by omega) k4.1 k4.2
    have PM := POK_cong hP P
    have cong := near_cong (i := i) (j := j) (c := c) hP a3 a4 hc (u.1 6)
    refine nearH_ok N _ u kb' i j c hkb a3 a4 hc P hw (fun q => ?_) (fun q => ?_)
    · rw [if_neg (by decide)]
      refine ⟨nb_1, ?_⟩
      rw [if_neg (by decide), ← a5, if_neg n7, if_neg (fun q => q p1), g6, g7, a5, a6]
      refine nearM_ok N _ (sI v 0 0) (u.1 6) kb' i j c hkb a3 a4 hc PM hw (fun q' => ?_) (fun q' => absurd (cong.mp q) q')
      rw [if_neg (by decide)]; exact ⟨by trivial, hR2⟩
    · rw [if_pos (by decide)]
      refine ⟨nb_0, ?_⟩
      rw [if_pos (by decide), ← a5, if_neg n7, if_neg (fun q => q p1), g6, g7, a5, a6]
      refine nearM_ok N _ (sI v 0 0) (u.1 6) kb' i j c hkb a3 a4 hc PM hw (fun q' => absurd (cong.mpr q') q) (fun q' => ?_)
      rw [if_pos (by decide)]; exact ⟨by trivial, hR2⟩
