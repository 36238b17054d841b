/-! the calls that only write down or read off -/
theorem nI_lit0 : (0 : Int32) = nI 0 := rfl
theorem nIle {a b : Nat} (ha : a < 2 ^ 31) (hb : b < 2 ^ 31) : nI a ≤ nI b ↔ a ≤ b := nI_leI ha hb
theorem sub1_le {x : Int32} {k : Nat} (hk : k ≤ 300) : (0 ≤ x ∧ x ≤ nI k - 1) ↔ ∃ j : Nat, j < k ∧ x = nI j := by
  constructor
  · intro ⟨h0, h1⟩
    obtain ⟨j, hj, rfl⟩ := nI_of (x := x) (by grind)
    refine ⟨j, ?_, rfl⟩
    have h2 : (nI k - 1).toInt = (k : Int) - 1 := pk_sub_toInt (a := k) (b := 1) (by omega) (by omega)
    rw [i_le, h2, nI_toInt hj] at h1
    omega
  · rintro ⟨j, hj, rfl⟩
    have h2 : (nI k - 1).toInt = (k : Int) - 1 := pk_sub_toInt (a := k) (b := 1) (by omega) (by omega)
    refine ⟨nI_pos' (by omega), ?_⟩
    rw [i_le, h2, nI_toInt (by omega)]
    omega
theorem nI_sub1 (k : Nat) : nI (k + 1) - 1 = nI k := nI_pred k
theorem mt_status (N : Nat) : ∀ (u v : UU), Rel u v → m_X11_status N u (fun r u1 => m_X12_status N v (fun r2 v1 => r = r2 ∧ Rel u1 v1)) := by
  intro u v hR
  unfold m_X11_status m_X12_status
  simp only [forall_eq]
  obtain ⟨h1, h2, h3, h4, h5, h6, h7, h8, h9, h10, h11⟩ := hR
  refine ⟨by simp [sI_1, h11], ?_⟩
  simp only [Rel, sI_1, sI_2]
  exact ⟨h1, h2, h3, h4, h5, h6, h7, h8, h9, h10, h11⟩
theorem mt_fault (N : Nat) : ∀ (u v : UU), Rel u v → m_X11_fault N u (fun r u1 => m_X12_fault N v (fun r2 v1 => r = r2 ∧ Rel u1 v1)) := by
  intro u v hR
  unfold m_X11_fault m_X12_fault
  simp only [forall_eq]
  obtain ⟨h1, h2, h3, h4, h5, h6, h7, h8, h9, h10, h11⟩ := hR
  refine ⟨by simp [sI_1, h10], ?_⟩
  simp only [Rel, sI_1, sI_2]
  exact ⟨h1, h2, h3, h4, h5, h6, h7, h8, h9, h10, h11⟩
/-- the reference's 'thrown' is nobody's business -/
theorem rel_thrown {u v : UU} (h : Rel u v) (x : Int32) : Rel u (sI v 0 x) := by
  obtain ⟨h1, h2, h3, h4, h5, h6, h7, h8, h9, h10, h11⟩ := h
  simp only [Rel, sI_1, sI_2]
  exact ⟨h1, h2, h3, h4, h5, h6, h7, h8, h9, h10, h11⟩
/-- both write their status down -/
theorem rel_st {u v : UU} (h : Rel u v) (x : Int32) : Rel (sI u 1 x) (sI v 1 x) := by
  obtain ⟨h1, h2, h3, h4, h5, h6, h7, h8, h9, h10, h11⟩ := h
  simp only [Rel, sI_1, sI_2]
  exact ⟨h1, h2, h3, h4, h5, h6, h7, h8, h9, h10, rfl⟩
theorem mt_through (N : Nat) : ∀ (u v : UU) (x1 : Int32), Rel u v → m_X11_through N x1 u (fun r u1 => m_X12_through N x1 v (fun r2 v1 => r = r2 ∧ Rel u1 v1)) := by
  intro u v x1 hR
  have hR2 := rel_thrown hR 0
  unfold m_X11_through m_X12_through
  simp only [forall_eq]
  obtain ⟨-, -, -, -, ⟨-, e1, e2, -, -⟩, -⟩ := hR
  by_cases a : x1 = 0
  · simp only [a, if_true]; exact ⟨by simp [sI_1, e1], hR2⟩
  · by_cases b : x1 = 1
    · simp only [a, b, if_false, if_true]
      exact ⟨by simp [sI_1, e2], hR2⟩
    · rw [if_neg a, if_neg b, if_neg a, if_neg b]; exact ⟨by trivial, hR2⟩
theorem mt_board (N : Nat) : ∀ (u v : UU) (x1 x2 : Int32), Rel u v → m_X11_board N x1 x2 u (fun r u1 => m_X12_board N x1 x2 v (fun r2 v1 => r = r2 ∧ Rel u1 v1)) := by
  intro u v x1 x2 hR
  unfold m_X11_board m_X12_board m_X12_board_19
  simp only [isPlace_eq, refused_eq, taken_eq, mPlace_eq, told_eq, bi_0, forall_eq, sA_1, sA_21, sA_22, sI_1, sI_2, reduceIte, Nat.reduceEqDiff]
  have hR2 := rel_thrown hR 0
  by_cases p1 : (0 ≤ x1 ∧ x1 ≤ 63)
  case neg =>
    rw [if_pos (fun h => p1 h.1), if_pos p1]
    exact ⟨by trivial, rel_st hR2 _⟩
  by_cases p2 : (0 ≤ x2 ∧ x2 ≤ 63)
  case neg =>
    rw [if_pos (fun h => p2 h.2), if_neg (fun q => q p1), if_pos p2]
    exact ⟨by trivial, rel_st hR2 _⟩
  rw [if_neg (fun q => q ⟨p1, p2⟩)]
  obtain ⟨⟨k, hk, e1, e2, hb⟩, ⟨kb, kd, hkb, ekb, hkd, ed1, ed2, hd⟩, h3, h4, ⟨k1, k2, k3, k4, k5⟩, h6, h7, h8, h9, h10, h11⟩ := hR
  have ekk : kb = k := (nI_eq (by omega) (by omega)).mp (ekb.symm.trans e1)
  subst ekk
  by_cases hn : kb = 30
  · subst hn
    rw [if_neg (by rw [e1]; decide), if_neg (fun q => q p1), if_neg (fun q => q p2), if_pos (by rw [e2]; decide)]
    exact ⟨by trivial, rel_st hR2 _⟩
  · have hlt : kb < 30 := by omega
    have hin : vp_in (nI kb) 30 := vp_in_nI hlt (by omega)
    have e0 : ¬ nI kb < 0 := nI_pos (by omega)
    have e30 : ¬ nI kb = 30 := fun q => hn ((nI_eq (b := 30) (by omega) (by omega)).mp q)
    have l30 : nI kb < 30 := nI_lt (b := 30) hlt (by omega)
    unfold m_X0_add
    simp only [p1, p2, and_self, not_true_eq_false, if_false, sA_1, sA_21, sA_22, sI_1, sI_2, e1, e2, hin, true_and, forall_eq, cl_nI (show kb < 2 ^ 31 by omega), nI_1, nI_sub1, e0, e30, l30, reduceIte, Nat.reduceEqDiff]
    simp only [Rel, sA_1, sA_21, sI_1, sI_2, reduceIte, Nat.reduceEqDiff, e1, e2]
    refine ⟨⟨kb + 1, by omega, rfl, rfl, fun i hi => ?_⟩, ⟨kb + 1, kd, by omega, rfl, hkd, ed1, ed2, fun i hi => ?_⟩, h3, h4, ⟨k1, k2, k3, k4, ?_⟩, h6, h7, h8, h9, h10, by trivial⟩
    · simp only [upd_at]
      by_cases hik : i = kb
      · subst hik; simp only [if_true]
        exact ⟨by trivial, by trivial, p1, p2, Or.inl ⟨by trivial, by trivial⟩⟩
      · simp only [hik, if_false]; exact hb i (by omega)
    · obtain ⟨a, b, ha, q⟩ := hd i hi
      exact ⟨a, b, by omega, q⟩
    · rcases k5 with q | ⟨kb', i, j, q1, q2, q3, q4, q5, q6⟩
      · exact Or.inl q
      · rw [e1] at q2
        have : kb = kb' := (nI_eq (by omega) (by omega)).mp q2
        exact Or.inr ⟨kb + 1, i, j, by omega, rfl, by omega, by omega, q5, q6⟩

theorem inI0 (N : Nat) (a : Int32) (lo hi : Int64) (lo' hi' : Int32) (e1 : lo = lo'.toInt64) (e2 : hi = hi'.toInt64) (u : UU) (Q : Int32 → UU → Prop) : m_X12_in N a.toInt64 lo hi u Q ↔ Q (bi (lo' ≤ a ∧ a ≤ hi')) u := by rw [e1, e2, inI_eq]
theorem mt_table (N : Nat) : ∀ (u v : UU) (x1 x2 x3 : Int32), Rel u v → m_X11_table N x1 x2 x3 u (fun r u1 => m_X12_table N x1 x2 x3 v (fun r2 v1 => r = r2 ∧ Rel u1 v1)) := by
  intro u v x1 x2 x3 hR
  unfold m_X11_table m_X11_table_28 m_X12_table m_X12_table_41 m_X7_put
  simp only [isIn_eq, isSize_eq, refused_eq, taken_eq, inI0 N _ 0 7 0 7 rfl rfl, inI0 N _ 0 400 0 400 rfl rfl, inI0 N _ 0 100 0 100 rfl rfl, told_eq, bi_0, forall_eq, sA_1, sA_21, sA_22, sI_1, sI_2, reduceIte, Nat.reduceEqDiff]
  have hR2 := rel_thrown hR 0
  by_cases p1 : (0 ≤ x1 ∧ x1 ≤ 7)
  case neg => simp only [p1, not_false_iff, if_true]; first | exact rel_st hR2 _ | exact ⟨by trivial, rel_st hR2 _⟩
  by_cases p2 : (0 ≤ x2 ∧ x2 ≤ 400)
  case neg => simp only [p1, p2, not_false_iff, and_self, not_true_eq_false, if_false, if_true]; first | exact rel_st hR2 _ | exact ⟨by trivial, rel_st hR2 _⟩
  by_cases p3 : (0 ≤ x3 ∧ x3 ≤ 100)
  case neg => simp only [p1, p2, p3, not_false_iff, and_self, not_true_eq_false, if_false, if_true]; first | exact rel_st hR2 _ | exact ⟨by trivial, rel_st hR2 _⟩
  obtain ⟨j, hj, rfl⟩ := nat_of (n := 7) (by omega) p1.1 p1.2
  have hin : vp_in (nI j) 8 := vp_in_nI (by omega) (by omega)
  obtain ⟨h1, h2, h3, h4, h5, h6, h7, h8, h9, h10, h11⟩ := hR
  simp only [p1, p2, p3, and_self, not_true_eq_false, if_false, hin, true_and, cl_nI (show j < 2 ^ 31 by omega)]
  first | refine (?_ : Rel _ _) | refine ⟨by trivial, (?_ : Rel _ _)⟩
  simp only [Rel, sA_1, sA_21, sA_22, sI_1, sI_2, reduceIte, Nat.reduceEqDiff]
  refine ⟨h1, h2, fun i hi => ?_, h4, h5, h6, h7, h8, h9, h10, by trivial⟩
  simp only [upd_at]
  by_cases hij : i = j
  · simp only [hij, if_true]; exact ⟨by trivial, by trivial, p2, p3⟩
  · simp only [hij, if_false]; exact h3 i hi
theorem mt_radar (N : Nat) : ∀ (u v : UU) (x1 x2 x3 : Int32), Rel u v → m_X11_radar N x1 x2 x3 u (fun r u1 => m_X12_radar N x1 x2 x3 v (fun r2 v1 => r = r2 ∧ Rel u1 v1)) := by
  intro u v x1 x2 x3 hR
  unfold m_X11_radar m_X11_radar_30 m_X12_radar m_X12_radar_43 m_X4_put
  simp only [isIn_eq, refused_eq, taken_eq, inI0 N _ 0 7 0 7 rfl rfl, inI0 N _ (-1) 100 (-1) 100 rfl rfl, told_eq, bi_0, forall_eq, sA_1, sA_21, sA_22, sI_1, sI_2, reduceIte, Nat.reduceEqDiff]
  have hR2 := rel_thrown hR 0
  by_cases p1 : (0 ≤ x1 ∧ x1 ≤ 7)
  case neg => simp only [p1, not_false_iff, if_true]; first | exact rel_st hR2 _ | exact ⟨by trivial, rel_st hR2 _⟩
  by_cases p2 : (0 ≤ x2 ∧ x2 ≤ 7)
  case neg => simp only [p1, p2, not_false_iff, and_self, not_true_eq_false, if_false, if_true]; first | exact rel_st hR2 _ | exact ⟨by trivial, rel_st hR2 _⟩
  by_cases p3 : (-1 ≤ x3 ∧ x3 ≤ 100)
  case neg => simp only [p1, p2, p3, not_false_iff, and_self, not_true_eq_false, if_false, if_true]; first | exact rel_st hR2 _ | exact ⟨by trivial, rel_st hR2 _⟩
  obtain ⟨i, hi, rfl⟩ := nat_of (n := 7) (by omega) p1.1 p1.2
  obtain ⟨k, hk, rfl⟩ := nat_of (n := 7) (by omega) p2.1 p2.2
  have e1 : nI i * 8 + nI k = nI (i * 8 + k) := by rw [show (8 : Int32) = nI 8 from rfl, pk_mul, nI_add]
  have e2 : 8 * nI k + nI i = nI (8 * k + i) := by rw [show (8 : Int32) = nI 8 from rfl, pk_mul, nI_add]
  have hin1 : vp_in (nI (i * 8 + k)) 64 := vp_in_nI (by omega) (by omega)
  have hin2 : vp_in (nI (8 * k + i)) 64 := vp_in_nI (by omega) (by omega)
  obtain ⟨h1, h2, h3, h4, h5, h6, h7, h8, h9, h10, h11⟩ := hR
  simp only [p1, p2, p3, e1, e2, and_self, not_true_eq_false, if_false, hin1, hin2, true_and, cl_nI (show i * 8 + k < 2 ^ 31 by omega), cl_nI (show 8 * k + i < 2 ^ 31 by omega)]
  first | refine (?_ : Rel _ _) | refine ⟨by trivial, (?_ : Rel _ _)⟩
  simp only [Rel, sA_1, sA_21, sA_22, sI_1, sI_2, reduceIte, Nat.reduceEqDiff]
  refine ⟨h1, h2, h3, h4, h5, fun a b ha hb => ?_, h7, h8, h9, h10, by trivial⟩
  simp only [upd_at]
  by_cases hab : 8 * a + b = i * 8 + k
  · have : a = i ∧ b = k := by omega
    obtain ⟨rfl, rfl⟩ := this
    simp only [hab, if_true]; exact ⟨by trivial, p3⟩
  · rw [if_neg hab, if_neg (show ¬ 8 * b + a = 8 * k + i by omega)]
    exact h6 a b ha hb
theorem mt_clear (N : Nat) : ∀ (u v : UU) (x1 x2 : Int32), Rel u v → m_X11_clear N x1 x2 u (fun r u1 => m_X12_clear N x1 x2 v (fun r2 v1 => r = r2 ∧ Rel u1 v1)) := by
  intro u v x1 x2 hR
  have hR2 := rel_thrown hR 0
  have hRc := hR
  obtain ⟨⟨k, hk, e1, e2, hb⟩, h2, h3, h4, h5, h6, h7, h8, h9, h10, h11⟩ := hRc
  have hv : (sI v 0 0).1 2 = nI k := e2
  unfold m_X11_clear m_X12_clear m_X12_clear_58 m_X12_clear_68 m_X0_makeClear
  simp only [isHour_eq, has_eq, refused_eq, taken_eq, mKnown_eq, mBoard_eq N _ _ _ (show k ≤ 300 by omega) hv, told_eq, bi_0, forall_eq, sA_1, sA_21, sA_22, sI_1, sI_2, reduceIte, Nat.reduceEqDiff, e1]
  by_cases p1 : (0 ≤ x2 ∧ x2 ≤ 1000)
  case neg => simp only [p1, not_false_iff, if_true]; first | exact rel_st hR2 _ | exact ⟨by trivial, rel_st hR2 _⟩
  by_cases p2 : (0 ≤ x1 ∧ x1 ≤ nI k - 1)
  case neg => simp only [p1, p2, not_false_iff, and_self, not_true_eq_false, if_false, if_true]; first | exact rel_st hR2 _ | exact ⟨by trivial, rel_st hR2 _⟩
  obtain ⟨j, hj, rfl⟩ := (sub1_le (by omega)).mp p2
  have hin : vp_in (nI j) 30 := vp_in_nI (by omega) (by omega)
  simp only [p1, p2, and_self, not_true_eq_false, if_false, hin, true_and, cl_nI (show j < 2 ^ 31 by omega)]
  obtain ⟨b1, b2, b3, b4, b5⟩ := hb j hj
  have key : ∀ y y' : Int32, ((y = 1001 ∧ y' = -1) ∨ (y = y' ∧ 0 ≤ y ∧ y ≤ 1000)) → Rel (sI (sA u 2 (upd (u.2.1 2) j y)) 1 0) (sI (sA (sI v 0 0) 2 (upd (v.2.1 2) j y')) 1 0) := by
    intro y y' hy
    simp only [Rel, sA_1, sA_21, sA_22, sI_1, sI_2, reduceIte, Nat.reduceEqDiff]
    refine ⟨⟨k, hk, e1, e2, fun i hi => ?_⟩, h2, h3, h4, h5, h6, h7, h8, h9, h10, by trivial⟩
    obtain ⟨c1, c2, c3, c4, c5⟩ := hb i hi
    refine ⟨c1, c2, c3, c4, ?_⟩
    simp only [upd_at]
    by_cases hij : i = j
    · simp only [hij, if_true]; exact hy
    · simp only [hij, if_false]; exact c5
  have z0 : (if (0 : Int32) < 0 then (0 : Int32) else 0) = 0 := by decide
  rcases b5 with ⟨q1, q2⟩ | ⟨q1, q2, q3⟩
  · simp only [q1, q2, if_true, z0]
    rw [if_pos (by grind)]
    first | exact key _ _ (Or.inr ⟨rfl, p1⟩) | exact ⟨by trivial, key _ _ (Or.inr ⟨rfl, p1⟩)⟩
  · rw [if_neg (show ¬ v.2.1 2 j = -1 by grind)]
    by_cases hc : v.2.1 2 j ≤ x2
    · rw [if_pos hc]
      simp only [z0]
      first | refine key _ _ (Or.inr ⟨?_, ?_⟩) | refine ⟨by trivial, key _ _ (Or.inr ⟨?_, ?_⟩)⟩
      · rw [if_neg (by grind)]; exact q1
      · rw [if_neg (by grind)]; exact ⟨q2, q3⟩
    · rw [if_neg hc]
      simp only [z0]
      first | refine key _ _ (Or.inr ⟨?_, ?_⟩) | refine ⟨by trivial, key _ _ (Or.inr ⟨?_, ?_⟩)⟩
      · rw [if_pos (by grind)]
      · rw [if_pos (by grind)]; exact p1
theorem mt_end (N : Nat) : ∀ (u v : UU) (x1 : Int32), Rel u v → m_X11_end N x1 u (fun r u1 => m_X12_end N x1 v (fun r2 v1 => r = r2 ∧ Rel u1 v1)) := by
  intro u v x1 hR
  have hR2 := rel_thrown hR 0
  have hRc := hR
  obtain ⟨h1, h2, h3, h4, h5, h6, ⟨k, hk, e1, e2, hb⟩, h8, h9, h10, h11⟩ := hRc
  unfold m_X11_end m_X12_end
  simp only [isIn_eq, bi_0, forall_eq, sA_1, sA_21, sA_22, sI_1, sI_2, reduceIte, Nat.reduceEqDiff, e1, e2]
  by_cases p1 : (0 ≤ x1 ∧ x1 ≤ nI k)
  · obtain ⟨j, hj, rfl⟩ := nat_of (by omega) p1.1 p1.2
    rw [if_neg (fun q => q p1), if_neg (by grind), if_pos p1.2]
    first | refine (?_ : Rel _ _) | refine ⟨by trivial, (?_ : Rel _ _)⟩
    simp only [Rel, sA_1, sA_21, sA_22, sI_1, sI_2, reduceIte, Nat.reduceEqDiff]
    exact ⟨h1, h2, h3, h4, h5, h6, ⟨j, by omega, by trivial, by trivial, fun i hi => hb i (by omega)⟩, h8, h9, h10, h11⟩
  · rw [if_pos p1]
    by_cases q : x1 < 0
    · rw [if_pos q]; first | exact hR2 | exact ⟨by trivial, hR2⟩
    · rw [if_neg q, if_neg (by grind)]; first | exact hR2 | exact ⟨by trivial, hR2⟩
