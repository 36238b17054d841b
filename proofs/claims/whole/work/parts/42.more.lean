theorem mt_claim (N : Nat) : ∀ (u v : UU) (x1 x2 x3 x4 : Int32), Rel u v → m_X11_claim N x1 x2 x3 x4 u (fun r u1 => m_X12_claim N x1 x2 x3 x4 v (fun r2 v1 => r = r2 ∧ Rel u1 v1)) := by
  intro u v x1 x2 x3 x4 hR
  unfold m_X11_claim m_X11_claim_29 m_X12_claim m_X12_claim_44
  simp only [isPlace_eq, isIn_eq, refused_eq, taken_eq, mPlace_eq, inI0 N _ 0 100000 0 100000 rfl rfl, inI0 N _ 0 100 0 100 rfl rfl, told_eq, bi_0, forall_eq, sA_1, sA_21, sA_22, sI_1, sI_2, reduceIte, Nat.reduceEqDiff]
  have hR2 := rel_thrown hR 0
  by_cases p1 : (0 ≤ x1 ∧ x1 ≤ 63)
  case neg => simp only [p1, false_and, not_false_iff, if_true]; first | exact rel_st hR2 _ | exact ⟨by trivial, rel_st hR2 _⟩
  by_cases p2 : (0 ≤ x2 ∧ x2 ≤ 63)
  case neg => simp only [p1, p2, and_false, not_false_iff, and_self, not_true_eq_false, if_false, if_true]; first | exact rel_st hR2 _ | exact ⟨by trivial, rel_st hR2 _⟩
  by_cases p3 : (0 ≤ x3 ∧ x3 ≤ 100000)
  case neg => simp only [p1, p2, p3, not_false_iff, and_self, not_true_eq_false, if_false, if_true]; first | exact rel_st hR2 _ | exact ⟨by trivial, rel_st hR2 _⟩
  by_cases p4 : (0 ≤ x4 ∧ x4 ≤ 100)
  case neg => simp only [p1, p2, p3, p4, not_false_iff, and_self, not_true_eq_false, if_false, if_true]; first | exact rel_st hR2 _ | exact ⟨by trivial, rel_st hR2 _⟩
  obtain ⟨h1, h2, h3, h4, h5, h6, h7, h8, ⟨k, hk, e1, e2, hb⟩, h10, h11⟩ := hR
  simp only [p1, p2, p3, p4, and_self, not_true_eq_false, if_false, e1, e2]
  by_cases hn : k = 40
  · subst hn
    rw [if_neg (by decide), if_pos (by decide)]
    first | exact rel_st hR2 _ | exact ⟨by trivial, rel_st hR2 _⟩
  · have hlt : k < 40 := by omega
    have hin : vp_in (nI k) 40 := vp_in_nI hlt (by omega)
    have e0 : ¬ nI k < 0 := nI_pos (by omega)
    have e40 : ¬ nI k = 40 := fun q => hn ((nI_eq (b := 40) (by omega) (by omega)).mp q)
    have l40 : nI k < 40 := nI_lt (b := 40) hlt (by omega)
    unfold m_X1_add
    simp only [sA_1, sA_21, sA_22, sI_1, sI_2, reduceIte, Nat.reduceEqDiff, e1, e2, hin, true_and, forall_eq, cl_nI (show k < 2 ^ 31 by omega), nI_1, nI_sub1, e0, e40, l40]
    first | refine (?_ : Rel _ _) | refine ⟨by trivial, (?_ : Rel _ _)⟩
    simp only [Rel, sA_1, sA_21, sA_22, sI_1, sI_2, reduceIte, Nat.reduceEqDiff, e1, e2]
    refine ⟨h1, h2, h3, h4, h5, h6, h7, h8, ⟨k + 1, by omega, rfl, rfl, fun i hi => ?_⟩, h10, by trivial⟩
    simp only [upd_at]
    by_cases hik : i = k
    · simp only [hik, if_true]
      exact ⟨by trivial, by trivial, by trivial, by trivial, ⟨p1, p2⟩, p3, p4⟩
    · simp only [hik, if_false]; exact hb i (by omega)
theorem mt_dent (N : Nat) : ∀ (u v : UU) (x1 x2 x3 x4 x5 : Int32), Rel u v → m_X11_dent N x1 x2 x3 x4 x5 u (fun r u1 => m_X12_dent N x1 x2 x3 x4 x5 v (fun r2 v1 => r = r2 ∧ Rel u1 v1)) := by
  intro u v x1 x2 x3 x4 x5 hR
  have hR2 := rel_thrown hR 0
  have hRc := hR
  obtain ⟨⟨kb, hkb, e1, e2, hb⟩, ⟨kb', k, hkb', ekb, hk, ed1, ed2, hd⟩, h3, h4, h5, h6, h7, h8, h9, h10, h11⟩ := hRc
  have ekk : kb' = kb := (nI_eq (by omega) (by omega)).mp (ekb.symm.trans e1)
  subst ekk
  have hv : (sI v 0 0).1 2 = nI kb' := e2
  unfold m_X11_dent m_X11_dent_40 m_X12_dent m_X12_dent_50 m_X10_forget
  simp only [isIn_eq, isHour_eq, has_eq, refused_eq, taken_eq, mKnown_eq, mBoard_eq N _ _ _ (show kb' ≤ 300 by omega) hv, inI0 N _ 0 9 0 9 rfl rfl, inI0 N _ 0 7 0 7 rfl rfl, inI0 N _ 1 400 1 400 rfl rfl, told_eq, bi_0, forall_eq, sA_1, sA_21, sA_22, sI_1, sI_2, reduceIte, Nat.reduceEqDiff, e1]
  by_cases p1 : (0 ≤ x2 ∧ x2 ≤ 9)
  case neg => simp only [p1, not_false_iff, if_true]; first | exact rel_st hR2 _ | exact ⟨by trivial, rel_st hR2 _⟩
  by_cases p2 : (0 ≤ x3 ∧ x3 ≤ 7)
  case neg => simp only [p1, p2, not_false_iff, and_self, not_true_eq_false, if_false, if_true]; first | exact rel_st hR2 _ | exact ⟨by trivial, rel_st hR2 _⟩
  by_cases p3 : (1 ≤ x4 ∧ x4 ≤ 400)
  case neg => simp only [p1, p2, p3, not_false_iff, and_self, not_true_eq_false, if_false, if_true]; first | exact rel_st hR2 _ | exact ⟨by trivial, rel_st hR2 _⟩
  by_cases p4 : (0 ≤ x5 ∧ x5 ≤ 1000)
  case neg => simp only [p1, p2, p3, p4, not_false_iff, and_self, not_true_eq_false, if_false, if_true]; first | exact rel_st hR2 _ | exact ⟨by trivial, rel_st hR2 _⟩
  by_cases p5 : (0 ≤ x1 ∧ x1 ≤ nI kb' - 1)
  case neg => simp only [p1, p2, p3, p4, p5, not_false_iff, and_self, not_true_eq_false, if_false, if_true]; first | exact rel_st hR2 _ | exact ⟨by trivial, rel_st hR2 _⟩
  simp only [p1, p2, p3, p4, p5, and_self, not_true_eq_false, if_false, ed1, ed2]
  by_cases hn : k = 300
  · subst hn
    rw [if_neg (by decide), if_pos (by decide)]
    first | exact rel_st hR2 _ | exact ⟨by trivial, rel_st hR2 _⟩
  · obtain ⟨a, ha, rfl⟩ := (sub1_le (by omega)).mp p5
    obtain ⟨n, hn9, rfl⟩ := nat_of (n := 9) (by omega) p1.1 p1.2
    obtain ⟨h, hh7, rfl⟩ := nat_of (n := 7) (by omega) p2.1 p2.2
    have hlt : k < 300 := by omega
    have hin : vp_in (nI k) 300 := vp_in_nI hlt (by omega)
    have e0 : ¬ nI (k + 1) < 0 := nI_pos (by omega)
    have e300 : ¬ nI k = 300 := fun q => hn ((nI_eq (b := 300) (by omega) (by omega)).mp q)
    have l300 : nI k < 300 := nI_lt (b := 300) hlt (by omega)
    have c1 : nI a * 10 + nI n = nI (a * 10 + n) := by rw [show (10 : Int32) = nI 10 from rfl, pk_mul, nI_add]
    have c2 : 80 * nI a + 8 * nI n + nI h = nI (8 * (a * 10 + n) + h) := by
      rw [show (80 : Int32) = nI 80 from rfl, show (8 : Int32) = nI 8 from rfl, pk_mul, pk_mul, nI_add, nI_add]; congr 1; omega
    unfold m_X3_add
    simp only [sA_1, sA_21, sA_22, sI_1, sI_2, reduceIte, Nat.reduceEqDiff, ed1, ed2, hin, true_and, forall_eq, cl_nI (show k < 2 ^ 31 by omega), nI_1, e0, e300, l300, c1, c2]
    first | refine (?_ : Rel _ _) | refine ⟨by trivial, (?_ : Rel _ _)⟩
    simp only [Rel, sA_1, sA_21, sA_22, sI_1, sI_2, reduceIte, Nat.reduceEqDiff, e1, e2]
    refine ⟨⟨kb', hkb, rfl, rfl, hb⟩, ⟨kb', k + 1, by omega, rfl, by omega, rfl, rfl, fun i hi => ?_⟩, h3, Or.inl rfl, by rw [← e1]; exact h5, h6, h7, h8, h9, h10, by trivial⟩
    simp only [upd_at]
    by_cases hik : i = k
    · simp only [hik, if_true]
      exact ⟨a * 10 + n, h, by omega, by omega, by trivial, by trivial, by trivial, by trivial, by trivial, p3.1, p3.2, p4.1, p4.2⟩
    · simp only [hik, if_false]; exact hd i (by omega)
/-! squares with radar -/
def cntR (p : Nat → Prop) [DecidablePred p] : Nat → Nat
  | 0 => 0
  | n + 1 => cntR p n + (if p n then 1 else 0)
theorem cntR_le (p : Nat → Prop) [DecidablePred p] : ∀ n, cntR p n ≤ n
  | 0 => Nat.le_refl 0
  | n + 1 => by have := cntR_le p n; unfold cntR; split <;> omega
theorem howMany (N : Nat) (u : UU) (Q : Int32 → UU → Prop) : ∀ (f i : Nat), 64 < i + f → i ≤ 64 → Q (nI (cntR (fun p => ¬ u.2.1 18 p = 0) 64)) u → m_X4_howManyTold_13 N Q f (nI (cntR (fun p => ¬ u.2.1 18 p = 0) i)) 64 (nI i) u
  | 0, i, h1, h2, _ => by omega
  | f + 1, i, h1, h2, hQ => by
    rw [m_X4_howManyTold_13]
    by_cases hi : i = 64
    · subst hi; rw [if_pos (by decide)]; exact hQ
    · have hlt : i < 64 := by omega
      rw [if_neg (show ¬ (64 : Int32) ≤ nI i from nI_ge (b := 64) hlt (by omega))]
      refine ⟨vp_in_nI hlt (by omega), ?_⟩
      have ih := howMany N u Q f (i + 1) (by omega) (by omega) hQ
      have hc := cntR_le (fun p => ¬ u.2.1 18 p = 0) i
      simp only [forall_eq, m_X4_howManyTold_33, nI_1, cl_nI (show i < 2 ^ 31 by omega)]
      by_cases hz : u.2.1 18 i = 0
      · rw [if_pos hz]
        simpa only [cntR, hz, not_true_eq_false, if_false, Nat.add_zero] using ih
      · rw [if_neg hz]
        simpa only [cntR, hz, not_false_iff, if_true] using ih
theorem howManyM (N : Nat) (u : UU) (Q : Int32 → UU → Prop) : ∀ (f i : Nat), 64 < i + f → i ≤ 64 → Q (nI (cntR (fun p => ¬ u.2.1 18 p = -1) 64)) u → m_X12_count_73 N Q f (nI (cntR (fun p => ¬ u.2.1 18 p = -1) i)) (nI i) u
  | 0, i, h1, h2, _ => by omega
  | f + 1, i, h1, h2, hQ => by
    rw [m_X12_count_73]
    by_cases hi : i = 64
    · subst hi; rw [if_pos (by decide)]; exact hQ
    · have hlt : i < 64 := by omega
      rw [if_neg (show ¬ (64 : Int32) ≤ nI i from nI_ge (b := 64) hlt (by omega))]
      refine ⟨vp_in_nI hlt (by omega), ?_⟩
      have ih := howManyM N u Q f (i + 1) (by omega) (by omega) hQ
      simp only [forall_eq, m_X12_count_95, nI_1, cl_nI (show i < 2 ^ 31 by omega)]
      by_cases hz : u.2.1 18 i = -1
      · rw [if_pos hz]
        simpa only [cntR, hz, not_true_eq_false, if_false, Nat.add_zero, Int32.add_zero] using ih
      · rw [if_neg hz]
        simpa only [cntR, hz, not_false_iff, if_true] using ih
def cntF (F : Nat → Nat) : Nat → Nat
  | 0 => 0
  | n + 1 => cntF F n + F n
theorem cntR_F (p : Nat → Prop) [DecidablePred p] : ∀ n, cntR p n = cntF (fun m => if p m then 1 else 0) n
  | 0 => rfl
  | n + 1 => by unfold cntR cntF; rw [cntR_F p n]
theorem cntF_cong {F G : Nat → Nat} : ∀ n, (∀ m, m < n → F m = G m) → cntF F n = cntF G n
  | 0, _ => rfl
  | n + 1, h => by unfold cntF; rw [cntF_cong n (fun m hm => h m (by omega)), h n (by omega)]
set_option maxRecDepth 10000 in
theorem cntF_tr (F : Nat → Nat) : cntF (fun n => F (8 * (n % 8) + n / 8)) 64 = cntF F 64 := by
  simp [cntF]
  omega
theorem cnt_tr {p q : Nat → Prop} [DecidablePred p] [DecidablePred q] (h : ∀ i k, i < 8 → k < 8 → (p (8 * i + k) ↔ q (8 * k + i))) : cntR p 64 = cntR q 64 := by
  rw [cntR_F, cntR_F, ← cntF_tr (fun m => if p m then 1 else 0)]
  apply cntF_cong
  intro n hn
  have h1 := h (n % 8) (n / 8) (by omega) (by omega)
  rw [show 8 * (n / 8) + n % 8 = n by omega] at h1
  by_cases hq : q n
  · rw [if_pos hq, if_pos (h1.mpr hq)]
  · rw [if_neg hq, if_neg (fun z => hq (h1.mp z))]
theorem mt_count (N : Nat) (hN : 4000 ≤ N) : ∀ (u v : UU) (x1 : Int32), Rel u v → m_X11_count N x1 u (fun r u1 => m_X12_count N x1 v (fun r2 v1 => r = r2 ∧ Rel u1 v1)) := by
  intro u v x1 hR
  have hR2 := rel_thrown hR 0
  unfold m_X11_count m_X12_count
  simp only [forall_eq]
  obtain ⟨⟨k1, -, a1, a2, -⟩, ⟨kb, k2, -, -, -, b1, b2, -⟩, h3, h4, h5, h6, ⟨k7, -, c1, c2, -⟩, ⟨k8, -, d1, d2, -⟩, ⟨k9, -, f1, f2, -⟩, h10, h11⟩ := hR
  by_cases q0 : x1 = 0
  · simp only [q0, if_true]; exact ⟨by rw [a1]; exact a2.symm, hR2⟩
  by_cases q1 : x1 = 1
  · rw [if_neg q0, if_pos q1, if_neg q0, if_pos q1]; exact ⟨by rw [b1]; exact b2.symm, hR2⟩
  by_cases q2 : x1 = 2
  · rw [if_neg q0, if_neg q1, if_pos q2, if_neg q0, if_neg q1, if_pos q2]; exact ⟨by rw [d1]; exact d2.symm, hR2⟩
  by_cases q3 : x1 = 3
  · rw [if_neg q0, if_neg q1, if_neg q2, if_pos q3, if_neg q0, if_neg q1, if_neg q2, if_pos q3]; exact ⟨by rw [f1]; exact f2.symm, hR2⟩
  by_cases q4 : x1 = 4
  · rw [if_neg q0, if_neg q1, if_neg q2, if_neg q3, if_pos q4, if_neg q0, if_neg q1, if_neg q2, if_neg q3, if_pos q4]; exact ⟨by rw [c1]; exact c2.symm, hR2⟩
  by_cases q5 : x1 = 5
  · simp only [if_neg q0, if_neg q1, if_neg q2, if_neg q3, if_neg q4, if_pos q5]
    refine howMany N u _ N 0 (by omega) (by omega) ?_
    refine howManyM N (sI v 0 0) _ N 0 (by omega) (by omega) ⟨?_, hR2⟩
    congr 1
    refine cnt_tr (fun i k hi hk => ?_)
    obtain ⟨r1, r2, r3⟩ := h6 i k hi hk
    show (¬ u.2.1 18 (8 * i + k) = 0) ↔ (¬ v.2.1 18 (8 * k + i) = -1)
    rw [r1]
    constructor <;> intro a b <;> apply a <;> grind
  · simp only [if_neg q0, if_neg q1, if_neg q2, if_neg q3, if_neg q4, if_neg q5]; exact ⟨by trivial, hR2⟩
/-! the tape -/
theorem byte_eq (x s : Int32) (k : Nat) (hs : s = nI k) (hk : k = 24 ∨ k = 16 ∨ k = 8 ∨ k = 0) : ((x.toUInt32 >>> (s.toUInt32 &&& Int32.toUInt32 31)).toInt32) &&& 255 = (x >>> (s &&& 31)) &&& 255 := by
  have h8 : (255 : Int32).toBitVec.toNat = 2 ^ 8 - 1 := by decide
  rw [pk_and _ 8 h8, pk_and _ 8 h8]
  have e1 : ((x.toUInt32 >>> (s.toUInt32 &&& Int32.toUInt32 31)).toInt32).toBitVec.toNat = x.toBitVec.toNat / 2 ^ k := by
    apply pk_ushr
    rcases hk with rfl | rfl | rfl | rfl <;> subst hs <;> decide
  have e2 : (x >>> (s &&& 31)).toInt = x.toInt >>> k := by
    apply pk_shr
    rcases hk with rfl | rfl | rfl | rfl <;> subst hs <;> decide
  rw [e1]
  congr 1
  have e3 : (x >>> (s &&& 31)).toBitVec.toInt = x.toBitVec.toInt >>> k := e2
  rw [BitVec.toInt_eq_toNat_bmod, BitVec.toInt_eq_toNat_bmod] at e3
  have l1 := (x >>> (s &&& 31)).toBitVec.isLt
  have l2 := x.toBitVec.isLt
  rw [Int.shiftRight_eq_div_pow] at e3
  generalize (x >>> (s &&& 31)).toBitVec.toNat = A at *
  generalize x.toBitVec.toNat = B at *
  rw [Int.bmod_def, Int.bmod_def] at e3
  rcases hk with rfl | rfl | rfl | rfl <;> split at e3 <;> split at e3 <;> omega
/-- four bytes come behind the tape -/
def ap4 (b : Nat → Int32) (k : Nat) (x : Int32) : Nat → Int32 := upd (upd (upd (upd b k ((x >>> ((24 : Int32) &&& 31)) &&& 255)) (k + 1) ((x >>> ((16 : Int32) &&& 31)) &&& 255)) (k + 2) ((x >>> ((8 : Int32) &&& 31)) &&& 255)) (k + 3) ((x >>> ((0 : Int32) &&& 31)) &&& 255)
theorem append_ok (N f : Nat) (x : Int32) (u : UU) (Q : UU → Prop) (k : Nat) (hk : k + 4 ≤ 200) (hu : u.1 10 = nI k) (h : ∀ u', u'.1 = va_up u.1 10 (nI (k + 4)) → u'.2 = (sA u 19 (ap4 (u.2.1 19) k x)).2 → Q u') : m_X8_append_12 N Q (f + 5) x 24 u := by
  have i0 : vp_in (nI k) 200 := vp_in_nI (by omega) (by omega)
  have i1 : vp_in (nI (k + 1)) 200 := vp_in_nI (by omega) (by omega)
  have i2 : vp_in (nI (k + 2)) 200 := vp_in_nI (by omega) (by omega)
  have i3 : vp_in (nI (k + 3)) 200 := vp_in_nI (by omega) (by omega)
  rw [m_X8_append_12, if_neg (by decide)]
  refine ⟨by rw [hu]; exact i0, fun u1 e1 u2 e2 z3 e3 => ?_⟩
  have g2 : u2.1 10 = nI (k + 1) := by rw [e2, e1]; show u.1 10 + 1 = _; rw [hu, nI_1]
  rw [e3, show (24 : Int32) + -8 = 16 from by decide, m_X8_append_12, if_neg (by decide)]
  refine ⟨by rw [g2]; exact i1, fun u3 e3 u4 e4 z5 e5 => ?_⟩
  have g4 : u4.1 10 = nI (k + 2) := by rw [e4, e3]; show u2.1 10 + 1 = _; rw [g2, nI_1]
  rw [e5, show (16 : Int32) + -8 = 8 from by decide, m_X8_append_12, if_neg (by decide)]
  refine ⟨by rw [g4]; exact i2, fun u5 e5 u6 e6 z7 e7 => ?_⟩
  have g6 : u6.1 10 = nI (k + 3) := by rw [e6, e5]; show u4.1 10 + 1 = _; rw [g4, nI_1]
  rw [e7, show (8 : Int32) + -8 = 0 from by decide, m_X8_append_12, if_neg (by decide)]
  refine ⟨by rw [g6]; exact i3, fun u7 e7 u8 e8 z9 e9 => ?_⟩
  have g8 : u8.1 10 = nI (k + 4) := by rw [e8, e7]; show u6.1 10 + 1 = _; rw [g6, nI_1]
  rw [e9, show (0 : Int32) + -8 = -8 from by decide, m_X8_append_12, if_pos (by decide)]
  rw [hu, cl_nI (by omega), byte_eq x 24 24 rfl (by omega)] at e1
  rw [g2, cl_nI (by omega), byte_eq x 16 16 rfl (by omega)] at e3
  rw [g4, cl_nI (by omega), byte_eq x 8 8 rfl (by omega)] at e5
  rw [g6, cl_nI (by omega), byte_eq x 0 0 rfl (by omega)] at e7
  apply h
  · funext j
    by_cases hj : j = 10
    · subst hj; exact g8
    · rw [e8]; simp only [sI_1, hj, if_false, e7, sA_1, e6, e5, e4, e3, e2, e1, va_up]
  · rw [e8, sI_2, e7]
    subst e1; subst e2; subst e3; subst e4; subst e5; subst e6
    have key : ∀ (a b : Nat → Nat → Int32) (c : Nat → Int64), a = b → ((a, c) : (Nat → Nat → Int32) × (Nat → Int64)) = (b, c) := fun a b c h => by rw [h]
    apply key
    funext j
    by_cases hj : j = 19
    · subst hj; rfl
    · simp only [va_up, hj, if_false, sI, sA]
theorem four_ok (N f : Nat) (x : Int32) (u : UU) (Q : UU → Prop) (k : Nat) (hk : k + 4 ≤ 200) (hu : u.1 12 = nI k) (h : ∀ u', u'.1 = va_up u.1 12 (nI (k + 4)) → u'.2 = (sA u 24 (ap4 (u.2.1 24) k x)).2 → Q u') : m_X12_four_3 N Q (f + 5) x 24 u := by
  have i0 : vp_in (nI k) 200 := vp_in_nI (by omega) (by omega)
  have i1 : vp_in (nI (k + 1)) 200 := vp_in_nI (by omega) (by omega)
  have i2 : vp_in (nI (k + 2)) 200 := vp_in_nI (by omega) (by omega)
  have i3 : vp_in (nI (k + 3)) 200 := vp_in_nI (by omega) (by omega)
  rw [m_X12_four_3, if_neg (by decide)]
  refine ⟨by rw [hu]; exact i0, fun u1 e1 u2 e2 z3 e3 => ?_⟩
  have g2 : u2.1 12 = nI (k + 1) := by rw [e2, e1]; show u.1 12 + 1 = _; rw [hu, nI_1]
  rw [e3, show (24 : Int32) + -8 = 16 from by decide, m_X12_four_3, if_neg (by decide)]
  refine ⟨by rw [g2]; exact i1, fun u3 e3 u4 e4 z5 e5 => ?_⟩
  have g4 : u4.1 12 = nI (k + 2) := by rw [e4, e3]; show u2.1 12 + 1 = _; rw [g2, nI_1]
  rw [e5, show (16 : Int32) + -8 = 8 from by decide, m_X12_four_3, if_neg (by decide)]
  refine ⟨by rw [g4]; exact i2, fun u5 e5 u6 e6 z7 e7 => ?_⟩
  have g6 : u6.1 12 = nI (k + 3) := by rw [e6, e5]; show u4.1 12 + 1 = _; rw [g4, nI_1]
  rw [e7, show (8 : Int32) + -8 = 0 from by decide, m_X12_four_3, if_neg (by decide)]
  refine ⟨by rw [g6]; exact i3, fun u7 e7 u8 e8 z9 e9 => ?_⟩
  have g8 : u8.1 12 = nI (k + 4) := by rw [e8, e7]; show u6.1 12 + 1 = _; rw [g6, nI_1]
  rw [e9, show (0 : Int32) + -8 = -8 from by decide, m_X12_four_3, if_pos (by decide)]
  rw [hu, cl_nI (by omega)] at e1
  rw [g2, cl_nI (by omega)] at e3
  rw [g4, cl_nI (by omega)] at e5
  rw [g6, cl_nI (by omega)] at e7
  apply h
  · funext j
    by_cases hj : j = 12
    · subst hj; exact g8
    · rw [e8]; simp only [sI_1, hj, if_false, e7, sA_1, e6, e5, e4, e3, e2, e1, va_up]
  · rw [e8, sI_2, e7]
    subst e1; subst e2; subst e3; subst e4; subst e5; subst e6
    have key : ∀ (a b : Nat → Nat → Int32) (c : Nat → Int64), a = b → ((a, c) : (Nat → Nat → Int32) × (Nat → Int64)) = (b, c) := fun a b c h => by rw [h]
    apply key
    funext j
    by_cases hj : j = 24
    · subst hj; rfl
    · simp only [va_up, hj, if_false, sI, sA]
theorem rel_ap4 {u v u' v' : UU} {k : Nat} (x : Int32) (hk : k + 4 ≤ 200) (hR : Rel u v) (hu : u.1 10 = nI k) (e1 : u'.1 = va_up u.1 10 (nI (k + 4))) (e2 : u'.2 = (sA u 19 (ap4 (u.2.1 19) k x)).2) (e3 : v'.1 = va_up v.1 12 (nI (k + 4))) (e4 : v'.2 = (sA v 24 (ap4 (v.2.1 24) k x)).2) : Rel u' v' := by
  obtain ⟨h1, h2, h3, h4, h5, h6, ⟨k', hk', f1, f2, hb⟩, h8, h9, h10, h11⟩ := hR
  have ek : k' = k := (nI_eq (by omega) (by omega)).mp (f1.symm.trans hu)
  subst ek
  have b255 : ∀ y : Int32, 0 ≤ y &&& 255 ∧ y &&& 255 ≤ 255 := by
    intro y
    rw [pk_and y 8 (by decide)]
    exact ⟨nI_pos' (by omega), nI_le (b := 255) (by omega) (by omega)⟩
  simp only [Rel, e1, e2, e3, e4, va_up, sA_1, sA_21, sA_22, sI_1, sI_2, reduceIte, Nat.reduceEqDiff]
  refine ⟨h1, h2, h3, h4, h5, h6, ⟨k' + 4, by omega, rfl, rfl, fun i hi => ?_⟩, h8, h9, h10, h11⟩
  simp only [ap4, upd_at]
  by_cases c3 : i = k' + 3
  · simp only [c3, if_true]; exact ⟨by trivial, b255 _⟩
  by_cases c2 : i = k' + 2
  · rw [if_neg c3, if_pos c2, if_neg c3, if_pos c2]; exact ⟨rfl, b255 _⟩
  by_cases c1 : i = k' + 1
  · rw [if_neg c3, if_neg c2, if_pos c1, if_neg c3, if_neg c2, if_pos c1]; exact ⟨rfl, b255 _⟩
  by_cases c0 : i = k'
  · rw [if_neg c3, if_neg c2, if_neg c1, if_pos c0, if_neg c3, if_neg c2, if_neg c1, if_pos c0]; exact ⟨rfl, b255 _⟩
  · rw [if_neg c3, if_neg c2, if_neg c1, if_neg c0, if_neg c3, if_neg c2, if_neg c1, if_neg c0]; exact hb i (by omega)
theorem room_eq (N : Nat) (x : Int32) (u : UU) (Q : Int32 → UU → Prop) : m_X8_hasRoomFor N x u Q ↔ Q (bi (u.1 10 + x ≤ 200)) u := by
  unfold m_X8_hasRoomFor
  by_cases h : (200 : Int32) < u.1 10 + x
  · rw [if_pos h, bi_f (by grind)]; simp [nb_0]
  · rw [if_neg h, bi_t (by grind)]; simp [nb_1]
theorem mt_feed (N : Nat) (hN : 4000 ≤ N) : ∀ (u v : UU) (x1 x2 x3 x4 x5 : Int32), Rel u v → m_X11_feed N x1 x2 x3 x4 x5 u (fun r u1 => m_X12_feed N x1 x2 x3 x4 x5 v (fun r2 v1 => r = r2 ∧ Rel u1 v1)) := by
  intro u v x1 x2 x3 x4 x5 hR
  have hR2 := rel_thrown hR 0
  obtain ⟨-, -, -, -, -, -, ⟨k, hk, f1, f2, -⟩, -⟩ := id hR
  unfold m_X11_feed m_X12_feed
  simp only [forall_eq, room_eq, bi_0, f1]
  have ev : (sI v 0 0).1 12 = nI k := f2
  rw [ev]
  have e20 : nI k + 20 = nI (k + 20) := nI_add k 20
  rw [e20]
  by_cases hc : nI (k + 20) ≤ 200
  case neg => rw [if_pos hc, if_neg hc]; exact ⟨by trivial, hR2⟩
  rw [if_neg (fun q => q hc)]
  simp only [if_pos hc]
  have hk20 : k + 20 ≤ 200 := (nI_leI (b := 200) (by omega) (by omega)).mp hc
  obtain ⟨f, rfl⟩ : ∃ f, N = f + 5 := ⟨N - 5, by omega⟩
  have apn : ∀ (x : Int32) (u : UU) (j : Nat) (Q : UU → Prop), j + 4 ≤ 200 → u.1 10 = nI j → (∀ u', u'.1 = va_up u.1 10 (nI (j + 4)) → u'.2 = (sA u 19 (ap4 (u.2.1 19) j x)).2 → Q u') → m_X8_append (f + 5) x u Q := by
    intro x u j Q hj hu h
    unfold m_X8_append
    simp only [room_eq, bi_0, hu]
    rw [show nI j + 4 = nI (j + 4) from nI_add j 4, if_neg (fun q => q (nI_le (b := 200) hj (by omega)))]
    exact append_ok _ f x u Q j hj hu h
  have fo : ∀ (x : Int32) (u : UU) (j : Nat) (Q : UU → Prop), j + 4 ≤ 200 → u.1 12 = nI j → (∀ u', u'.1 = va_up u.1 12 (nI (j + 4)) → u'.2 = (sA u 24 (ap4 (u.2.1 24) j x)).2 → Q u') → m_X12_four (f + 5) x u Q := fun x u j Q hj hu h => four_ok _ f x u Q j hj hu h
  have g : ∀ (w : UU) (a : Nat) (b : Int32) (w' : UU), w'.1 = va_up w.1 a b → w'.1 a = b := fun w a b w' h => by rw [h]; simp [va_up]
  refine apn x1 u k _ (by omega) f1 (fun u1 a1 b1 => ?_)
  refine apn x2 u1 (k + 4) _ (by omega) (g _ _ _ _ a1) (fun u2 a2 b2 => ?_)
  refine apn x3 u2 (k + 4 + 4) _ (by omega) (g _ _ _ _ a2) (fun u3 a3 b3 => ?_)
  refine apn x4 u3 (k + 4 + 4 + 4) _ (by omega) (g _ _ _ _ a3) (fun u4 a4 b4 => ?_)
  refine apn x5 u4 (k + 4 + 4 + 4 + 4) _ (by omega) (g _ _ _ _ a4) (fun u5 a5 b5 => ?_)
  refine fo x1 _ k _ (by omega) ev (fun v1 c1 d1 => ?_)
  refine fo x2 v1 (k + 4) _ (by omega) (g _ _ _ _ c1) (fun v2 c2 d2 => ?_)
  refine fo x3 v2 (k + 4 + 4) _ (by omega) (g _ _ _ _ c2) (fun v3 c3 d3 => ?_)
  refine fo x4 v3 (k + 4 + 4 + 4) _ (by omega) (g _ _ _ _ c3) (fun v4 c4 d4 => ?_)
  refine fo x5 v4 (k + 4 + 4 + 4 + 4) _ (by omega) (g _ _ _ _ c4) (fun v5 c5 d5 => ?_)
  have r1 := rel_ap4 x1 (by omega) hR2 f1 a1 b1 c1 d1
  have r2 := rel_ap4 x2 (by omega) r1 (g _ _ _ _ a1) a2 b2 c2 d2
  have r3 := rel_ap4 x3 (by omega) r2 (g _ _ _ _ a2) a3 b3 c3 d3
  have r4 := rel_ap4 x4 (by omega) r3 (g _ _ _ _ a3) a4 b4 c4 d4
  have r5 := rel_ap4 x5 (by omega) r4 (g _ _ _ _ a4) a5 b5 c5 d5
  exact ⟨by rw [g _ _ _ _ a5, g _ _ _ _ c5], r5⟩
