/-! quarrel -/
theorem W_rng {u v : UU} (hR : Rel u v) (x : Int32) : ∀ p, 0 ≤ WOf u x p ∧ WOf u x p ≤ 400 := by
  obtain ⟨kb, k, hkb, hk, e2, -, e3, -, D, -⟩ := rel_bd hR
  have ek : (u.1 3).toNatClampNeg = k := by rw [e3]; exact cl_nI (by omega)
  intro p
  unfold WOf; rw [ek]
  exact wd_rng D k (Nat.le_refl _) p
theorem lohi {W : Nat → Int32} (hW : ∀ p, 0 ≤ W p ∧ W p ≤ 400) (c : Nat) : ∀ i, (hiF W c i = 0 ∧ cntR (fun h => 0 < W (8 * c + h)) i = 0 ∧ loF W c 400 i = 400 ∧ loF W c 1000 i = 1000) ∨ (0 < hiF W c i ∧ cntR (fun h => 0 < W (8 * c + h)) i ≠ 0 ∧ loF W c 400 i = loF W c 1000 i ∧ 0 < loF W c 400 i ∧ loF W c 400 i ≤ hiF W c i ∧ hiF W c i ≤ 400)
  | 0 => Or.inl ⟨rfl, rfl, rfl, rfl⟩
  | i + 1 => by
    have ih := lohi hW c i
    have w := hW (8 * c + i)
    unfold hiF loF cntR mx
    generalize W (8 * c + i) = y at w ⊢
    generalize hiF W c i = a at ih ⊢
    generalize loF W c 400 i = l at ih ⊢
    generalize loF W c 1000 i = m at ih ⊢
    generalize cntR (fun h => 0 < W (8 * c + h)) i = k at ih ⊢
    by_cases hz : y ≤ 0
    · have hz' : ¬ 0 < y := by grind
      simp only [hz, hz', if_true, if_false, Nat.add_zero]; exact ih
    · have hz' : 0 < y := by grind
      simp only [hz, hz', if_true, if_false]
      refine Or.inr ?_
      rcases ih with ⟨a0, k0, l0, m0⟩ | ⟨a0, k0, l0, l1, l2, l3⟩
      · subst a0; subst l0; subst m0
        rw [if_pos hz']
        refine ⟨hz', by omega, ?_, ?_, ?_, w.2⟩
        · by_cases e : y < 400
          · rw [if_pos e, if_pos (by grind)]
          · rw [if_neg e, if_pos (by grind)]; grind
        · split <;> grind
        · split <;> grind
      · subst l0
        refine ⟨by split <;> grind, by omega, rfl, by split <;> grind, by split <;> split <;> grind, by split <;> grind⟩
theorem sp_eq {W : Nat → Int32} (hW : ∀ p, 0 ≤ W p ∧ W p ≤ 400) (c : Nat) : (hiF W c 8 ≤ 0 ∧ spF W c = 0) ∨ (¬ hiF W c 8 ≤ 0 ∧ spF W c = hiF W c 8 - loF W c 1000 8 ∧ 0 ≤ spF W c) := by
  unfold spF
  rw [ws_len]
  rcases lohi hW c 8 with ⟨a, b, -, -⟩ | ⟨a, b, c1, d, e, f⟩
  · exact Or.inl ⟨by rw [a]; decide, by rw [if_pos b]⟩
  · refine Or.inr ⟨by grind, ?_, ?_⟩
    · rw [if_neg b, c1]
    · rw [if_neg b]; grind
theorem qr_nn {W : Nat → Int32} (hW : ∀ p, 0 ≤ W p ∧ W p ≤ 400) (b : Nat) : ∀ i, 0 ≤ qrF W b i
  | 0 => by show (0 : Int32) ≤ 0; decide
  | i + 1 => by
    have ih := qr_nn hW b i
    unfold qrF mx; split
    · rcases sp_eq hW (10 * b + i) with ⟨-, q⟩ | ⟨-, -, q⟩
      · rw [q]; decide
      · exact q
    · exact ih
theorem mq_in (N : Nat) (Q : Int32 → UU → Prop) (W : Nat → Int32) (hW : ∀ p, 0 ≤ W p ∧ W p ≤ 400) (z : UU) (hz8 : ∀ p, p < 2400 → z.2.1 8 p = W p) (b n : Nat) (hb : b < 30) (hn : n < 10) (k32 : Int32 → Int32 → Int32 → UU → Prop) (hK : k32 (nI b) (qrF W b (n + 1)) (nI (n + 1)) z) :
    ∀ (f i : Nat), i ≤ 8 → 8 < i + f → m_X12_quarrel_50 N k32 Q f (nI b) (qrF W b n) (nI n) (loF W (10 * b + n) 1000 i) (hiF W (10 * b + n) i) (nI i) z
  | 0, i, h1, h2 => by omega
  | f + 1, i, h1, h2 => by
    rw [m_X12_quarrel_50]
    by_cases hi : i = 8
    · subst hi
      rw [if_pos (by decide)]
      unfold m_X12_quarrel_142 m_X12_quarrel_143
      simp only [forall_eq, nI_1]
      have q0 := qr_nn hW b n
      unfold qrF mx at hK
      rcases sp_eq hW (10 * b + n) with ⟨q1, q2⟩ | ⟨q1, q2, q3⟩
      · rw [if_pos q1]
        rw [q2, if_neg (by grind)] at hK; exact hK
      · rw [if_neg q1]
        rw [q2] at hK
        by_cases hc : hiF W (10 * b + n) 8 - loF W (10 * b + n) 1000 8 ≤ qrF W b n
        · rw [if_pos hc]; rw [if_neg (by grind)] at hK; exact hK
        · rw [if_neg hc]; rw [if_pos (by grind)] at hK; exact hK
    · rw [if_neg (show ¬ (8 : Int32) ≤ nI i from nI_ge (b := 8) (by omega) (by omega))]
      have ei : 80 * nI b + 8 * nI n + nI i = nI (8 * (10 * b + n) + i) := by
        rw [show (80 : Int32) = nI 80 from rfl, show (8 : Int32) = nI 8 from rfl, pk_mul, pk_mul, nI_add, nI_add]; congr 1; omega
      rw [ei]
      refine ⟨vp_in_nI (by omega) (by omega), ?_⟩
      have ih := mq_in N Q W hW z hz8 b n hb hn k32 hK f (i + 1) (by omega) (by omega)
      simp only [m_X12_quarrel_94, m_X12_quarrel_96, m_X12_quarrel_112, forall_eq, nI_1, cl_nI (show 8 * (10 * b + n) + i < 2 ^ 31 by omega), hz8 (8 * (10 * b + n) + i) (by omega)]
      have hh := lohi hW (10 * b + n) i
      have h0 : 0 ≤ hiF W (10 * b + n) i := by rcases hh with ⟨a, -⟩ | ⟨a, -⟩ <;> grind
      unfold loF hiF mx at ih
      generalize W (8 * (10 * b + n) + i) = y at ih ⊢
      by_cases hz : y ≤ 0
      · rw [if_pos hz, if_pos hz] at ih
        rw [if_pos hz, if_pos (by grind)]; exact ih
      · rw [if_neg hz, if_neg hz] at ih
        rw [if_neg hz]
        by_cases hl : loF W (10 * b + n) 1000 i ≤ y
        · rw [if_neg (show ¬ y < loF W (10 * b + n) 1000 i by grind)] at ih
          rw [if_pos hl]
          by_cases hg : y ≤ hiF W (10 * b + n) i
          · rw [if_neg (by grind)] at ih; rw [if_pos hg]; exact ih
          · rw [if_pos (by grind)] at ih; rw [if_neg hg]; exact ih
        · rw [if_pos (show y < loF W (10 * b + n) 1000 i by grind)] at ih
          rw [if_neg hl]
          by_cases hg : y ≤ hiF W (10 * b + n) i
          · rw [if_neg (by grind)] at ih; rw [if_pos hg]; exact ih
          · rw [if_pos (by grind)] at ih; rw [if_neg hg]; exact ih
theorem mq_out (N : Nat) (hN : 4000 ≤ N) (Q : Int32 → UU → Prop) (W : Nat → Int32) (hW : ∀ p, 0 ≤ W p ∧ W p ≤ 400) (z : UU) (hz8 : ∀ p, p < 2400 → z.2.1 8 p = W p) (b : Nat) (hb : b < 30) (hQ : Q (qrF W b 10) z) : ∀ (f i : Nat), i ≤ 10 → 10 < i + f → m_X12_quarrel_32 N Q f (nI b) (qrF W b i) (nI i) z
  | 0, i, h1, h2 => by omega
  | f + 1, i, h1, h2 => by
    rw [m_X12_quarrel_32]
    by_cases hi : i = 10
    · subst hi; rw [if_pos (by decide)]; exact hQ
    · rw [if_neg (show ¬ (10 : Int32) ≤ nI i from nI_ge (b := 10) (by omega) (by omega))]
      exact mq_in N Q W hW z hz8 b i hb (by omega) _ (mq_out N hN Q W hW z hz8 b hb hQ f (i + 1) (by omega) (by omega)) N 0 (by omega) (by omega)
theorem mt_quarrel (N : Nat) (hN : 4000 ≤ N) : ∀ (u v : UU) (x1 x2 : Int32), Rel u v → m_X11_quarrel N x1 x2 u (fun r u1 => m_X12_quarrel N x1 x2 v (fun r2 v1 => r = r2 ∧ Rel u1 v1)) := by
  intro u v x1 x2 hR
  have hR2 := rel_thrown hR 0
  obtain ⟨kb, k, hkb, hk, e2, e2', -⟩ := rel_bd hR
  have hv : (sI v 0 0).1 2 = nI kb := e2'
  unfold m_X11_quarrel m_X12_quarrel
  simp only [has_eq, isHour_eq, mKnown_eq, mBoard_eq N _ _ _ (show kb ≤ 300 by omega) hv, bi_0, forall_eq, e2]
  by_cases p1 : (0 ≤ x1 ∧ x1 ≤ nI kb - 1)
  case neg => simp only [p1, not_false_iff, if_true]; exact ⟨by trivial, hR2⟩
  by_cases p2 : (0 ≤ x2 ∧ x2 ≤ 1000)
  case neg => simp only [p1, p2, not_false_iff, and_self, not_true_eq_false, if_false, if_true]; exact ⟨by trivial, hR2⟩
  simp only [p1, p2, and_self, not_true_eq_false, if_false]
  obtain ⟨b, hb, rfl⟩ := (sub1_le (by omega)).mp p1
  refine show_rel N hN hR x2 p2 _ (fun w hRw ok h4 hS => ?_)
  refine quarrel_loop N hN _ _ w hS b (by omega) ?_ N 0 (by omega) (by omega)
  refine find_rel N hN hR2 x2 _ (fun z okz hF hB => ?_)
  exact mq_out N hN _ _ (W_rng hR x2) z hF.1 b (by omega) ⟨rfl, rel_V (rel_thrown hRw 0) okz⟩ N 0 (by omega) (by omega)
