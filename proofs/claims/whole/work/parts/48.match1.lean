/-! leaning, of, seen, quarrel -/
theorem mt_leaning (N : Nat) (hN : 4000 ≤ N) : ∀ (u v : UU) (x1 x2 : Int32), Rel u v → m_X11_leaning N x1 x2 u (fun r u1 => m_X12_leaning N x1 x2 v (fun r2 v1 => r = r2 ∧ Rel u1 v1)) := by
  intro u v x1 x2 hR
  have hR2 := rel_thrown hR 0
  unfold m_X11_leaning m_X12_leaning m_X10_leaningOf
  simp only [isIn_eq, isHour_eq, mKnown_eq, inI0 N _ 0 7 0 7 rfl rfl, bi_0, forall_eq]
  by_cases p1 : (0 ≤ x1 ∧ x1 ≤ 7)
  case neg => simp only [p1, not_false_iff, if_true]; exact ⟨by trivial, hR2⟩
  by_cases p2 : (0 ≤ x2 ∧ x2 ≤ 1000)
  case neg => simp only [p1, p2, not_false_iff, and_self, not_true_eq_false, if_false, if_true]; exact ⟨by trivial, hR2⟩
  simp only [p1, p2, and_self, not_true_eq_false, if_false]
  obtain ⟨j, hj, rfl⟩ := nat_of (n := 7) (by omega) p1.1 p1.2
  have hin : vp_in (nI j) 8 := vp_in_nI (by omega) (by omega)
  refine show_rel N hN hR x2 p2 _ (fun w hRw ok h4 hS => ⟨hin, ?_⟩)
  refine find_rel N hN hR2 x2 _ (fun z okz hF hB => ⟨hin, ?_, rel_V (rel_thrown hRw 0) okz⟩)
  rw [cl_nI (by omega), hS.2.2 j (by omega), hF.2.2.1 j (by omega)]
theorem mt_of (N : Nat) (hN : 4000 ≤ N) : ∀ (u v : UU) (x1 x2 x3 x4 : Int32), Rel u v → m_X11_of N x1 x2 x3 x4 u (fun r u1 => m_X12_of N x1 x2 x3 x4 v (fun r2 v1 => r = r2 ∧ Rel u1 v1)) := by
  intro u v x1 x2 x3 x4 hR
  have hR2 := rel_thrown hR 0
  obtain ⟨kb, k, hkb, hk, e2, e2', -⟩ := rel_bd hR
  have hv : (sI v 0 0).1 2 = nI kb := e2'
  unfold m_X11_of m_X12_of
  simp only [has_eq, isIn_eq, isHour_eq, mKnown_eq, mBoard_eq N _ _ _ (show kb ≤ 300 by omega) hv, inI0 N _ 0 9 0 9 rfl rfl, bi_0, forall_eq, e2]
  by_cases p1 : (0 ≤ x1 ∧ x1 ≤ nI kb - 1)
  case neg => simp only [p1, not_false_iff, if_true]; exact ⟨by trivial, hR2⟩
  by_cases p2 : (0 ≤ x2 ∧ x2 ≤ 9)
  case neg => simp only [p1, p2, not_false_iff, and_self, not_true_eq_false, if_false, if_true]; exact ⟨by trivial, hR2⟩
  by_cases p3 : (0 ≤ x3 ∧ x3 ≤ 1000)
  case neg => simp only [p1, p2, p3, not_false_iff, and_self, not_true_eq_false, if_false, if_true]; exact ⟨by trivial, hR2⟩
  simp only [p1, p2, p3, and_self, not_true_eq_false, if_false]
  obtain ⟨b, hb, rfl⟩ := (sub1_le (by omega)).mp p1
  obtain ⟨n, hn, rfl⟩ := nat_of (n := 9) (by omega) p2.1 p2.2
  simp only [ix10, ix10']
  have hc : 10 * b + n < 300 := by omega
  have hin : vp_in (nI (10 * b + n)) 300 := vp_in_nI (by omega) (by omega)
  refine show_rel N hN hR x3 p3 _ (fun w hRw ok h4 hS => ?_)
  have hRw2 := rel_thrown hRw 0
  rw [hands_eq N _ _ w hS _ hc]
  -- the reference's side, once
  have mside : ∀ (a : Int32) (u1 : UU), Rel u1 v → (∀ z, Fw (WOf u x3) z → okV (sI v 0 0) z → (if (wsOf (WOf u x3) (10 * b + n)).length = 0 then a = -1 else if x4 = 0 then a = rawF (WOf u x3) (10 * b + n) else if x4 = 1 then a = trueF (WOf u x3) (10 * b + n) else if x4 = 2 then a = szF (z.2.1 6) (z.2.1 7) (trueF (WOf u x3) (10 * b + n)) else if x4 = 3 then a = nI (wsOf (WOf u x3) (10 * b + n)).length else a = -1)) →
      m_X12_find N x3 (sI v 0 0) (fun u_8 => vp_in (nI (10 * b + n)) 300 ∧ if u_8.2.1 11 (nI (10 * b + n)).toNatClampNeg = 0 then a = -1 ∧ Rel u1 u_8 else if x4 = 0 then vp_in (nI (10 * b + n)) 300 ∧ a = u_8.2.1 9 (nI (10 * b + n)).toNatClampNeg ∧ Rel u1 u_8 else if x4 = 1 then vp_in (nI (10 * b + n)) 300 ∧ a = u_8.2.1 10 (nI (10 * b + n)).toNatClampNeg ∧ Rel u1 u_8 else if x4 = 2 then vp_in (nI (10 * b + n)) 300 ∧ m_X12_sizeOf N (u_8.2.1 10 (nI (10 * b + n)).toNatClampNeg) u_8 (fun r_12 u_11 => a = r_12 ∧ Rel u1 u_11) else if x4 = 3 then vp_in (nI (10 * b + n)) 300 ∧ a = u_8.2.1 11 (nI (10 * b + n)).toNatClampNeg ∧ Rel u1 u_8 else a = -1 ∧ Rel u1 u_8) := by
    intro a u1 hR1 ha
    refine find_rel N hN hR2 x3 _ (fun z okz hF hB => ⟨hin, ?_⟩)
    have hz1 := rel_V (rel_thrown hR1 0) okz
    have ha' := ha z hF okz
    rw [cl_nI (by omega), (hF.2.1 _ hc).1, (hF.2.1 _ hc).2, hF.2.2.2 _ hc]
    by_cases hl : (wsOf (WOf u x3) (10 * b + n)).length = 0
    · rw [if_pos hl] at ha'
      rw [if_pos (by rw [hl]; rfl)]; exact ⟨ha', hz1⟩
    · rw [if_neg hl] at ha'
      rw [if_neg (nI_ne0 (by omega) (by have := ws_le (WOf u x3) (10 * b + n); omega)), if_neg hl, if_neg hl]
      by_cases c0 : x4 = 0
      · rw [if_pos c0] at ha' ⊢; exact ⟨hin, ha', hz1⟩
      rw [if_neg c0] at ha' ⊢
      by_cases c1 : x4 = 1
      · rw [if_pos c1] at ha' ⊢; exact ⟨hin, ha', hz1⟩
      rw [if_neg c1] at ha' ⊢
      by_cases c2 : x4 = 2
      · rw [if_pos c2] at ha' ⊢; exact ⟨hin, msize_ok N hN _ _ _ ⟨ha', hz1⟩⟩
      rw [if_neg c2] at ha' ⊢
      by_cases c3 : x4 = 3
      · rw [if_pos c3] at ha' ⊢; exact ⟨hin, ha', hz1⟩
      rw [if_neg c3] at ha' ⊢; exact ⟨ha', hz1⟩
  by_cases hl : (wsOf (WOf u x3) (10 * b + n)).length = 0
  · rw [if_pos (by rw [hl]; rfl)]
    simpa using mside (-1) _ hRw (fun z _ _ => by rw [if_pos hl])
  · rw [if_neg (nI_ne0 (by omega) (by have := ws_le (WOf u x3) (10 * b + n); omega))]
    by_cases c0 : x4 = 0
    · rw [if_pos c0]
      unfold m_X10_rawWidth
      rw [isCell_eq, if_neg (cell_in hc)]
      refine ⟨hin, ?_⟩
      have e : w.2.1 11 (nI (10 * b + n)).toNatClampNeg = rawF (WOf u x3) (10 * b + n) := by rw [cl_nI (by omega)]; exact (hS.2.1 _ hc).2 hl
      rw [e]
      exact mside _ _ hRw (fun z _ _ => by rw [if_neg hl, if_pos c0])
    rw [if_neg c0]
    by_cases c1 : x4 = 1
    · rw [if_pos c1]
      refine true_ok N hN _ _ w hS _ hc (fun r => ?_)
      exact mside _ _ (rel_row hRw r) (fun z _ _ => by rw [if_neg hl, if_neg c0, if_pos c1])
    rw [if_neg c1]
    by_cases c2 : x4 = 2
    · rw [if_pos c2]
      refine true_ok N hN _ _ w hS _ hc (fun r => ?_)
      refine sizeFor_ok N hN _ _ _ ?_
      refine mside _ _ (rel_row hRw r) (fun z _ okz => ?_)
      rw [if_neg hl, if_neg c0, if_neg c1, if_pos c2]
      exact szF_cong (rel_tab (rel_V hRw2 okz)) _
    rw [if_neg c2]
    by_cases c3 : x4 = 3
    · rw [if_pos c3, hands_eq N _ _ w hS _ hc]
      exact mside _ _ hRw (fun z _ _ => by rw [if_neg hl, if_neg c0, if_neg c1, if_neg c2, if_pos c3])
    rw [if_neg c3]
    simpa using mside (-1) _ hRw (fun z _ _ => by rw [if_neg hl, if_neg c0, if_neg c1, if_neg c2, if_neg c3])
/-- a board is seen on both sides, or on neither -/
theorem seen_both {W : Nat → Int32} {x c c' : Int32} {b : Nat} (hx : 0 ≤ x ∧ x ≤ 1000) (h : (c = 1001 ∧ c' = -1) ∨ (c = c' ∧ 0 ≤ c ∧ c ≤ 1000)) : mseen W x c' b = if seenF W x c b then 1 else 0 := by
  unfold mseen seenF
  by_cases hm : manyF W b = 0
  · rcases h with ⟨q1, q2⟩ | ⟨q1, q2, q3⟩
    · have a : ¬ c ≤ x := by rw [q1]; have := hx.2; grind
      rw [if_neg (by rintro (z | z); exact z hm; exact z.1 q2)]
      simp [a, hm]
    · by_cases a : c ≤ x
      · rw [if_pos (Or.inr ⟨by rw [← q1]; grind, by rw [← q1]; exact a⟩)]; simp [a]
      · rw [if_neg (by rintro (z | z); exact z hm; exact a (by rw [q1]; exact z.2))]; simp [a, hm]
  · rw [if_pos (Or.inl hm)]; simp [hm]
theorem rel_clear {u v : UU} (hR : Rel u v) {kb b : Nat} (hkb : kb ≤ 30) (e2 : u.1 2 = nI kb) (hb : b < kb) : (u.2.1 2 b = 1001 ∧ v.2.1 2 b = -1) ∨ (u.2.1 2 b = v.2.1 2 b ∧ 0 ≤ u.2.1 2 b ∧ u.2.1 2 b ≤ 1000) := by
  obtain ⟨⟨k, hk, e1, -, h⟩, -⟩ := hR
  have : k = kb := (nI_eq (by omega) (by omega)).mp (e1.symm.trans e2)
  subst this
  exact (h b hb).2.2.2.2
theorem mt_seen (N : Nat) (hN : 4000 ≤ N) : ∀ (u v : UU) (x1 x2 x3 : Int32), Rel u v → m_X11_seen N x1 x2 x3 u (fun r u1 => m_X12_seen N x1 x2 x3 v (fun r2 v1 => r = r2 ∧ Rel u1 v1)) := by
  intro u v x1 x2 x3 hR
  have hR2 := rel_thrown hR 0
  obtain ⟨kb, k, hkb, hk, e2, e2', -⟩ := rel_bd hR
  have hv : (sI v 0 0).1 2 = nI kb := e2'
  unfold m_X11_seen m_X12_seen
  simp only [has_eq, isHour_eq, mKnown_eq, mBoard_eq N _ _ _ (show kb ≤ 300 by omega) hv, bi_0, forall_eq, e2]
  by_cases p1 : (0 ≤ x1 ∧ x1 ≤ nI kb - 1)
  case neg => simp only [p1, not_false_iff, if_true]; exact ⟨by trivial, hR2⟩
  by_cases p2 : (0 ≤ x2 ∧ x2 ≤ 1000)
  case neg => simp only [p1, p2, not_false_iff, and_self, not_true_eq_false, if_false, if_true]; exact ⟨by trivial, hR2⟩
  simp only [p1, p2, and_self, not_true_eq_false, if_false]
  obtain ⟨b, hb, rfl⟩ := (sub1_le (by omega)).mp p1
  have hin : vp_in (nI b) 30 := vp_in_nI (by omega) (by omega)
  refine show_rel N hN hR x2 p2 _ (fun w hRw ok h4 hS => ?_)
  have w2 : w.1 2 = nI kb := (ok.1 2 (by omega)).trans e2
  have mside : ∀ (a : Int32) (u1 : UU), Rel u1 v → (if x3 = 0 then a = (if seenF (WOf u x2) x2 (u.2.1 2 b) b then bsz (WOf u x2) (u.2.1 7) (u.2.1 8) b 10 else -1) else if x3 = 1 then a = nI (manyF (WOf u x2) b) else if x3 = 2 then a = (if seenF (WOf u x2) x2 (u.2.1 2 b) b then 1 else 0) else a = -1) →
      m_X12_find N x2 (sI v 0 0) (fun u_6 => if x3 = 0 then (vp_in (nI b) 30 ∧ if (u_6.2.1 16 (nI b).toNatClampNeg) = 0 then (a = -1 ∧ Rel u1 u_6) else (vp_in (nI b) 30 ∧ a = u_6.2.1 14 (nI b).toNatClampNeg ∧ Rel u1 u_6)) else (if x3 = (1 : Int32) then (vp_in (nI b) 30 ∧ a = u_6.2.1 15 (nI b).toNatClampNeg ∧ Rel u1 u_6) else (if x3 = (2 : Int32) then (vp_in (nI b) 30 ∧ if (u_6.2.1 16 (nI b).toNatClampNeg) = 0 then (a = 0 ∧ Rel u1 u_6) else (a = 1 ∧ Rel u1 u_6)) else (a = -1 ∧ Rel u1 u_6)))) := by
    intro a u1 hR1 ha
    refine find_rel N hN hR2 x2 _ (fun z okz hF hB => ?_)
    have hz1 := rel_V (rel_thrown hR1 0) okz
    obtain ⟨b14, b15, b16⟩ := hB b kb hv hkb hb
    have es : z.2.1 16 b = if seenF (WOf u x2) x2 (u.2.1 2 b) b then 1 else 0 := by
      rw [b16]
      refine seen_both p2 ?_
      rw [okz.2 2 (by omega)]
      exact rel_clear hR hkb e2 hb
    rw [cl_nI (by omega), b14, b15, es, ← bsz_cong (rel_tab hR2) b 10]
    by_cases c0 : x3 = 0
    · rw [if_pos c0] at ha ⊢
      refine ⟨hin, ?_⟩
      by_cases hs : seenF (WOf u x2) x2 (u.2.1 2 b) b = true
      · rw [if_pos hs] at ha; rw [if_pos hs, if_neg (by decide)]; exact ⟨hin, ha, hz1⟩
      · rw [if_neg hs] at ha; rw [if_neg hs, if_pos rfl]; exact ⟨ha, hz1⟩
    rw [if_neg c0] at ha ⊢
    by_cases c1 : x3 = 1
    · rw [if_pos c1] at ha ⊢; exact ⟨hin, ha, hz1⟩
    rw [if_neg c1] at ha ⊢
    by_cases c2 : x3 = 2
    · rw [if_pos c2] at ha ⊢
      refine ⟨hin, ?_⟩
      by_cases hs : seenF (WOf u x2) x2 (u.2.1 2 b) b = true
      · rw [if_pos hs] at ha; rw [if_pos hs, if_neg (by decide)]; exact ⟨ha, hz1⟩
      · rw [if_neg hs] at ha; rw [if_neg hs, if_pos rfl]; exact ⟨ha, hz1⟩
    rw [if_neg c2] at ha ⊢; exact ⟨ha, hz1⟩
  have hcl : w.2.1 2 = u.2.1 2 := ok.2 2 (by omega)
  have h7 : w.2.1 7 = u.2.1 7 := ok.2 7 (by omega)
  have h8 : w.2.1 8 = u.2.1 8 := ok.2 8 (by omega)
  by_cases c0 : x3 = 0
  · rw [if_pos c0]
    refine isSeen_ok N hN _ _ w hS kb b hkb hb w2 ?_
    rw [h4, hcl]
    by_cases hs : seenF (WOf u x2) x2 (u.2.1 2 b) b = true
    · rw [if_pos hs, if_neg (by decide)]
      refine boardSize_ok N hN _ _ b (by omega) w hS (fun r => ?_)
      rw [h7, h8]
      exact mside _ _ (rel_row hRw r) (by rw [if_pos c0, if_pos hs])
    · rw [if_neg hs, if_pos rfl]
      simpa using mside (-1) _ hRw (by rw [if_pos c0, if_neg hs])
  rw [if_neg c0]
  by_cases c1 : x3 = 1
  · rw [if_pos c1]
    refine many_ok N hN _ _ w hS b (by omega) ?_
    exact mside _ _ hRw (by rw [if_neg c0, if_pos c1])
  rw [if_neg c1]
  by_cases c2 : x3 = 2
  · rw [if_pos c2]
    refine isSeen_ok N hN _ _ w hS kb b hkb hb w2 ?_
    rw [h4, hcl]
    by_cases hs : seenF (WOf u x2) x2 (u.2.1 2 b) b = true
    · rw [if_pos hs, if_neg (by decide)]
      simpa using mside 1 _ hRw (by rw [if_neg c0, if_neg c1, if_pos c2, if_pos hs])
    · rw [if_neg hs, if_pos rfl]
      simpa using mside 0 _ hRw (by rw [if_neg c0, if_neg c1, if_pos c2, if_neg hs])
  rw [if_neg c2]
  simpa using mside (-1) _ hRw (by rw [if_neg c0, if_neg c1, if_neg c2])
