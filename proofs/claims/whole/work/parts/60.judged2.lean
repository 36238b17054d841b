/-! judged, both sides -/
theorem pay_eq {wo y be : Int32} (hw : 0 ≤ wo ∧ wo ≤ 100000) (hy : 0 ≤ y ∧ y ≤ 100) (hb : 0 ≤ be ∧ be ≤ 100) : wo * (if 0 < y - be then y - be else 0) / 100 = if 0 < y - be then ((wo.toInt64 * (y - be).toInt64) / 100).toInt32 else 0 := by
  obtain ⟨w, hw1, rfl⟩ := nat_of (n := 100000) (by omega) hw.1 hw.2
  obtain ⟨a, ha, rfl⟩ := nat_of (n := 100) (by omega) hy.1 hy.2
  obtain ⟨b, hb1, rfl⟩ := nat_of (n := 100) (by omega) hb.1 hb.2
  by_cases hab : b ≤ a
  · rw [pk_sub hab]
    by_cases hz : a - b = 0
    · rw [hz, if_neg (by decide), if_neg (by decide)]
      rw [show (0 : Int32) = nI 0 from rfl, show (100 : Int32) = nI 100 from rfl, pk_mul, Nat.mul_zero]
      decide
    · have hpos : (0 : Int32) < nI (a - b) := nI_lt (a := 0) (by omega) (by omega)
      have hm : w * (a - b) ≤ 100000 * 100 := Nat.mul_le_mul (by omega) (by omega)
      rw [if_pos hpos, if_pos hpos, pk_mul, nI_l (by omega), nI_l (by omega), lN_mul, show (100 : Int32) = nI 100 from rfl, show (100 : Int64) = lN 100 from rfl, pk_div (by omega) (by omega) (by omega), pk_lDiv (by omega) (by omega) (by omega), lN_i]
  · have hn : ¬ (0 : Int32) < nI a - nI b := by
      have := pk_sneg (a := a) (b := b) (by omega) (by omega)
      grind
    rw [if_neg hn, if_neg hn, show (0 : Int32) = nI 0 from rfl, show (100 : Int32) = nI 100 from rfl, pk_mul, Nat.mul_zero]
    decide
theorem off_rng {R : Int32} {a : Nat} (ha : a ≤ 100) (hR : -1 ≤ R ∧ R ≤ 100) (h1 : ¬ R = -1) : -100 ≤ R - nI a ∧ R - nI a ≤ 100 := by
  obtain ⟨r, hr, rfl⟩ := nat_of (x := R) (n := 100) (by omega) (by grind) hR.2
  rw [i_le, i_le, pk_sub_toInt (by omega) (by omega)]
  have c : (-100 : Int32).toInt = -100 := by decide
  have d : (100 : Int32).toInt = 100 := by decide
  omega
theorem mt_judged (N : Nat) (hN : 4000 ≤ N) : ∀ (u v : UU) (x1 x2 : Int32), Rel u v → m_X11_judged N x1 x2 u (fun r u1 => m_X12_judged N x1 x2 v (fun r2 v1 => r = r2 ∧ Rel u1 v1)) := by
  intro u v x1 x2 hR
  have hR2 := rel_thrown hR 0
  obtain ⟨-, -, -, -, -, -, -, ⟨k, hk, etl, en, hrng, els, ero, ebe, ent⟩, ⟨kc, hkc, c1, c2, hcl⟩, -⟩ := id hR
  have hw1 : ((sI v 0 0).1 18).toInt64 - 1 = (nI kc - 1).toInt64 := by
    have : (sI v 0 0).1 18 = nI kc := c2
    rw [this]; exact wsub1 (by omega)
  unfold m_X11_judged m_X12_judged
  simp only [chas_eq, isHour_eq, mKnown_eq, bi_0, forall_eq, c1]
  rw [hw1]
  simp only [inI0 N x1 0 (nI kc - 1).toInt64 0 (nI kc - 1) rfl rfl, bi_0]
  by_cases p1 : (0 ≤ x1 ∧ x1 ≤ nI kc - 1)
  case neg => simp only [p1, not_false_iff, if_true]; exact ⟨by trivial, hR2⟩
  by_cases p2 : (0 ≤ x2 ∧ x2 ≤ 1000)
  case neg => simp only [p1, p2, not_false_iff, and_self, not_true_eq_false, if_false, if_true]; exact ⟨by trivial, hR2⟩
  simp only [p1, p2, and_self, not_true_eq_false, if_false]
  obtain ⟨c, hc, rfl⟩ := (sub1_le (by omega)).mp p1
  have hin : vp_in (nI c) 40 := vp_in_nI (by omega) (by omega)
  refine ⟨hin, hin, ?_⟩
  rw [cl_nI (by omega)]
  obtain ⟨q1, q2, q3, q4, ⟨px, py⟩, pw, ps⟩ := hcl c hc
  obtain ⟨n, a, B, ha, hC, hM⟩ := county2 N hN hR (u.2.1 20 c) (u.2.1 21 c) x2 px py p2
  obtain ⟨R, hRr, rC, rM⟩ := radar_both hR px py
  generalize eo : (if R = -1 then (0 : Int32) else R - nI a) = o
  have ho : -100 ≤ o ∧ o ≤ 100 := by
    rw [← eo]
    by_cases h1 : R = -1
    · rw [if_pos h1]; decide
    · rw [if_neg h1]; exact off_rng ha hRr h1
  have hro := radar_rng (rS := v.2.1 19) k (fun i hi => (hrng i hi).2.1)
  rw [← ero] at hro
  have hold := hold_iff ho hro
  generalize ep : partF (v.2.1 19) (v.2.1 20) (v.2.1 21) (v.2.1 22) (nI a) B k = p
  have hp : 0 ≤ p ∧ p ≤ 100 := by rw [← ep]; exact part_rng _ _ k (fun i hi => (hrng i hi).2.1)
  have hbe : 0 ≤ u.1 17 ∧ u.1 17 ≤ 100 := by rw [ebe]; exact bear_rng k (fun i hi => (hrng i hi).2.1)
  generalize ey : (if u.2.1 23 c < p then u.2.1 23 c else p) = y
  have hy : 0 ≤ y ∧ y ≤ 100 := by rw [← ey]; split; exact ps; exact hp
  have hpay := pay_eq pw hy hbe
  /- the reference's side -/
  have fin : ∀ r (w' : UU), Rel w' v → r = (if n = 0 then -2 else if (mostF (u.1 16) < o ∨ ¬ (-o) ≤ mostF (u.1 16)) then -2 else u.2.1 22 c * (if 0 < y - u.1 17 then y - u.1 17 else 0) / 100) →
      m_X12_find N x2 (sI v 0 0) (fun u_6 => vp_in (nI c) 40 ∧ vp_in (nI c) 40 ∧ m_X12_findMap N (u_6.2.1 25 c) (u_6.2.1 26 c) u_6 (fun r_9 u_8 => if r_9 = 0 then (r = -2 ∧ Rel w' u_8) else (m_X12_judged_70 N (fun r2 v1 => r = r2 ∧ Rel w' v1) N (nI c) (0 : Int32) (0 : Int32) (1000 : Int32) (0 : Int32) u_8))) := by
    intro r w' hw' hr
    refine hM _ (fun z okz hz => ⟨hin, hin, ?_⟩)
    have z25 : z.2.1 25 c = u.2.1 20 c := by rw [okz.2 25 (by omega)]; exact q1.symm
    have z26 : z.2.1 26 c = u.2.1 21 c := by rw [okz.2 26 (by omega)]; exact q2.symm
    rw [z25, z26]
    refine hz _ (fun s oks hs => ?_)
    have hRs := rel_V (rel_thrown hw' 0) oks
    by_cases hn : n = 0
    · rw [if_pos hn] at hr ⊢; rw [if_pos rfl]; exact ⟨hr, hRs⟩
    rw [if_neg hn] at hr ⊢; rw [if_neg (by decide)]
    obtain ⟨s8, s9⟩ := hs hn
    have a19 : s.2.1 19 = v.2.1 19 := oks.2 19 (by omega)
    have a20 : s.2.1 20 = v.2.1 20 := oks.2 20 (by omega)
    have a21 : s.2.1 21 = v.2.1 21 := oks.2 21 (by omega)
    have a22 : s.2.1 22 = v.2.1 22 := oks.2 22 (by omega)
    have s10 : s.1 10 = nI k := (oks.1 10 (by omega)).trans en
    have s25 : s.2.1 25 c = u.2.1 20 c := by rw [oks.2 25 (by omega)]; exact q1.symm
    have s26 : s.2.1 26 c = u.2.1 21 c := by rw [oks.2 26 (by omega)]; exact q2.symm
    have s27 : s.2.1 27 c = u.2.1 22 c := by rw [oks.2 27 (by omega)]; exact q3.symm
    have s28 : s.2.1 28 c = u.2.1 23 c := by rw [oks.2 28 (by omega)]; exact q4.symm
    refine mjudged_loop N _ (nI c) (nI a) B k hk s s10 s8 s9 (by rw [a19, a20]; exact fun i hi => ⟨(hrng i hi).1, (hrng i hi).2.1⟩) (fun f => ?_) N 0 (by omega) (by omega)
    rw [a19, a20, a21, a22, ep, ← ebe, ← ero]
    rw [m_X12_judged_70, s10, if_pos (nI_le (Nat.le_refl _) (by omega))]
    refine ⟨hin, hin, ?_⟩
    rw [cl_nI (by omega), s25, s26]
    refine rM N s _ oks ?_
    rw [s8]
    have go : m_X12_judged_216 N (nI c) p (u.1 17) (mostF (u.1 16)) o s (fun r2 v1 => r = r2 ∧ Rel w' v1) := by
      unfold m_X12_judged_216 m_X12_judged_256
      rw [cl_nI (by omega), s28, s27]
      by_cases o1 : mostF (u.1 16) < o
      · rw [if_pos (Or.inl o1)] at hr; rw [if_pos o1]; exact ⟨hr, hRs⟩
      rw [if_neg o1]
      by_cases o2 : (-o) ≤ mostF (u.1 16)
      case neg => rw [if_pos (Or.inr o2)] at hr; rw [if_neg o2]; exact ⟨hr, hRs⟩
      rw [if_neg (by rintro (q | q); exact o1 q; exact q o2), hpay] at hr
      rw [if_pos o2]
      refine ⟨hin, ?_⟩
      have last : ∀ y', y' = y → ∀ z_1, z_1 = y' - u.1 17 → if 0 < z_1 then (vp_in (nI c) 40 ∧ ¬ (100 : Int64) = 0 ∧ (r = (((((u.2.1 22 c).toInt64) * z_1.toInt64) / (100 : Int64)).toInt32) ∧ Rel w' s)) else (r = 0 ∧ Rel w' s) := by
        intro y' ey' z1 ez1
        rw [ey'] at ez1
        rw [ez1]
        by_cases h0 : 0 < y - u.1 17
        · rw [if_pos h0] at hr ⊢; exact ⟨hin, by decide, hr, hRs⟩
        · rw [if_neg h0] at hr ⊢; exact ⟨hr, hRs⟩
      by_cases hps : p ≤ u.2.1 23 c
      · rw [if_pos hps]; exact last _ (by rw [← ey, if_neg (by grind)])
      · rw [if_neg hps]; exact ⟨hin, last _ (by rw [← ey, if_pos (by grind)])⟩
    by_cases h1 : R = -1
    · rw [if_pos h1] at eo ⊢; rw [eo]; exact go
    · rw [if_neg h1] at eo ⊢; rw [eo]; exact go
  /- the class's side -/
  refine hC _ (fun w hRw okw hs => ?_)
  by_cases hn : n = 0
  · rw [if_pos hn, if_pos rfl]
    simpa using fin (-2) w hRw (by rw [if_pos hn])
  rw [if_neg hn, if_neg (by decide)]
  obtain ⟨s1, s2⟩ := hs hn
  have w15 : w.1 15 = u.1 15 := okw.1 15 (by omega)
  have w16 : w.1 16 = u.1 16 := okw.1 16 (by omega)
  have w17 : w.1 17 = u.1 17 := okw.1 17 (by omega)
  have hlen : (lossL (v.2.1 19) (v.2.1 20) (v.2.1 21) (v.2.1 22) k).length ≤ 20 := by
    have key : ∀ j, (lossL (v.2.1 19) (v.2.1 20) (v.2.1 21) (v.2.1 22) j).length ≤ j := by
      intro j
      induction j with
      | zero => exact Nat.le_refl _
      | succ j ih =>
        unfold lossL; split
        · rw [List.length_append]; simp only [List.length_cons, List.length_nil]; omega
        · omega
    have := key k; omega
  have pay : ¬ (mostF (u.1 16) < o ∨ ¬ (-o) ≤ mostF (u.1 16)) → m_X11_judged_106 N (nI c) w (fun r u1 => m_X12_find N x2 (sI v 0 0) (fun u_6 => vp_in (nI c) 40 ∧ vp_in (nI c) 40 ∧ m_X12_findMap N (u_6.2.1 25 c) (u_6.2.1 26 c) u_6 (fun r_9 u_8 => if r_9 = 0 then (r = -2 ∧ Rel u1 u_8) else (m_X12_judged_70 N (fun r2 v1 => r = r2 ∧ Rel u1 v1) N (nI c) (0 : Int32) (0 : Int32) (1000 : Int32) (0 : Int32) u_8)))) := by
    intro hh
    unfold m_X11_judged_106
    refine s1 _ (s2 _ ?_)
    unfold m_X5_lossFor
    refine lossFor_loop N _ (nI a) B (lossL (v.2.1 19) (v.2.1 20) (v.2.1 21) (v.2.1 22) k) hlen w (w15.trans els) (by rw [okw.2 24 (by omega), okw.2 25 (by omega), okw.2 26 (by omega)]; exact ent) ?_ N 0 (by omega) (by omega)
    rw [part_fold, ep]
    refine ⟨hin, fun z7 e7 z8 e8 => ⟨hin, by decide, ?_⟩⟩
    rw [cl_nI (by omega), okw.2 23 (by omega), ey] at e7
    rw [e7, w17] at e8
    refine fin _ w hRw ?_
    rw [if_neg hn, if_neg hh, e8, cl_nI (by omega), okw.2 22 (by omega)]
  refine rC N w _ okw ?_
  by_cases h1 : R = -1
  · rw [if_pos h1] at eo ⊢
    refine pay (fun q => ?_)
    have := hold.mpr q
    rw [← eo] at this
    refine this.2 ?_
    rw [if_pos (by decide)]
    rcases hro with z | z
    · exact absurd z this.1
    · exact z.1
  · rw [if_neg h1] at eo ⊢
    refine s1 _ ?_
    unfold m_X5_holdsBack
    rw [w16, eo]
    by_cases hb : (¬ u.1 16 = -1 ∧ ¬ (if 0 ≤ o then o else 0 - o) ≤ u.1 16)
    · rw [if_neg hb.1, if_neg hb.2]
      refine ⟨nb_1, ?_⟩
      show if (1 : Int32) = 0 then _ else _
      rw [if_neg (by decide)]
      simpa using fin (-2) w hRw (by rw [if_neg hn, if_pos (hold.mp hb)])
    · have hh : ¬ (mostF (u.1 16) < o ∨ ¬ (-o) ≤ mostF (u.1 16)) := fun q => hb (hold.mpr q)
      by_cases h16 : u.1 16 = -1
      · rw [if_pos h16]
        refine ⟨nb_0, ?_⟩
        show if (0 : Int32) = 0 then _ else _
        rw [if_pos rfl]; exact pay hh
      · rw [if_neg h16, if_pos (Classical.byContradiction (fun q => hb ⟨h16, q⟩))]
        refine ⟨nb_0, ?_⟩
        show if (0 : Int32) = 0 then _ else _
        rw [if_pos rfl]; exact pay hh
