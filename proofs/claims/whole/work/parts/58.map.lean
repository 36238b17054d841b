/-! the map of both sides -/
theorem sS_wS (dn zn : Nat → Nat) (g : Nat → Nat) (hz : ∀ b, zn b ≤ 100) : ∀ i, sS dn zn g i ≤ 100 * wS dn g i
  | 0 => by simp [sS, wS]
  | i + 1 => by
    have := sS_wS dn zn g hz i
    have : wtN dn g i * zn (g i) ≤ wtN dn g i * 100 := Nat.mul_le_mul_left _ (hz _)
    unfold sS wS; omega
theorem cl_of {x : Int32} {n m : Nat} (hn : n < 2 ^ 31) (hm : m ≤ n) (e : x = nI m) : x = nI x.toNatClampNeg ∧ x.toNatClampNeg ≤ n := by
  rw [e, cl_nI (by omega)]; exact ⟨rfl, hm⟩
theorem rel_pls {u v : UU} (hR : Rel u v) {kb : Nat} (hkb : kb ≤ 30) (e2 : u.1 2 = nI kb) : ∀ i, i < kb → (0 ≤ u.2.1 0 i ∧ u.2.1 0 i ≤ 63) ∧ (0 ≤ u.2.1 1 i ∧ u.2.1 1 i ≤ 63) := by
  obtain ⟨⟨k, hk, e1, -, h⟩, -⟩ := hR
  have : k = kb := (nI_eq (by omega) (by omega)).mp (e1.symm.trans e2)
  subst this
  exact fun i hi => ⟨(h i hi).2.2.1, (h i hi).2.2.2.1⟩
theorem county2 (N : Nat) (hN : 4000 ≤ N) {u v : UU} (hR : Rel u v) (x1 x2 x3 : Int32) (p1 : 0 ≤ x1 ∧ x1 ≤ 63) (p2 : 0 ≤ x2 ∧ x2 ≤ 63) (p3 : 0 ≤ x3 ∧ x3 ≤ 1000) :
    ∃ (n : Nat) (a : Nat) (B : Int32), a ≤ 100 ∧
      (∀ K : Int32 → UU → Prop, (∀ w, Rel w v → okU u w → (n ≠ 0 → (∀ Q : Int32 → UU → Prop, Q (nI a) w → m_X2_size N w Q) ∧ (∀ Q : Int32 → UU → Prop, Q B w → m_X2_sure N w Q)) → K (if n = 0 then 0 else 1) w) → m_X10_show N x3 u (fun u7 => m_X2_look N x1 x2 u7 K)) ∧
      (∀ F : UU → Prop, (∀ z, okV (sI v 0 0) z → (∀ K : Int32 → UU → Prop, (∀ w, okV (sI v 0 0) w → (n ≠ 0 → w.1 8 = nI a ∧ w.1 9 = B) → K (if n = 0 then 0 else 1) w) → m_X12_findMap N x1 x2 z K) → F z) → m_X12_find N x3 (sI v 0 0) F) := by
  have hR2 := rel_thrown hR 0
  obtain ⟨kb, k, hkb, hk, e2, e2', -⟩ := rel_bd hR
  have hv : (sI v 0 0).1 2 = nI kb := e2'
  obtain ⟨P, hP⟩ := rel_pl hR hkb e2
  have pls := rel_pls hR hkb e2
  generalize eS : (fun b => seenF (WOf u x3) x3 (u.2.1 2 b) b) = S
  generalize ed : dF (u.2.1 0) (u.2.1 1) x1 x2 = d
  generalize ez : (fun b => bsz (WOf u x3) (u.2.1 7) (u.2.1 8) b 10) = z
  generalize edn : (fun b => (d b).toNatClampNeg) = dn
  generalize ezn : (fun b => (z b).toNatClampNeg) = zn
  have hd : ∀ b, b < kb → d b = nI (dn b) ∧ dn b ≤ 7938 := by
    intro b hb
    obtain ⟨m, hm, e⟩ := dF_rng (X := u.2.1 0) (Y := u.2.1 1) (n := b) (pls b hb).1 (pls b hb).2 p1 p2
    rw [ed] at e
    rw [← edn]; exact cl_of (n := 7938) (by omega) hm e
  have hz : ∀ b, z b = nI (zn b) ∧ zn b ≤ 100 := by
    intro b
    have r := bsz_rng (W := WOf u x3) (tw := u.2.1 7) (rel_tab_rng hR) b 10
    have e : z b = bsz (WOf u x3) (u.2.1 7) (u.2.1 8) b 10 := by rw [← ez]
    rw [← e] at r
    obtain ⟨m, hm, e3⟩ := nat_of (n := 100) (by omega) r.1 r.2
    rw [← ezn]; exact cl_of (n := 100) (by omega) hm e3
  generalize eL : (fullC S d kb).take 3 = L
  have hL : L.length ≤ 3 := by rw [← eL, List.length_take]; omega
  have lkb : ∀ j, j < L.length → L.getD j 0 < kb := by
    intro j hj
    have hm : L.getD j 0 ∈ L := by
      rw [List.getD_eq_getElem?_getD, List.getElem?_eq_getElem hj]; exact List.getElem_mem hj
    generalize L.getD j 0 = y at hm
    rw [← eL] at hm
    exact (full_mem.mp (List.mem_of_mem_take hm)).1
  have hA : ∃ a : Nat, a ≤ 100 ∧ mSz dn zn z (fun j => L.getD j 0) L.length = nI a := by
    unfold mSz
    by_cases h0 : wS dn (fun j => L.getD j 0) L.length = 0
    · rw [if_pos h0]; exact ⟨_, (hz _).2, (hz _).1⟩
    · rw [if_neg h0]
      refine ⟨_, ?_, rfl⟩
      have := sS_wS dn zn (fun j => L.getD j 0) (fun b => (hz b).2) L.length
      exact Nat.div_le_of_le_mul (by rw [Nat.mul_comm]; exact this)
  obtain ⟨a, ha, eA⟩ := hA
  refine ⟨L.length, a, mSu dn z (fun j => L.getD j 0) L.length, ha, fun K hK => ?_, fun F hF2 => ?_⟩
  · refine show_rel N hN hR x3 p3 _ (fun w hRw ok h4 hS => ?_)
    refine look_ok N hN K (WOf u x3) w x1 x2 kb hkb ((ok.1 2 (by omega)).trans e2) hS (fun w2 L2 eL2 fw e9 hj => ?_)
    rw [h4, ok.2 2 (by omega), ok.2 0 (by omega), ok.2 1 (by omega), eS, ed, eL] at eL2
    subst eL2
    rw [ok.2 0 (by omega), ok.2 1 (by omega), ok.2 7 (by omega), ok.2 8 (by omega), ed] at hj
    have ok2 : okU u w2 := okU_tr ok ⟨fun j hj => fw.1 j (by omega), fun j hj => fw.2 j (by omega) (by omega)⟩
    refine hK w2 (frC_rel hRw fw) ok2 (fun hn => ?_)
    have hd2 : ∀ j, j < L2.length → w2.2.1 16 j = nI (dn (L2.getD j 0)) ∧ dn (L2.getD j 0) ≤ 7938 := fun j q => by
      rw [(hj j q).1]; exact hd _ (lkb j q)
    have hz2 : ∀ j, j < L2.length → w2.2.1 17 j = z (L2.getD j 0) := fun j q => by rw [(hj j q).2, ← ez]
    refine ⟨fun Q hQ => ?_, fun Q hQ => ?_⟩
    · exact size_ok N hN Q dn zn z (fun j => L2.getD j 0) L2.length hL hn w2 e9 hd2 hz2 hz (by rw [eA]; exact hQ)
    · exact sure_ok N hN Q dn z (fun j => L2.getD j 0) L2.length hL hn w2 e9 hd2 hz2 hQ
  · refine find_rel N hN hR2 x3 _ (fun y oky hF hB => hF2 y oky (fun K hK => ?_))
    refine findMap_ok N hN K S d z dn zn x1 x2 kb hkb hd hz L eL.symm y ((oky.1 2 (by omega)).trans hv) (fun b hb => ?_) (fun b hb => ?_) (fun b hb => ?_) (fun w fw hw => ?_)
    · obtain ⟨b14, -, -⟩ := hB b kb hv hkb hb
      rw [b14, ← bsz_cong (rel_tab hR2) b 10, ← ez]
    · rw [oky.2 0 (by omega), oky.2 1 (by omega), ← ed]
      show dF (u.2.1 0) (u.2.1 1) x1 x2 b = dF (v.2.1 0) (v.2.1 1) x1 x2 b
      unfold dF; rw [(hP b hb).1, (hP b hb).2]
    · obtain ⟨-, -, b16⟩ := hB b kb hv hkb hb
      rw [b16, ← eS]
      show _ = iB (seenF (WOf u x3) x3 (u.2.1 2 b) b)
      unfold iB
      refine seen_both p3 ?_
      rw [oky.2 2 (by omega)]
      exact rel_clear hR hkb e2 hb
    · refine hK w (okV_tr oky ⟨fun j hj => fw.1 j (by omega) (by omega), fun j hj => fw.2 j (by omega)⟩) (fun hn => ?_)
      rw [← eA]; exact hw hn
theorem county (N : Nat) (hN : 4000 ≤ N) {u v : UU} (hR : Rel u v) (x1 x2 x3 : Int32) (p1 : 0 ≤ x1 ∧ x1 ≤ 63) (p2 : 0 ≤ x2 ∧ x2 ≤ 63) (p3 : 0 ≤ x3 ∧ x3 ≤ 1000) :
    ∃ (n : Nat) (a : Nat) (B : Int32), a ≤ 100 ∧
      (∀ K : Int32 → UU → Prop, (∀ w, Rel w v → okU u w → (n ≠ 0 → (∀ Q : Int32 → UU → Prop, Q (nI a) w → m_X2_size N w Q) ∧ (∀ Q : Int32 → UU → Prop, Q B w → m_X2_sure N w Q)) → K (if n = 0 then 0 else 1) w) → m_X10_show N x3 u (fun u7 => m_X2_look N x1 x2 u7 K)) ∧
      (∀ K : Int32 → UU → Prop, (∀ w, okV (sI v 0 0) w → (n ≠ 0 → w.1 8 = nI a ∧ w.1 9 = B) → K (if n = 0 then 0 else 1) w) → m_X12_find N x3 (sI v 0 0) (fun z => m_X12_findMap N x1 x2 z K)) := by
  obtain ⟨n, a, B, ha, hC, hM⟩ := county2 N hN hR x1 x2 x3 p1 p2 p3
  exact ⟨n, a, B, ha, hC, fun K hK => hM _ (fun z _ h => h K hK)⟩
theorem mt_map (N : Nat) (hN : 4000 ≤ N) : ∀ (u v : UU) (x1 x2 x3 x4 : Int32), Rel u v → m_X11_map N x1 x2 x3 x4 u (fun r u1 => m_X12_map N x1 x2 x3 x4 v (fun r2 v1 => r = r2 ∧ Rel u1 v1)) := by
  intro u v x1 x2 x3 x4 hR
  have hR2 := rel_thrown hR 0
  unfold m_X11_map m_X12_map
  simp only [isPlace_eq, isIn_eq, isHour_eq, mKnown_eq, mPlace_eq, inI0 N _ 0 1 0 1 rfl rfl, bi_0, forall_eq]
  by_cases p1 : (0 ≤ x1 ∧ x1 ≤ 63)
  case neg => rw [if_pos (fun h => p1 h.1), if_pos p1]; exact ⟨by trivial, hR2⟩
  by_cases p2 : (0 ≤ x2 ∧ x2 ≤ 63)
  case neg => rw [if_pos (fun h => p2 h.2), if_neg (fun q => q p1), if_pos p2]; exact ⟨by trivial, hR2⟩
  rw [if_neg (fun q => q ⟨p1, p2⟩)]
  by_cases p3 : (0 ≤ x3 ∧ x3 ≤ 1000)
  case neg => simp only [p1, p2, p3, not_false_iff, and_self, not_true_eq_false, if_false, if_true]; exact ⟨by trivial, hR2⟩
  by_cases p4 : (0 ≤ x4 ∧ x4 ≤ 1)
  case neg => simp only [p1, p2, p3, p4, not_false_iff, and_self, not_true_eq_false, if_false, if_true]; exact ⟨by trivial, hR2⟩
  simp only [p1, p2, p3, p4, and_self, not_true_eq_false, if_false]
  obtain ⟨n, a, B, ha, hC, hM⟩ := county N hN hR x1 x2 x3 p1 p2 p3
  refine hC _ (fun w hRw okw hs => ?_)
  have fin : ∀ r (w' : UU), Rel w' v → r = (if n = 0 then -1 else if x4 = 0 then nI a else B) → m_X12_find N x3 (sI v 0 0) (fun z => m_X12_findMap N x1 x2 z (fun r_13 u_12 => if r_13 = 0 then (r = -1 ∧ Rel w' u_12) else (if x4 = 0 then (r = u_12.1 8 ∧ Rel w' u_12) else (r = u_12.1 9 ∧ Rel w' u_12)))) := by
    intro r w' hw' hr
    refine hM _ (fun y oky hy => ?_)
    have hRy := rel_V (rel_thrown hw' 0) oky
    by_cases hn : n = 0
    · rw [if_pos hn] at hr ⊢; rw [if_pos rfl]; exact ⟨hr, hRy⟩
    · rw [if_neg hn] at hr ⊢; rw [if_neg (by decide)]
      obtain ⟨g1, g2⟩ := hy hn
      by_cases h4 : x4 = 0
      · rw [if_pos h4] at hr ⊢; exact ⟨by rw [g1]; exact hr, hRy⟩
      · rw [if_neg h4] at hr ⊢; exact ⟨by rw [g2]; exact hr, hRy⟩
  by_cases hn : n = 0
  · rw [if_pos hn, if_pos rfl]
    simpa using fin (-1) w hRw (by rw [if_pos hn])
  · rw [if_neg hn, if_neg (by decide)]
    obtain ⟨s1, s2⟩ := hs hn
    by_cases h4 : x4 = 0
    · rw [if_pos h4]; exact s1 _ (fin _ w hRw (by rw [if_neg hn, if_pos h4]))
    · rw [if_neg h4]; exact s2 _ (fin _ w hRw (by rw [if_neg hn, if_neg h4]))
/-! the radar's guess at a place -/
theorem radar_both {u v : UU} (hR : Rel u v) {x y : Int32} (px : 0 ≤ x ∧ x ≤ 63) (py : 0 ≤ y ∧ y ≤ 63) : ∃ R : Int32, (-1 ≤ R ∧ R ≤ 100) ∧ (∀ (N : Nat) (w : UU) (Q : Int32 → UU → Prop), okU u w → Q R w → m_X4_sizeAt N x y w Q) ∧ (∀ (N : Nat) (w : UU) (Q : Int32 → UU → Prop), okV (sI v 0 0) w → Q R w → m_X12_radarAt N x y w Q) := by
  have p : ((0 ≤ x ∧ x ≤ 63) ∧ 0 ≤ y ∧ y ≤ 63) := ⟨px, py⟩
  obtain ⟨i, hi, ex⟩ := nat_of (n := 63) (by omega) px.1 px.2
  obtain ⟨k, hk, ey⟩ := nat_of (n := 63) (by omega) py.1 py.2
  have h8 : (8 : Int32) = nI 8 := rfl
  have dx : x / 8 = nI (i / 8) := by rw [ex, h8, pk_div (by omega) (by omega) (by omega)]
  have dy : y / 8 = nI (k / 8) := by rw [ey, h8, pk_div (by omega) (by omega) (by omega)]
  have e1 : x / 8 * 8 + y / 8 = nI (8 * (i / 8) + k / 8) := by rw [dx, dy, h8, pk_mul, nI_add, Nat.mul_comm]
  have e2 : 8 * (y / 8) + x / 8 = nI (8 * (k / 8) + i / 8) := by rw [dx, dy, h8, pk_mul, nI_add]
  obtain ⟨r1, r2, r3⟩ := hR.2.2.2.2.2.1 (i / 8) (k / 8) (by omega) (by omega)
  refine ⟨v.2.1 18 (8 * (k / 8) + i / 8), ⟨r2, r3⟩, fun N w Q ok h => ?_, fun N w Q ok h => ?_⟩
  · unfold m_X4_sizeAt
    rw [isPlace_eq, if_neg (fun q => bi_0.mp q p), e1]
    refine ⟨by decide, by decide, vp_in_nI (by omega) (by omega), ?_⟩
    rw [cl_nI (by omega), ok.2 18 (by omega), r1, show v.2.1 18 (8 * (k / 8) + i / 8) + 1 - 1 = v.2.1 18 (8 * (k / 8) + i / 8) by grind]
    exact h
  · unfold m_X12_radarAt
    rw [e2]
    refine ⟨by decide, by decide, vp_in_nI (by omega) (by omega), ?_⟩
    rw [cl_nI (by omega), ok.2 18 (by omega)]
    exact h
theorem okV_rf (v : UU) : okV v v := ⟨fun _ _ => rfl, fun _ _ => rfl⟩
theorem mt_off (N : Nat) (hN : 4000 ≤ N) : ∀ (u v : UU) (x1 x2 x3 : Int32), Rel u v → m_X11_off N x1 x2 x3 u (fun r u1 => m_X12_off N x1 x2 x3 v (fun r2 v1 => r = r2 ∧ Rel u1 v1)) := by
  intro u v x1 x2 x3 hR
  have hR2 := rel_thrown hR 0
  unfold m_X11_off m_X12_off
  simp only [isPlace_eq, isHour_eq, mKnown_eq, mPlace_eq, bi_0, forall_eq]
  by_cases p1 : (0 ≤ x1 ∧ x1 ≤ 63)
  case neg => rw [if_pos (fun h => p1 h.1), if_pos p1]; exact ⟨by trivial, hR2⟩
  by_cases p2 : (0 ≤ x2 ∧ x2 ≤ 63)
  case neg => rw [if_pos (fun h => p2 h.2), if_neg (fun q => q p1), if_pos p2]; exact ⟨by trivial, hR2⟩
  rw [if_neg (fun q => q ⟨p1, p2⟩)]
  by_cases p3 : (0 ≤ x3 ∧ x3 ≤ 1000)
  case neg => simp only [p1, p2, p3, not_false_iff, and_self, not_true_eq_false, if_false, if_true]; exact ⟨by trivial, hR2⟩
  simp only [p1, p2, p3, and_self, not_true_eq_false, if_false]
  obtain ⟨R, hRr, rC, rM⟩ := radar_both hR p1 p2
  refine rC N u _ (okU_rf u) ?_
  by_cases h1 : R = -1
  · rw [if_pos h1]
    refine rM N _ _ (okV_rf _) ?_
    rw [if_pos h1]; exact ⟨by trivial, hR2⟩
  rw [if_neg h1]
  obtain ⟨n, a, B, ha, hC, hM⟩ := county N hN hR x1 x2 x3 p1 p2 p3
  refine hC _ (fun w hRw okw hs => ?_)
  have fin : ∀ r (w' : UU), Rel w' v → r = (if n = 0 then -1000 else R - nI a) → m_X12_radarAt N x1 x2 (sI v 0 0) (fun r_9 u_8 => if r_9 = ((-1) : Int32) then (r = -1000 ∧ Rel w' u_8) else m_X12_find N x3 u_8 (fun z => m_X12_findMap N x1 x2 z (fun r_13 u_12 => if r_13 = 0 then (r = -1000 ∧ Rel w' u_12) else (m_X12_radarAt N x1 x2 u_12 (fun r_15 u_14 => r = r_15 - (u_14.1 8) ∧ Rel w' u_14))))) := by
    intro r w' hw' hr
    refine rM N _ _ (okV_rf _) ?_
    rw [if_neg h1]
    refine hM _ (fun y oky hy => ?_)
    have hRy := rel_V (rel_thrown hw' 0) oky
    by_cases hn : n = 0
    · rw [if_pos hn] at hr ⊢; rw [if_pos rfl]; exact ⟨hr, hRy⟩
    · rw [if_neg hn] at hr ⊢; rw [if_neg (by decide)]
      refine rM N _ _ oky ⟨by rw [(hy hn).1]; exact hr, hRy⟩
  by_cases hn : n = 0
  · rw [if_pos hn, if_pos rfl]
    simpa using fin (-1000) w hRw (by rw [if_pos hn])
  · rw [if_neg hn, if_neg (by decide)]
    exact (hs hn).1 _ (fin _ w hRw (by rw [if_neg hn]))
