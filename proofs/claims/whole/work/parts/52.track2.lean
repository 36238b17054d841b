/-! track: the boards hit, then the line -/
def frT (u w : UU) : Prop := (∀ j, w.1 j = u.1 j) ∧ ∀ j, j ≠ 13 → j ≠ 14 → w.2.1 j = u.2.1 j
theorem frT_rf (u : UU) : frT u u := ⟨fun _ => rfl, fun _ _ _ => rfl⟩
theorem frT_tr {a b c : UU} (h1 : frT a b) (h2 : frT b c) : frT a c := ⟨fun j => (h2.1 j).trans (h1.1 j), fun j p q => (h2.2 j p q).trans (h1.2 j p q)⟩
theorem frT_row (u : UU) (r : Nat → Int32) : frT u (sA u 13 r) := ⟨fun _ => rfl, fun j p _ => by rw [sA_21, if_neg p]⟩
theorem frT_hit (u : UU) (r : Nat → Int32) : frT u (sA u 14 r) := ⟨fun _ => rfl, fun j _ p => by rw [sA_21, if_neg p]⟩
theorem frT_shw {W : Nat → Int32} {u w : UU} (h : frT u w) (hS : Shw W u) : Shw W w := by
  unfold Shw at *; rw [h.2 9 (by omega) (by omega), h.2 10 (by omega) (by omega), h.2 11 (by omega) (by omega), h.2 12 (by omega) (by omega)]; exact hS
theorem frT_rel {u w v : UU} (hR : Rel u v) (h : frT u w) : Rel w v := by
  refine rel_U hR ⟨fun j _ => h.1 j, fun j hj => h.2 j (by omega) (by omega)⟩ ?_
  unfold RVu; rw [h.1 5, h.1 3, h.2 3 (by omega) (by omega), h.2 4 (by omega) (by omega), h.2 5 (by omega) (by omega), h.2 6 (by omega) (by omega), h.2 9 (by omega) (by omega), h.2 10 (by omega) (by omega), h.2 11 (by omega) (by omega), h.2 12 (by omega) (by omega)]
  exact hR.2.2.2.1
def hitF (W tw ts cl : Nat → Int32) (x x1 : Int32) (c : Nat) : Bool := seenF W x (cl c) c && !decide (bsz W tw ts c 10 < x1)
theorem mark_ok (N : Nat) (Q : UU → Prop) (i : Nat) (hi : i < 30) (b : Bool) (u : UU) (h : Q (sA u 14 (upd (u.2.1 14) i (iB b)))) : m_X9_mark N (nI i) (iB b) u Q := by
  unfold m_X9_mark
  rw [isIn_eq, if_neg (fun q => bi_0.mp q ⟨nI_pos' (by omega), nI_le (b := 29) (by omega) (by omega)⟩)]
  refine ⟨vp_in_nI hi (by omega), fun u3 e => ?_⟩
  rw [cl_nI (by omega), show vp_nar .boolean (iB b) = iB b by cases b <;> decide] at e
  rw [e]; exact h
theorem mark_loop (N : Nat) (hN : 4000 ≤ N) (Q : Int32 → UU → Prop) (W tw ts cl : Nat → Int32) (x x1 x2 : Int32) (kb : Nat) (hkb : kb ≤ 30) :
    ∀ (f i : Nat) (u : UU), i ≤ kb → kb < i + f → u.1 2 = nI kb → u.1 4 = x → Shw W u → u.2.1 2 = cl → u.2.1 7 = tw → u.2.1 8 = ts → (∀ c, c < i → u.2.1 14 c = iB (hitF W tw ts cl x x1 c)) →
      (∀ w, frT u w → (∀ c, c < kb → w.2.1 14 c = iB (hitF W tw ts cl x x1 c)) → m_X9_draw N x2 w (fun r_2 u_1 => Q r_2 u_1)) → m_X11_track_37 N Q f x1 x2 (nI i) u := by
  intro f
  induction f with
  | zero => intro i u h1 h2; omega
  | succ f ih =>
    intro i u h1 h2 e2 e4 hS ec et es hH hQ
    rw [m_X11_track_37, e2]
    by_cases hi : i = kb
    · subst hi; rw [if_pos (nI_le (Nat.le_refl _) (by omega))]; exact hQ u (frT_rf u) hH
    · rw [if_neg (nI_ge (by omega) (by omega))]
      have fin : ∀ (w : UU) (b : Bool), frT u w → w.2.1 14 = u.2.1 14 → b = hitF W tw ts cl x x1 i → m_X11_track_85 N (fun x1 x2 x4 u => m_X11_track_37 N Q f x1 x2 x4 u) x1 x2 (nI i) (nI i) (iB b) w Q := by
        intro w b hw h14 eb
        unfold m_X11_track_85
        refine mark_ok N _ i (by omega) b w (fun z hz => ?_)
        rw [hz, nI_1]
        have f2 := frT_tr hw (frT_hit w (upd (w.2.1 14) i (iB b)))
        refine ih (i + 1) _ (by omega) (by omega) ((f2.1 2).trans e2) ((f2.1 4).trans e4) (frT_shw f2 hS) ((f2.2 2 (by omega) (by omega)).trans ec) ((f2.2 7 (by omega) (by omega)).trans et) ((f2.2 8 (by omega) (by omega)).trans es) (fun c hc => ?_) (fun w2 hw2 => hQ w2 (frT_tr f2 hw2))
        show upd (w.2.1 14) i (iB b) c = _
        rw [upd_at]
        by_cases hci : c = i
        · rw [if_pos hci, hci, eb]
        · rw [if_neg hci, h14]; exact hH c (by omega)
      refine isSeen_ok N hN _ W u hS kb i hkb (by omega) e2 ?_
      rw [e4, ec]
      by_cases hs : seenF W x (cl i) i = true
      · rw [if_pos hs, if_neg (by decide)]
        refine boardSize_ok N hN _ W i (by omega) u hS (fun r => ?_)
        rw [et, es]
        by_cases hc : bsz W tw ts i 10 < x1
        · rw [if_pos hc]
          exact fin _ false (frT_row u r) rfl (by unfold hitF; simp [hc])
        · rw [if_neg hc]
          exact fin _ true (frT_row u r) rfl (by unfold hitF; simp [hc, hs])
      · rw [if_neg hs, if_pos rfl]
        exact fin _ false (frT_rf u) rfl (by unfold hitF; simp [hs])
theorem tM_com (z : UU) (a b c : Int32) : sI (sI (sI z 5 a) 6 b) 7 c = sI (sI (sI z 7 c) 5 a) 6 b := by
  have : (fun j => if j = 7 then c else if j = 6 then b else if j = 5 then a else z.1 j) = (fun j => if j = 6 then b else if j = 5 then a else if j = 7 then c else z.1 j) := by
    funext j; by_cases h1 : j = 5
    · subst h1; rfl
    · by_cases h2 : j = 6
      · subst h2; rfl
      · by_cases h3 : j = 7
        · subst h3; rfl
        · simp only [h1, h2, h3, if_false]
  show ((fun j => if j = 7 then c else if j = 6 then b else if j = 5 then a else z.1 j), z.2) = ((fun j => if j = 6 then b else if j = 5 then a else if j = 7 then c else z.1 j), z.2)
  rw [this]
theorem mt_track (N : Nat) (hN : 4000 ≤ N) : ∀ (u v : UU) (x1 x2 x3 : Int32), Rel u v → m_X11_track N x1 x2 x3 u (fun r u1 => m_X12_track N x1 x2 x3 v (fun r2 v1 => r = r2 ∧ Rel u1 v1)) := by
  intro u v x1 x2 x3 hR
  have hR2 := rel_thrown hR 0
  obtain ⟨kb, k, hkb, hk, e2, e2', -⟩ := rel_bd hR
  have hv : (sI v 0 0).1 2 = nI kb := e2'
  unfold m_X11_track m_X12_track
  simp only [isSize_eq, isIn_eq, isHour_eq, mKnown_eq, inI0 N _ 0 100 0 100 rfl rfl, inI0 N _ 0 20 0 20 rfl rfl, bi_0, forall_eq]
  by_cases p1 : (0 ≤ x1 ∧ x1 ≤ 100)
  case neg => simp only [p1, not_false_iff, if_true]; exact ⟨by trivial, hR2⟩
  by_cases p2 : (0 ≤ x2 ∧ x2 ≤ 20)
  case neg => simp only [p1, p2, not_false_iff, and_self, not_true_eq_false, if_false, if_true]; exact ⟨by trivial, hR2⟩
  by_cases p3 : (0 ≤ x3 ∧ x3 ≤ 1000)
  case neg => simp only [p1, p2, p3, not_false_iff, and_self, not_true_eq_false, if_false, if_true]; exact ⟨by trivial, hR2⟩
  simp only [p1, p2, p3, and_self, not_true_eq_false, if_false]
  obtain ⟨P, hP⟩ := rel_pl hR hkb e2
  have PM := POK_cong hP P
  have hw20 : sm x2 20 := sm_rng (by omega) p2.1 p2.2
  refine show_rel N hN hR x3 p3 _ (fun w hRw ok h4 hS => ?_)
  have w2 : w.1 2 = nI kb := (ok.1 2 (by omega)).trans e2
  have hcl : w.2.1 2 = u.2.1 2 := ok.2 2 (by omega)
  have h7 : w.2.1 7 = u.2.1 7 := ok.2 7 (by omega)
  have h8 : w.2.1 8 = u.2.1 8 := ok.2 8 (by omega)
  refine mark_loop N hN _ (WOf u x3) (u.2.1 7) (u.2.1 8) (u.2.1 2) x3 x1 x2 kb hkb N 0 w (by omega) (by omega) w2 h4 hS hcl h7 h8 (fun c hc => by omega) (fun y hy hH => ?_)
  have hRy := frT_rel hRw hy
  have y0 : y.2.1 0 = u.2.1 0 := (hy.2 0 (by omega) (by omega)).trans (ok.2 0 (by omega))
  have y1 : y.2.1 1 = u.2.1 1 := (hy.2 1 (by omega) (by omega)).trans (ok.2 1 (by omega))
  have y2 : y.1 2 = nI kb := (hy.1 2).trans w2
  unfold m_X9_draw
  intro u1 a1 u2 a2 u3 a3
  rw [a3, a2, a1]
  let H := hitF (WOf u x3) (u.2.1 7) (u.2.1 8) (u.2.1 2) x3 x1
  let nr := nearD (u.2.1 0) (u.2.1 1) x2
  let ap : Nat → Nat → Bool := fun i j => !decide (u.2.1 0 i = u.2.1 0 j ∧ u.2.1 1 i = u.2.1 1 j)
  have ap0 : ∀ i j, ap i j = true ↔ ¬ (u.2.1 0 i = u.2.1 0 j ∧ u.2.1 1 i = u.2.1 1 j) := fun i j => by
    show (!decide (u.2.1 0 i = u.2.1 0 j ∧ u.2.1 1 i = u.2.1 1 j)) = true ↔ _
    rw [Bool.not_eq_true', decide_eq_false_iff_not]
  have s0 : TOK kb (0, -1, -1) := ⟨by omega, Or.inl ⟨rfl, rfl⟩⟩
  have hTO := outG_ok (hitsF_le H nr ap hkb) kb 0 (0, -1, -1) (by omega) s0
  refine drawH_out N hN _ (sI y 6 x2) kb H nr ap hkb y2 hH (by show POK kb (y.2.1 0) (y.2.1 1); rw [y0, y1]; exact P) hw20 (fun i j c => by show _ ↔ nearB (y.2.1 0) (y.2.1 1) x2 i j c; rw [y0, y1]; exact nearD_iff _ _ _ _ _ _) (fun i j => by show _ ↔ ¬ (y.2.1 0 i = y.2.1 0 j ∧ y.2.1 1 i = y.2.1 1 j); rw [y0, y1]; exact ap0 i j) N kb 0 (0, -1, -1) (by omega) (by omega) s0 ?_
  refine find_rel N hN hR2 x3 _ (fun z okz hF hB => ?_)
  rw [tM_com]
  have z0 : z.2.1 0 = v.2.1 0 := okz.2 0 (by omega)
  have z1 : z.2.1 1 = v.2.1 1 := okz.2 1 (by omega)
  have z2 : z.1 2 = nI kb := (okz.1 2 (by omega)).trans hv
  have hRz := rel_V (rel_thrown hRy 0) okz
  have apI : ∀ i j, i < kb → j < kb → (ap i j = true ↔ ¬ (v.2.1 0 i = v.2.1 0 j ∧ v.2.1 1 i = v.2.1 1 j)) := by
    intro i j hi hj
    rw [← (hP i hi).1, ← (hP i hi).2, ← (hP j hj).1, ← (hP j hj).2]; exact ap0 i j
  refine trackM_out N hN _ (sI z 7 x2) kb x1 x2 H nr ap hkb z2 (fun c hc => ?_) (by show POK kb (z.2.1 0) (z.2.1 1); rw [z0, z1]; exact PM) hw20 (fun i j c hi hj hc => by show _ ↔ nearB (z.2.1 0) (z.2.1 1) x2 i j c; rw [z0, z1, ← near_cong hP hi hj hc]; exact nearD_iff _ _ _ _ _ _) (fun i j hi hj => by show _ ↔ ¬ (z.2.1 0 i = z.2.1 0 j ∧ z.2.1 1 i = z.2.1 1 j); rw [z0, z1]; exact apI i j hi hj) N kb 0 (0, -1, -1) (by omega) (by omega) s0 ?_
  · obtain ⟨b14, -, b16⟩ := hB c kb hv hkb hc
    have es : z.2.1 16 c = if seenF (WOf u x3) x3 (u.2.1 2 c) c then 1 else 0 := by
      rw [b16]
      refine seen_both p3 ?_
      rw [okz.2 2 (by omega)]
      exact rel_clear hR hkb e2 hc
    show hitF (WOf u x3) (u.2.1 7) (u.2.1 8) (u.2.1 2) x3 x1 c = true ↔ (¬ z.2.1 16 c = 0 ∧ ¬ z.2.1 14 c < x1)
    rw [es, b14, ← bsz_cong (rel_tab hR2) c 10]
    unfold hitF
    by_cases hs : seenF (WOf u x3) x3 (u.2.1 2 c) c = true
    · simp [hs]
    · simp [hs]
  · refine ⟨rfl, ?_⟩
    generalize outG (hitsF H nr ap kb) kb kb 0 (0, -1, -1) = s at hTO ⊢
    obtain ⟨h1, h2, h3, h4, h5, h6, h7, h8, h9, h10, h11⟩ := hRz
    unfold tS tM
    simp only [Rel, sA_1, sA_21, sA_22, sI_1, sI_2, reduceIte, Nat.reduceEqDiff]
    refine ⟨h1, h2, h3, h4, ⟨rfl, rfl, rfl, p2, ?_⟩, h6, h7, h8, h9, h10, h11⟩
    rcases hTO.2 with q | ⟨i, j, q1, q2, q3, q4⟩
    · exact Or.inl q
    · exact Or.inr ⟨kb, i, j, hkb, y2, q1, q2, q3, q4⟩
