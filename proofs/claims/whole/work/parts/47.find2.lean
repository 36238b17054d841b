theorem mtrue (N : Nat) (hN : 4000 ≤ N) (Q : UU → Prop) (x1 : Int32) (W : Nat → Int32) :
    ∀ (f i : Nat) (u : UU), i ≤ 300 → 300 < i + f → (∀ p, p < 2400 → u.2.1 8 p = W p) → (∀ c, c < 300 → u.2.1 11 c = nI (wsOf W c).length ∧ u.2.1 9 c = if (wsOf W c).length = 0 then -1 else rawF W c) → (∀ h, h < 8 → u.2.1 12 h = leanF W h) → (∀ c, c < i → u.2.1 10 c = if (wsOf W c).length = 0 then -1 else trueF W c) →
      (∀ w, frM u w → (∀ p, p < 2400 → w.2.1 8 p = W p) → (∀ c, c < 300 → w.2.1 11 c = nI (wsOf W c).length ∧ w.2.1 9 c = if (wsOf W c).length = 0 then -1 else rawF W c) → (∀ h, h < 8 → w.2.1 12 h = leanF W h) → (∀ c, c < 300 → w.2.1 10 c = if (wsOf W c).length = 0 then -1 else trueF W c) → m_X12_find_367 N Q N x1 (0 : Int32) w) → m_X12_find_262 N Q f x1 (nI i) u := by
  intro f
  induction f with
  | zero => intro i u h1 h2; omega
  | succ f ih =>
    intro i u h1 h2 h8 hc hl ht hQ
    rw [m_X12_find_262]
    by_cases hi : i = 300
    · subst hi; rw [if_pos (by decide)]; exact hQ u (frM_rf u) h8 hc hl ht
    · rw [if_neg (show ¬ (300 : Int32) ≤ nI i from nI_ge (b := 300) (by omega) (by omega))]
      intro u1 e1
      refine mtrue_in N hN Q x1 W i (by omega) _ N 0 u1 (by omega) (by omega) (by rw [e1]; exact h8) (by rw [e1]; exact hl) (by rw [e1]; rfl) rfl (fun w hw a b d g k => ?_)
      have fu1 : frM u u1 := by rw [e1]; exact frM_sI u _
      refine ih (i + 1) w (by omega) (by omega) (by rw [a, e1]; exact h8) (by rw [b, d, e1]; exact hc) (by rw [g, e1]; exact hl) (fun c hcc => ?_) (fun w2 hw2 => hQ w2 (frM_tr (frM_tr fu1 hw) hw2))
      rw [k, e1]
      simp only [upd_at, sI_2]
      by_cases e : c = i
      · subst e; rw [if_pos rfl]
      · rw [if_neg e]; exact ht c (by omega)
theorem msize_loop (N : Nat) (Q : Int32 → UU → Prop) (w : Int32) (u : UU) (hQ : Q (szF (u.2.1 6) (u.2.1 7) w) u) : ∀ (f i : Nat), i ≤ 8 → 8 < i + f → m_X12_sizeOf_4 N Q f w (oI (bestK (u.2.1 6) w i)) (nI i) u
  | 0, i, h1, h2 => by omega
  | f + 1, i, h1, h2 => by
    rw [m_X12_sizeOf_4]
    by_cases hi : i = 8
    · subst hi
      rw [if_pos (by decide)]
      unfold szF at hQ
      cases e : bestK (u.2.1 6) w 8 with
      | none => rw [e] at hQ; rw [if_neg (show ¬ 0 ≤ oI none by decide)]; exact hQ
      | some j =>
        have hj := bestK_lt _ _ _ _ e
        rw [e] at hQ
        show if 0 ≤ nI j then _ else _
        rw [if_pos (nI_pos' (by omega))]
        refine ⟨vp_in_nI hj (by omega), ?_⟩
        show Q (u.2.1 7 (nI j).toNatClampNeg) u
        rw [cl_nI (by omega)]; exact hQ
    · rw [if_neg (show ¬ (8 : Int32) ≤ nI i from nI_ge (b := 8) (by omega) (by omega))]
      have hin : vp_in (nI i) 8 := vp_in_nI (by omega) (by omega)
      refine ⟨hin, ?_⟩
      have ih := msize_loop N Q w u hQ f (i + 1) (by omega) (by omega)
      simp only [m_X12_sizeOf_43, m_X12_sizeOf_39, m_X12_sizeOf_44, forall_eq, nI_1, cl_nI (show i < 2 ^ 31 by omega)]
      unfold bestK at ih
      by_cases hc : w < u.2.1 6 i
      · rw [if_pos hc] at ih ⊢; exact ih
      · rw [if_neg hc] at ih ⊢
        cases e : bestK (u.2.1 6) w i with
        | none => rw [e] at ih; rw [if_pos (show oI none < 0 by decide)]; exact ih
        | some j =>
          have hj := bestK_lt _ _ _ _ e
          rw [e] at ih
          show if nI j < 0 then _ else _
          rw [if_neg (nI_pos (by omega))]
          refine ⟨hin, vp_in_nI (by omega) (by omega), ?_⟩
          have ej : (oI (some j)).toNatClampNeg = j := cl_nI (by omega)
          rw [ej]
          by_cases hd : u.2.1 6 i < u.2.1 6 j
          · rw [if_pos hd]; simp only [hd, if_true] at ih; exact ih
          · rw [if_neg hd]; simp only [hd, if_false] at ih; exact ih
theorem msize_ok (N : Nat) (hN : 4000 ≤ N) (Q : Int32 → UU → Prop) (w : Int32) (u : UU) (hQ : Q (szF (u.2.1 6) (u.2.1 7) w) u) : m_X12_sizeOf N w u Q := msize_loop N Q w u hQ N 0 (by omega) (by omega)
/-- what find found -/
def Fw (W : Nat → Int32) (w : UU) : Prop := (∀ p, p < 2400 → w.2.1 8 p = W p) ∧ (∀ c, c < 300 → w.2.1 11 c = nI (wsOf W c).length ∧ w.2.1 9 c = if (wsOf W c).length = 0 then -1 else rawF W c) ∧ (∀ h, h < 8 → w.2.1 12 h = leanF W h) ∧ ∀ c, c < 300 → w.2.1 10 c = if (wsOf W c).length = 0 then -1 else trueF W c
def mseen (W : Nat → Int32) (hr cl : Int32) (b : Nat) : Int32 := if manyF W b ≠ 0 ∨ (¬ cl = -1 ∧ cl ≤ hr) then 1 else 0
def Fb (W tw ts : Nat → Int32) (hr : Int32) (w : UU) (b : Nat) : Prop := w.2.1 14 b = bsz W tw ts b 10 ∧ w.2.1 15 b = nI (manyF W b) ∧ w.2.1 16 b = mseen W hr (w.2.1 2 b) b
theorem Fw_same {W : Nat → Int32} {u w : UU} (h : Fw W u) (h8 : w.2.1 8 = u.2.1 8) (h9 : w.2.1 9 = u.2.1 9) (h10 : w.2.1 10 = u.2.1 10) (h11 : w.2.1 11 = u.2.1 11) (h12 : w.2.1 12 = u.2.1 12) : Fw W w := by
  unfold Fw; rw [h8, h9, h10, h11, h12]; exact h
theorem mboard_in (N : Nat) (hN : 4000 ≤ N) (Q : UU → Prop) (x1 : Int32) (W tw ts : Nat → Int32) (b : Nat) (hb : b < 30) (k367 : Int32 → Int32 → UU → Prop) :
    ∀ (f i : Nat) (u : UU), i ≤ 10 → 10 < i + f → Fw W u → u.2.1 6 = tw → u.2.1 7 = ts → u.2.1 14 b = bsz W tw ts b i → u.2.1 15 b = nI (cntR (fun n => (wsOf W (10 * b + n)).length ≠ 0) i) →
      (∀ w, frM u w → Fw W w → (∀ j, j ≠ b → w.2.1 14 j = u.2.1 14 j ∧ w.2.1 15 j = u.2.1 15 j ∧ w.2.1 16 j = u.2.1 16 j) → Fb W tw ts x1 w b → k367 x1 (nI (b + 1)) w) → m_X12_find_391 N k367 Q f x1 (nI b) (nI i) u := by
  intro f
  induction f with
  | zero => intro i u h1 h2; omega
  | succ f ih =>
    intro i u h1 h2 hF e6 e7 h14 h15 hQ
    have hinb : vp_in (nI b) 30 := vp_in_nI hb (by omega)
    have n0 : vp_nar .boolean 0 = 0 := by decide
    have n1 : vp_nar .boolean 1 = 1 := by decide
    rw [m_X12_find_391]
    by_cases hi : i = 10
    · subst hi
      rw [if_pos (by decide)]
      refine ⟨hinb, ?_⟩
      rw [cl_nI (by omega), h15]
      have fin : ∀ y, (y = 0 ∨ y = 1) → y = mseen W x1 (u.2.1 2 b) b → m_X12_find_511 N k367 x1 (nI b) (nI b) y u Q := by
        intro y hy01 hy
        unfold m_X12_find_511
        refine ⟨hinb, fun u1 e1 z2 e2 => ?_⟩
        rw [e2, nI_1]
        rw [cl_nI (by omega), show vp_nar .boolean y = y by rcases hy01 with rfl | rfl <;> assumption] at e1
        refine hQ u1 ?_ ?_ ?_ ?_
        · rw [e1]; exact frM_sA u 16 _ (by omega) (by omega)
        · rw [e1]; exact hF
        · intro j hj; rw [e1]; refine ⟨rfl, rfl, ?_⟩
          show upd (u.2.1 16) b y j = _; simp only [upd_at, if_neg hj]
        · rw [e1]; refine ⟨h14, h15, ?_⟩
          show upd (u.2.1 16) b y b = _; simp only [upd_at, if_true]; exact hy
      unfold m_X12_find_506 m_X12_find_510
      have hm := manyF_le W b
      by_cases hz : manyF W b = 0
      · rw [if_neg (show ¬ 0 < nI (cntR (fun n => (wsOf W (10 * b + n)).length ≠ 0) 10) by
          show ¬ 0 < nI (manyF W b); rw [hz]; decide)]
        refine ⟨hinb, ?_⟩
        by_cases hc : u.2.1 2 b = -1
        · rw [if_pos hc]; refine fin _ (Or.inl rfl) ?_
          unfold mseen; rw [if_neg (by rintro (q | q); exact q hz; exact q.1 hc)]
        · rw [if_neg hc]
          refine ⟨hinb, ?_⟩
          by_cases hd : u.2.1 2 b ≤ x1
          · rw [if_neg (by grind)]; refine fin _ (Or.inr rfl) ?_
            unfold mseen; rw [if_pos (Or.inr ⟨hc, hd⟩)]
          · rw [if_pos (by grind)]; refine fin _ (Or.inl rfl) ?_
            unfold mseen; rw [if_neg (by rintro (q | q); exact q hz; exact hd q.2)]
      · rw [if_pos (show 0 < nI (cntR (fun n => (wsOf W (10 * b + n)).length ≠ 0) 10) from nI_lt (a := 0) (show 0 < manyF W b by omega) (show manyF W b < 2 ^ 31 by omega))]
        refine fin _ (Or.inr rfl) ?_
        unfold mseen; rw [if_pos (Or.inl hz)]
    · rw [if_neg (show ¬ (10 : Int32) ≤ nI i from nI_ge (b := 10) (by omega) (by omega))]
      have hin : vp_in (nI (10 * b + i)) 300 := vp_in_nI (by omega) (by omega)
      intro z1 ez
      rw [ez, ix10']
      refine ⟨hin, ?_⟩
      rw [cl_nI (by omega), (hF.2.1 _ (by omega)).1]
      have h8 := ws_le W (10 * b + i)
      simp only [m_X12_find_466, forall_eq, nI_1]
      by_cases hz : (wsOf W (10 * b + i)).length = 0
      · rw [if_pos (by rw [hz]; decide)]
        refine ih (i + 1) u (by omega) (by omega) hF e6 e7 ?_ ?_ hQ
        · unfold bsz; rw [if_pos hz]; exact h14
        · unfold cntR; rw [if_neg (fun q => q hz), Nat.add_zero]; exact h15
      · rw [if_neg (nI_nle (by omega) (by omega))]
        refine ⟨hinb, hinb, ?_⟩
        rw [cl_nI (by omega)]
        refine ⟨hin, ?_⟩
        refine msize_ok N hN _ _ _ ?_
        have es : szF ((sA u 15 (upd (u.2.1 15) b (u.2.1 15 b + 1))).2.1 6) ((sA u 15 (upd (u.2.1 15) b (u.2.1 15 b + 1))).2.1 7) ((sA u 15 (upd (u.2.1 15) b (u.2.1 15 b + 1))).2.1 10 (10 * b + i)) = szF tw ts (trueF W (10 * b + i)) := by
          show szF (u.2.1 6) (u.2.1 7) (u.2.1 10 (10 * b + i)) = _
          rw [e6, e7, hF.2.2.2 _ (by omega), if_neg hz]
        rw [es]
        refine ⟨hinb, ?_⟩
        have go : ∀ y, y = bsz W tw ts b (i + 1) → m_X12_find_465 N k367 (fun x1 x2 x3 u => m_X12_find_391 N k367 Q f x1 x2 x3 u) x1 (nI b) (nI i) (nI b) y (sA u 15 (upd (u.2.1 15) b (u.2.1 15 b + 1))) Q := by
          intro y hy
          unfold m_X12_find_465 m_X12_find_466
          refine ⟨hinb, fun u3 e3 z4 e4 => ?_⟩
          rw [e4, nI_1]
          rw [cl_nI (by omega)] at e3
          have f3 : frM u u3 := by rw [e3]; exact frM_tr (frM_sA u 15 _ (by omega) (by omega)) (frM_sA _ 14 _ (by omega) (by omega))
          refine ih (i + 1) u3 (by omega) (by omega) (by rw [e3]; exact hF) ((f3.2.1 6 (by omega)).trans e6) ((f3.2.1 7 (by omega)).trans e7) ?_ ?_ (fun w hw a bb d => hQ w (frM_tr f3 hw) a (fun j hj => ?_) d)
          · rw [e3]; show upd (u.2.1 14) b y b = _; simp only [upd_at, if_true]; exact hy
          · rw [e3]; show upd (u.2.1 15) b (u.2.1 15 b + 1) b = _
            simp only [upd_at, if_true]; unfold cntR; rw [if_pos hz, h15, nI_1]
          · obtain ⟨q1, q2, q3⟩ := bb j hj
            rw [q1, q2, q3, e3]
            refine ⟨?_, ?_, rfl⟩
            · show upd (u.2.1 14) b y j = _; simp only [upd_at, if_neg hj]
            · show upd (u.2.1 15) b _ j = _; simp only [upd_at, if_neg hj]
        have e14 : (sA u 15 (upd (u.2.1 15) b (u.2.1 15 b + 1))).2.1 14 b = bsz W tw ts b i := h14
        rw [e14]
        by_cases hle : szF tw ts (trueF W (10 * b + i)) ≤ bsz W tw ts b i
        · rw [if_pos hle]
          refine ⟨hinb, go _ ?_⟩
          show _ = if (wsOf W (10 * b + i)).length = 0 then _ else mx _ _
          unfold mx; rw [if_neg hz, if_neg (by grind)]
        · rw [if_neg hle]
          refine go _ ?_
          show _ = if (wsOf W (10 * b + i)).length = 0 then _ else mx _ _
          unfold mx; rw [if_neg hz, if_pos (by grind)]
theorem mboards (N : Nat) (hN : 4000 ≤ N) (Q : UU → Prop) (x1 : Int32) (W tw ts : Nat → Int32) (kb : Nat) (hkb : kb ≤ 30) :
    ∀ (f i : Nat) (u : UU), i ≤ kb → kb < i + f → u.1 2 = nI kb → Fw W u → u.2.1 6 = tw → u.2.1 7 = ts → (∀ b, b < i → Fb W tw ts x1 u b) →
      (∀ w, frM u w → Fw W w → (∀ b, b < kb → Fb W tw ts x1 w b) → Q w) → m_X12_find_367 N Q f x1 (nI i) u := by
  intro f
  induction f with
  | zero => intro i u h1 h2; omega
  | succ f ih =>
    intro i u h1 h2 e2 hF e6 e7 hB hQ
    rw [m_X12_find_367, e2]
    by_cases hi : i = kb
    · subst hi; rw [if_pos (nI_le (Nat.le_refl _) (by omega))]; exact hQ u (frM_rf u) hF hB
    · rw [if_neg (nI_ge (by omega) (by omega))]
      refine ⟨vp_in_nI (by omega) (by omega), fun u1 a1 => ⟨vp_in_nI (by omega) (by omega), fun u2 a2 => ?_⟩⟩
      rw [cl_nI (by omega)] at a1 a2
      have f2 : frM u u2 := by rw [a2, a1]; exact frM_tr (frM_sA u 14 _ (by omega) (by omega)) (frM_sA _ 15 _ (by omega) (by omega))
      refine mboard_in N hN Q x1 W tw ts i (by omega) _ N 0 u2 (by omega) (by omega) (by rw [a2, a1]; exact hF) ((f2.2.1 6 (by omega)).trans e6) ((f2.2.1 7 (by omega)).trans e7) ?_ ?_ (fun w hw hFw hne hb => ?_)
      · rw [a2, a1]; show upd (u.2.1 14) i 0 i = _; simp [upd_at, bsz]
      · rw [a2, a1]; show upd (u.2.1 15) i 0 i = _; simp [upd_at, cntR]; rfl
      · have fw := frM_tr f2 hw
        refine ih (i + 1) w (by omega) (by omega) ((fw.1 2 (by omega)).trans e2) hFw ((fw.2.1 6 (by omega)).trans e6) ((fw.2.1 7 (by omega)).trans e7) (fun b hbb => ?_) (fun w2 hw2 => hQ w2 (frM_tr fw hw2))
        by_cases e : b = i
        · subst e; exact hb
        · obtain ⟨q1, q2, q3⟩ := hB b (by omega)
          obtain ⟨n1, n2, n3⟩ := hne b e
          have g14 : u2.2.1 14 b = u.2.1 14 b := by rw [a2, a1]; show upd (u.2.1 14) i 0 b = _; simp only [upd_at, if_neg e]
          have g15 : u2.2.1 15 b = u.2.1 15 b := by rw [a2, a1]; show upd (u.2.1 15) i 0 b = _; simp only [upd_at, if_neg e]
          have g16 : u2.2.1 16 b = u.2.1 16 b := by rw [a2, a1]; rfl
          refine ⟨by rw [n1, g14]; exact q1, by rw [n2, g15]; exact q2, by rw [n3, g16, q3, fw.2.1 2 (by omega)]⟩
theorem find_ok (N : Nat) (hN : 4000 ≤ N) (Q : UU → Prop) (h : Int32) (u : UU) (kb k : Nat) (hkb : kb ≤ 30) (hk : k ≤ 300) (cl hd wd kn : Nat → Int32) (D : DOK kb k cl hd wd) (e2 : u.1 2 = nI kb) (e3 : u.1 3 = nI k) (hd' : ∀ j, j < k → u.2.1 3 j = nI (8 * (cl j).toNatClampNeg + (hd j).toNatClampNeg) ∧ u.2.1 4 j = wd j ∧ u.2.1 5 j = kn j)
    (hQ : ∀ w, frM u w → Fw (wdF h cl hd wd kn k) w → (∀ b, b < kb → Fb (wdF h cl hd wd kn k) (u.2.1 6) (u.2.1 7) h w b) → Q w) : m_X12_find N h u Q := by
  unfold m_X12_find
  refine mfill N Q h N 0 u (by omega) (by omega) (fun p hp => by omega) (fun w1 f1 z1 => ?_)
  refine mplace N Q kb k hkb hk h cl hd wd kn D N 0 w1 (by omega) (by omega) ((f1.1 3 (by omega)).trans e3) (by rw [f1.2.1 3 (by omega), f1.2.1 4 (by omega), f1.2.1 5 (by omega)]; exact hd') (fun p hp => by rw [z1 p hp]; rfl) (fun w2 f2 z2 => ?_)
  refine mraw N hN Q h _ N 0 w2 (by omega) (by omega) z2 (fun c hc => by omega) (fun w3 f3 z3 y3 => ?_)
  refine mlean N hN Q h _ N 0 w3 (by omega) (by omega) z3 y3 (fun c hc => by omega) (fun w4 f4 z4 y4 x4 => ?_)
  refine mtrue N hN Q h _ N 0 w4 (by omega) (by omega) z4 y4 x4 (fun c hc => by omega) (fun w5 f5 z5 y5 x5 t5 => ?_)
  have fw5 := frM_tr (frM_tr (frM_tr (frM_tr f1 f2) f3) f4) f5
  refine mboards N hN Q h _ (u.2.1 6) (u.2.1 7) kb hkb N 0 w5 (by omega) (by omega) ((fw5.1 2 (by omega)).trans e2) ⟨z5, y5, x5, t5⟩ (fw5.2.1 6 (by omega)) (fw5.2.1 7 (by omega)) (fun b hb => by omega) (fun w6 f6 F6 B6 => ?_)
  exact hQ w6 (frM_tr fw5 f6) F6 B6
/-! what stays of the states when only scratch rows change -/
def okU (u w : UU) : Prop := (∀ j, (j ≤ 3 ∨ (6 ≤ j ∧ j ≤ 8) ∨ j = 10 ∨ (14 ≤ j ∧ j ≤ 18)) → w.1 j = u.1 j) ∧ ∀ j, (j ≤ 8 ∨ (18 ≤ j ∧ j ≤ 26)) → w.2.1 j = u.2.1 j
def okV (v w : UU) : Prop := (∀ j, ((1 ≤ j ∧ j ≤ 3) ∨ (5 ≤ j ∧ j ≤ 7) ∨ j = 10 ∨ j = 12 ∨ j = 16 ∨ j = 18) → w.1 j = v.1 j) ∧ ∀ j, (j ≤ 7 ∨ (18 ≤ j ∧ j ≤ 22) ∨ 24 ≤ j) → w.2.1 j = v.2.1 j
theorem okU_rf (u : UU) : okU u u := ⟨fun _ _ => rfl, fun _ _ => rfl⟩
theorem okU_tr {a b c : UU} (h1 : okU a b) (h2 : okU b c) : okU a c := ⟨fun j hj => (h2.1 j hj).trans (h1.1 j hj), fun j hj => (h2.2 j hj).trans (h1.2 j hj)⟩
theorem okV_tr {a b c : UU} (h1 : okV a b) (h2 : okV b c) : okV a c := ⟨fun j hj => (h2.1 j hj).trans (h1.1 j hj), fun j hj => (h2.2 j hj).trans (h1.2 j hj)⟩
def RVu (u : UU) : Prop := RV (u.1 5) (u.1 3) (u.2.1 3) (u.2.1 4) (u.2.1 5) (u.2.1 6) (u.2.1 9) (u.2.1 10) (u.2.1 11) (u.2.1 12)
theorem rel_U {u v w : UU} (hR : Rel u v) (h : okU u w) (hV : RVu w) : Rel w v := by
  obtain ⟨h1, h2, h3, h4, h5, h6, h7, h8, h9, h10, h11⟩ := hR
  unfold Rel
  have i := h.1; have a := h.2
  rw [i 0 (by omega), i 1 (by omega), i 2 (by omega), i 6 (by omega), i 7 (by omega), i 8 (by omega), i 10 (by omega), i 14 (by omega), i 15 (by omega), i 16 (by omega), i 17 (by omega), i 18 (by omega)]
  rw [a 0 (by omega), a 1 (by omega), a 2 (by omega), a 7 (by omega), a 8 (by omega), a 18 (by omega), a 19 (by omega), a 20 (by omega), a 21 (by omega), a 22 (by omega), a 23 (by omega), a 24 (by omega), a 25 (by omega), a 26 (by omega)]
  refine ⟨h1, ?_, h3, hV, h5, h6, h7, h8, h9, h10, h11⟩
  rw [i 3 (by omega), a 3 (by omega), a 4 (by omega), a 5 (by omega), a 6 (by omega)]
  exact h2
theorem rel_V {u v w : UU} (hR : Rel u v) (h : okV v w) : Rel u w := by
  obtain ⟨h1, h2, h3, h4, h5, h6, h7, h8, h9, h10, h11⟩ := hR
  unfold Rel
  have i := h.1; have a := h.2
  rw [i 1 (by omega), i 2 (by omega), i 3 (by omega), i 5 (by omega), i 6 (by omega), i 7 (by omega), i 10 (by omega), i 12 (by omega), i 16 (by omega), i 18 (by omega)]
  rw [a 0 (by omega), a 1 (by omega), a 2 (by omega), a 3 (by omega), a 4 (by omega), a 5 (by omega), a 6 (by omega), a 7 (by omega), a 18 (by omega), a 19 (by omega), a 20 (by omega), a 21 (by omega), a 22 (by omega), a 24 (by omega), a 25 (by omega), a 26 (by omega), a 27 (by omega), a 28 (by omega)]
  exact ⟨h1, h2, h3, h4, h5, h6, h7, h8, h9, h10, h11⟩
theorem rel_row {u v : UU} (hR : Rel u v) (r : Nat → Int32) : Rel (sA u 13 r) v := hR
/-- the widths of the class's dents as known in an hour -/
def WOf (u : UU) (x : Int32) : Nat → Int32 := wdF x (u.2.1 3) (u.2.1 4) (u.2.1 5) (u.2.1 6) (u.1 3).toNatClampNeg
theorem rel_bd {u v : UU} (hR : Rel u v) : ∃ kb k : Nat, kb ≤ 30 ∧ k ≤ 300 ∧ u.1 2 = nI kb ∧ v.1 2 = nI kb ∧ u.1 3 = nI k ∧ v.1 3 = nI k ∧ DOK kb k (u.2.1 3) (u.2.1 4) (u.2.1 5) ∧ ∀ j, j < k → v.2.1 3 j = nI (8 * (u.2.1 3 j).toNatClampNeg + (u.2.1 4 j).toNatClampNeg) ∧ v.2.1 4 j = u.2.1 5 j ∧ v.2.1 5 j = u.2.1 6 j := by
  obtain ⟨⟨kb, hkb, e1, e2, -⟩, ⟨kb', k, hkb', ekb, hk, ed1, ed2, hd⟩, -⟩ := hR
  have ekk : kb' = kb := (nI_eq (by omega) (by omega)).mp (ekb.symm.trans e1)
  subst ekk
  refine ⟨kb', k, hkb, hk, e1, e2, ed1, ed2, fun i hi => ?_, fun i hi => ?_⟩
  · obtain ⟨a, b, q1, q2, q3, q4, q5, q6, q7, q8, q9, -, -⟩ := hd i hi
    exact ⟨a, b, q1, q2, q3, q4, q8, q9⟩
  · obtain ⟨a, b, q1, q2, q3, q4, q5, q6, q7, q8, q9, -, -⟩ := hd i hi
    rw [q3, q4, cl_nI (by omega), cl_nI (by omega)]
    exact ⟨q5, q6.symm, q7.symm⟩
theorem show_rel (N : Nat) (hN : 4000 ≤ N) {u v : UU} (hR : Rel u v) (x : Int32) (hx : 0 ≤ x ∧ x ≤ 1000) (Q : UU → Prop) (hQ : ∀ w, Rel w v → okU u w → w.1 4 = x → Shw (WOf u x) w → Q w) : m_X10_show N x u Q := by
  obtain ⟨kb, k, hkb, hk, e2, -, e3, -, D, -⟩ := rel_bd hR
  refine show_ok N hN Q x hx u kb k hkb hk e2 e3 D hR.2.2.2.1 (fun w fw h4 h5 hS => ?_)
  have ek : (u.1 3).toNatClampNeg = k := by rw [e3]; exact cl_nI (by omega)
  have ok : okU u w := ⟨fun j hj => fw.1 j (by omega) (by omega), fun j hj => fw.2.1 j (by omega)⟩
  refine hQ w (rel_U hR ok ?_) ok h4 (by unfold WOf; rw [ek]; exact hS)
  unfold RVu
  rw [h5, ok.1 3 (by omega), ok.2 3 (by omega), ok.2 4 (by omega), ok.2 5 (by omega), ok.2 6 (by omega)]
  exact Or.inr ⟨hx, k, hk, e3, hS⟩
theorem find_rel (N : Nat) (hN : 4000 ≤ N) {u v : UU} (hR : Rel u v) (x : Int32) (Q : UU → Prop) (hQ : ∀ z, okV v z → Fw (WOf u x) z → (∀ b kb, v.1 2 = nI kb → kb ≤ 30 → b < kb → Fb (WOf u x) (v.2.1 6) (v.2.1 7) x z b) → Q z) : m_X12_find N x v Q := by
  obtain ⟨kb, k, hkb, hk, -, e2, e3, e3', D, hd⟩ := rel_bd hR
  have ek : (u.1 3).toNatClampNeg = k := by rw [e3]; exact cl_nI (by omega)
  refine find_ok N hN Q x v kb k hkb hk _ _ _ (u.2.1 6) D e2 e3' hd (fun w fw hF hB => ?_)
  have eW : WOf u x = wdF x (u.2.1 3) (u.2.1 4) (u.2.1 5) (u.2.1 6) k := by unfold WOf; rw [ek]
  rw [← eW] at hF hB
  refine hQ w ⟨fun j hj => fw.1 j (by omega), fun j hj => fw.2.1 j (by omega)⟩ hF (fun b kb' e' hk' hb => hB b ?_)
  have : kb' = kb := (nI_eq (by omega) (by omega)).mp (e'.symm.trans e2)
  omega
theorem rel_tab {u v : UU} (hR : Rel u v) : ∀ k, k < 8 → u.2.1 7 k = v.2.1 6 k ∧ u.2.1 8 k = v.2.1 7 k := fun k hk => ⟨(hR.2.2.1 k hk).1, (hR.2.2.1 k hk).2.1⟩
theorem rel_tab_rng {u v : UU} (hR : Rel u v) : ∀ k, k < 8 → 0 ≤ u.2.1 8 k ∧ u.2.1 8 k ≤ 100 := fun k hk => (hR.2.2.1 k hk).2.2.2
