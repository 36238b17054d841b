/-! the reference's find -/
def frM (u w : UU) : Prop := (∀ j, j ≠ 4 → w.1 j = u.1 j) ∧ (∀ j, (j < 8 ∨ 16 < j) → w.2.1 j = u.2.1 j) ∧ w.2.2 = u.2.2
theorem frM_rf (u : UU) : frM u u := ⟨fun _ _ => rfl, fun _ _ => rfl, rfl⟩
theorem frM_tr {a b c : UU} (h1 : frM a b) (h2 : frM b c) : frM a c := ⟨fun j hj => (h2.1 j hj).trans (h1.1 j hj), fun j hj => (h2.2.1 j hj).trans (h1.2.1 j hj), h2.2.2.trans h1.2.2⟩
theorem frM_sA (u : UU) (k : Nat) (f : Nat → Int32) (h1 : 8 ≤ k) (h2 : k ≤ 16) : frM u (sA u k f) := ⟨fun _ _ => rfl, fun j hj => by simp only [sA_21]; rw [if_neg (by omega)], rfl⟩
theorem frM_sI (u : UU) (x : Int32) : frM u (sI u 4 x) := ⟨fun j hj => by simp only [sI_1, if_neg hj], fun _ _ => rfl, rfl⟩
theorem mfill (N : Nat) (Q : UU → Prop) (x1 : Int32) : ∀ (f i : Nat) (u : UU), i ≤ 2400 → 2400 < i + f → (∀ p, p < i → u.2.1 8 p = 0) → (∀ w, frM u w → (∀ p, p < 2400 → w.2.1 8 p = 0) → m_X12_find_24 N Q N x1 (0 : Int32) w) → m_X12_find_2 N Q f x1 (nI i) u := by
  intro f
  induction f with
  | zero => intro i u h1 h2; omega
  | succ f ih =>
    intro i u h1 h2 h3 hQ
    rw [m_X12_find_2]
    by_cases hi : i = 2400
    · subst hi; rw [if_pos (by decide)]; exact hQ u (frM_rf u) h3
    · rw [if_neg (show ¬ (2400 : Int32) ≤ nI i from nI_ge (b := 2400) (by omega) (by omega))]
      refine ⟨vp_in_nI (by omega) (by omega), fun u1 e1 z2 e2 => ?_⟩
      rw [e2, nI_1]; subst e1; rw [cl_nI (by omega)]
      refine ih (i + 1) _ (by omega) (by omega) (fun p hp => ?_) (fun w hw h => hQ w (frM_tr (frM_sA u 8 _ (by omega) (by omega)) hw) h)
      simp only [sA_21, if_true, upd_at]
      by_cases e : p = i
      · rw [if_pos e]
      · rw [if_neg e]; exact h3 p (by omega)
/-- the same widths out of the reference's places -/
theorem mplace (N : Nat) (Q : UU → Prop) (kb k : Nat) (hkb : kb ≤ 30) (hk : k ≤ 300) (h : Int32) (cl hd wd kn : Nat → Int32) (D : DOK kb k cl hd wd) :
    ∀ (f i : Nat) (u : UU), i ≤ k → k < i + f → u.1 3 = nI k → (∀ j, j < k → u.2.1 3 j = nI (8 * (cl j).toNatClampNeg + (hd j).toNatClampNeg) ∧ u.2.1 4 j = wd j ∧ u.2.1 5 j = kn j) → (∀ p, p < 2400 → u.2.1 8 p = wdF h cl hd wd kn i p) →
      (∀ w, frM u w → (∀ p, p < 2400 → w.2.1 8 p = wdF h cl hd wd kn k p) → m_X12_find_67 N Q N h (0 : Int32) w) → m_X12_find_24 N Q f h (nI i) u := by
  intro f
  induction f with
  | zero => intro i u h1 h2; omega
  | succ f ih =>
    intro i u h1 h2 e3 hd' h8 hQ
    rw [m_X12_find_24, e3]
    by_cases hi : i = k
    · subst hi; rw [if_pos (nI_le (Nat.le_refl _) (by omega))]; exact hQ u (frM_rf u) h8
    · rw [if_neg (nI_ge (by omega) (by omega))]
      have hin : vp_in (nI i) 300 := vp_in_nI (by omega) (by omega)
      obtain ⟨q1, q2, q3⟩ := hd' i (by omega)
      obtain ⟨a, b, ha, hb, c1, c2, c3, c4⟩ := D i (by omega)
      have ep : 8 * (cl i).toNatClampNeg + (hd i).toNatClampNeg = 8 * a + b := by rw [c1, c2, cl_nI (by omega), cl_nI (by omega)]
      rw [ep] at q1
      refine ⟨hin, ?_⟩
      simp only [m_X12_find_59, forall_eq, nI_1, cl_nI (show i < 2 ^ 31 by omega), q1, q2, q3]
      by_cases hc : kn i ≤ h
      · rw [if_neg (by grind)]
        refine ⟨hin, hin, vp_in_nI (by omega) (by omega), ?_⟩
        rw [cl_nI (by omega)]
        refine ih (i + 1) _ (by omega) (by omega) e3 hd' (fun p hp => ?_) (fun w hw => hQ w (frM_tr (frM_sA u 8 _ (by omega) (by omega)) hw))
        unfold wdF; rw [if_pos hc, ep]
        simp only [sA_21, if_true, upd_at]
        split
        · rfl
        · exact h8 p hp
      · rw [if_pos (by grind)]
        refine ih (i + 1) u (by omega) (by omega) e3 hd' (fun p hp => ?_) hQ
        unfold wdF; rw [if_neg hc]; exact h8 p hp
/-- a row is empty -/
theorem row0 (f : Nat → Int32) : rowL f 0 = isort [] := rfl
/-- the raw widths and how many hands -/
theorem mraw_in (N : Nat) (hN : 4000 ≤ N) (Q : UU → Prop) (x1 : Int32) (W : Nat → Int32) (c : Nat) (hc : c < 300) (k67 : Int32 → Int32 → UU → Prop) :
    ∀ (f i : Nat) (u : UU), i ≤ 8 → 8 < i + f → (∀ p, p < 2400 → u.2.1 8 p = W p) → u.1 4 = nI (hL W (fun h => W (8 * c + h)) c i).length → rowL (u.2.1 13) (hL W (fun h => W (8 * c + h)) c i).length = isort (hL W (fun h => W (8 * c + h)) c i) →
      (∀ w, frM u w → w.2.1 8 = u.2.1 8 → w.2.1 11 = upd (u.2.1 11) c (nI (wsOf W c).length) → w.2.1 9 = upd (u.2.1 9) c (if (wsOf W c).length = 0 then -1 else rawF W c) → k67 x1 (nI (c + 1)) w) → m_X12_find_81 N k67 Q f x1 (nI c) (nI i) u := by
  intro f
  induction f with
  | zero => intro i u h1 h2; omega
  | succ f ih =>
    intro i u h1 h2 h8 h4 hr hQ
    have hle : (hL W (fun h => W (8 * c + h)) c i).length ≤ i := by rw [hL_len]; exact cntR_le _ _
    rw [m_X12_find_81]
    by_cases hi : i = 8
    · subst hi
      rw [if_pos (by decide)]
      rw [← wsOf_hL] at h4 hr hle
      refine ⟨vp_in_nI hc (by omega), fun u1 e1 => ?_⟩
      rw [cl_nI (by omega), h4] at e1
      have fin : ∀ y, y = (if (wsOf W c).length = 0 then -1 else rawF W c) → m_X12_find_152 N k67 x1 (nI c) (nI c) y u1 Q := by
        intro y hy
        unfold m_X12_find_152
        refine ⟨vp_in_nI hc (by omega), fun u2 e2 z3 e3 => ?_⟩
        rw [e3, nI_1]
        rw [cl_nI (by omega)] at e2
        refine hQ u2 ?_ ?_ ?_ ?_
        · rw [e2, e1]; exact frM_tr (frM_sA u 11 _ (by omega) (by omega)) (frM_sA _ 9 _ (by omega) (by omega))
        · rw [e2, e1]; rfl
        · rw [e2, e1]; rfl
        · rw [e2, e1, hy]; rfl
      have g4 : u1.1 4 = nI (wsOf W c).length := by rw [e1]; exact h4
      rw [g4]
      by_cases hz : (wsOf W c).length = 0
      · rw [if_pos (by rw [hz]; rfl)]; exact fin _ (by rw [if_pos hz])
      · rw [if_neg (nI_ne0 (by omega) (by omega))]
        refine middle_ok N _ (wsOf W c) (by omega) hz u1 g4 (by rw [e1]; exact hr) ?_
        exact fin _ (by rw [if_neg hz]; rfl)
    · rw [if_neg (show ¬ (8 : Int32) ≤ nI i from nI_ge (b := 8) (by omega) (by omega)), ix8']
      have hin : vp_in (nI (8 * c + i)) 2400 := vp_in_nI (by omega) (by omega)
      refine ⟨hin, ?_⟩
      rw [cl_nI (by omega), h8 _ (by omega)]
      have e := hL_s W (fun h => W (8 * c + h)) c i
      unfold m_X12_find_116
      simp only [forall_eq, nI_1]
      by_cases hz : W (8 * c + i) ≤ 0
      · rw [if_pos hz]
        rw [if_neg (by grind)] at e
        exact ih (i + 1) u (by omega) (by omega) h8 (by rw [e]; exact h4) (by rw [e]; exact hr) hQ
      · rw [if_neg hz]
        rw [if_pos (by grind)] at e
        refine ⟨hin, ?_⟩
        refine add_ok N hN _ (hL W (fun h => W (8 * c + h)) c i) (by omega) _ u h4 hr (fun r hr2 => ?_)
        refine ih (i + 1) _ (by omega) (by omega) h8 (by rw [e, List.length_append]; rfl) (by rw [e, List.length_append]; exact hr2) (fun w hw a b d => hQ w (frM_tr (frM_tr (frM_sA u 13 r (by omega) (by omega)) (frM_sI _ _)) hw) a b d)
theorem mraw (N : Nat) (hN : 4000 ≤ N) (Q : UU → Prop) (x1 : Int32) (W : Nat → Int32) :
    ∀ (f i : Nat) (u : UU), i ≤ 300 → 300 < i + f → (∀ p, p < 2400 → u.2.1 8 p = W p) → (∀ c, c < i → u.2.1 11 c = nI (wsOf W c).length ∧ u.2.1 9 c = if (wsOf W c).length = 0 then -1 else rawF W c) →
      (∀ w, frM u w → (∀ p, p < 2400 → w.2.1 8 p = W p) → (∀ c, c < 300 → w.2.1 11 c = nI (wsOf W c).length ∧ w.2.1 9 c = if (wsOf W c).length = 0 then -1 else rawF W c) → m_X12_find_161 N Q N x1 (0 : Int32) w) → m_X12_find_67 N Q f x1 (nI i) u := by
  intro f
  induction f with
  | zero => intro i u h1 h2; omega
  | succ f ih =>
    intro i u h1 h2 h8 hc hQ
    rw [m_X12_find_67]
    by_cases hi : i = 300
    · subst hi; rw [if_pos (by decide)]; exact hQ u (frM_rf u) h8 hc
    · rw [if_neg (show ¬ (300 : Int32) ≤ nI i from nI_ge (b := 300) (by omega) (by omega))]
      intro u1 e1
      refine mraw_in N hN Q x1 W i (by omega) _ N 0 u1 (by omega) (by omega) (by rw [e1]; exact h8) (by rw [e1]; rfl) rfl (fun w hw a b d => ?_)
      have fu1 : frM u u1 := by rw [e1]; exact frM_sI u _
      refine ih (i + 1) w (by omega) (by omega) (by rw [a, e1]; exact h8) (fun c hcc => ?_) (fun w2 hw2 => hQ w2 (frM_tr (frM_tr fu1 hw) hw2))
      rw [b, d, e1]
      simp only [upd_at, sI_2]
      by_cases e : c = i
      · subst e; rw [if_pos rfl, if_pos rfl]; exact ⟨rfl, rfl⟩
      · rw [if_neg e, if_neg e]; exact hc c (by omega)
/-- the leanings -/
theorem mlean_in (N : Nat) (hN : 4000 ≤ N) (Q : UU → Prop) (x1 : Int32) (W : Nat → Int32) (h : Nat) (hh : h < 8) (k161 : Int32 → Int32 → UU → Prop) :
    ∀ (f i : Nat) (u : UU), i ≤ 300 → 300 < i + f → (∀ p, p < 2400 → u.2.1 8 p = W p) → (∀ c, c < 300 → u.2.1 11 c = nI (wsOf W c).length ∧ u.2.1 9 c = if (wsOf W c).length = 0 then -1 else rawF W c) → u.1 4 = nI (lnL W h i).length → rowL (u.2.1 13) (lnL W h i).length = isort (lnL W h i) →
      (∀ w, frM u w → w.2.1 8 = u.2.1 8 → w.2.1 11 = u.2.1 11 → w.2.1 9 = u.2.1 9 → w.2.1 12 = upd (u.2.1 12) h (leanF W h) → k161 x1 (nI (h + 1)) w) → m_X12_find_174 N k161 Q f x1 (nI h) (nI i) u := by
  intro f
  induction f with
  | zero => intro i u h1 h2; omega
  | succ f ih =>
    intro i u h1 h2 h8 hc h4 hr hQ
    have hle := lnL_le W h i
    rw [m_X12_find_174]
    by_cases hi : i = 300
    · subst hi
      rw [if_pos (by decide)]
      have fin : ∀ y, y = leanF W h → m_X12_find_253 N k161 x1 (nI h) (nI h) y u Q := by
        intro y hy
        unfold m_X12_find_253
        refine ⟨vp_in_nI hh (by omega), fun u2 e2 z3 e3 => ?_⟩
        rw [e3, nI_1]
        rw [cl_nI (by omega)] at e2
        refine hQ u2 ?_ ?_ ?_ ?_ ?_
        · rw [e2]; exact frM_sA u 12 _ (by omega) (by omega)
        · rw [e2]; rfl
        · rw [e2]; rfl
        · rw [e2]; rfl
        · rw [e2, hy]; rfl
      rw [h4]
      by_cases hz : (lnL W h 300).length = 0
      · rw [if_pos (by rw [hz]; rfl)]; exact fin _ (by show _ = if (lnL W h 300).length = 0 then _ else _; rw [if_pos hz])
      · rw [if_neg (nI_ne0 (by omega) (by omega))]
        refine middle_ok N _ (lnL W h 300) (by omega) hz u h4 hr ?_
        exact fin _ (by show _ = if (lnL W h 300).length = 0 then _ else mid (lnL W h 300); rw [if_neg hz])
    · rw [if_neg (show ¬ (300 : Int32) ≤ nI i from nI_ge (b := 300) (by omega) (by omega)), ix8']
      have hin : vp_in (nI (8 * i + h)) 2400 := vp_in_nI (by omega) (by omega)
      refine ⟨hin, ?_⟩
      rw [cl_nI (by omega), cl_nI (by omega), h8 _ (by omega), (hc i (by omega)).1]
      have e := lnL_s W h i
      have h88 := ws_le W i
      unfold m_X12_find_227
      simp only [forall_eq, nI_1]
      by_cases hz : W (8 * i + h) ≤ 0
      · rw [if_pos hz]
        rw [if_neg (fun q => by have := q.1; grind)] at e
        exact ih (i + 1) u (by omega) (by omega) h8 hc (by rw [e]; exact h4) (by rw [e]; exact hr) hQ
      · rw [if_neg hz]
        refine ⟨vp_in_nI (by omega) (by omega), ?_⟩
        by_cases h2' : 1 < (wsOf W i).length
        · rw [if_neg (show ¬ nI (wsOf W i).length ≤ 1 from nI_ge (a := 1) (by omega) (by omega))]
          rw [if_pos ⟨by grind, h2'⟩] at e
          refine ⟨hin, vp_in_nI (by omega) (by omega), ?_⟩
          rw [(hc i (by omega)).2, if_neg (by omega)]
          refine add_ok N hN _ (lnL W h i) (by omega) _ u h4 hr (fun r hr2 => ?_)
          refine ih (i + 1) _ (by omega) (by omega) h8 hc (by rw [e, List.length_append]; rfl) (by rw [e, List.length_append]; exact hr2) (fun w hw a b d g => hQ w (frM_tr (frM_tr (frM_sA u 13 r (by omega) (by omega)) (frM_sI _ _)) hw) a b d g)
        · rw [if_pos (show nI (wsOf W i).length ≤ 1 from nI_le (b := 1) (by omega) (by omega))]
          rw [if_neg (fun q => h2' q.2)] at e
          exact ih (i + 1) u (by omega) (by omega) h8 hc (by rw [e]; exact h4) (by rw [e]; exact hr) hQ
theorem mlean (N : Nat) (hN : 4000 ≤ N) (Q : UU → Prop) (x1 : Int32) (W : Nat → Int32) :
    ∀ (f i : Nat) (u : UU), i ≤ 8 → 8 < i + f → (∀ p, p < 2400 → u.2.1 8 p = W p) → (∀ c, c < 300 → u.2.1 11 c = nI (wsOf W c).length ∧ u.2.1 9 c = if (wsOf W c).length = 0 then -1 else rawF W c) → (∀ h, h < i → u.2.1 12 h = leanF W h) →
      (∀ w, frM u w → (∀ p, p < 2400 → w.2.1 8 p = W p) → (∀ c, c < 300 → w.2.1 11 c = nI (wsOf W c).length ∧ w.2.1 9 c = if (wsOf W c).length = 0 then -1 else rawF W c) → (∀ h, h < 8 → w.2.1 12 h = leanF W h) → m_X12_find_262 N Q N x1 (0 : Int32) w) → m_X12_find_161 N Q f x1 (nI i) u := by
  intro f
  induction f with
  | zero => intro i u h1 h2; omega
  | succ f ih =>
    intro i u h1 h2 h8 hc hl hQ
    rw [m_X12_find_161]
    by_cases hi : i = 8
    · subst hi; rw [if_pos (by decide)]; exact hQ u (frM_rf u) h8 hc hl
    · rw [if_neg (show ¬ (8 : Int32) ≤ nI i from nI_ge (b := 8) (by omega) (by omega))]
      intro u1 e1
      refine mlean_in N hN Q x1 W i (by omega) _ N 0 u1 (by omega) (by omega) (by rw [e1]; exact h8) (by rw [e1]; exact hc) (by rw [e1]; rfl) rfl (fun w hw a b d g => ?_)
      have fu1 : frM u u1 := by rw [e1]; exact frM_sI u _
      refine ih (i + 1) w (by omega) (by omega) (by rw [a, e1]; exact h8) (by rw [b, d, e1]; exact hc) (fun h hh => ?_) (fun w2 hw2 => hQ w2 (frM_tr (frM_tr fu1 hw) hw2))
      rw [g, e1]
      simp only [upd_at, sI_2]
      by_cases e : h = i
      · subst e; rw [if_pos rfl]
      · rw [if_neg e]; exact hl h (by omega)
/-- the true widths -/
theorem mx1_mono : ∀ a b : Int32, a ≤ b → mx 1 a ≤ mx 1 b := by
  intro a b h; unfold mx; split <;> split <;> grind
theorem true_map (W : Nat → Int32) (c : Nat) (h0 : (wsOf W c).length ≠ 0) : mid ((trL W c).map (mx 1)) = trueF W c := by
  unfold trueF
  refine mid_map mx1_mono ?_
  unfold trL; rw [hL_len, ← ws_len]; exact h0
theorem mtrue_in (N : Nat) (hN : 4000 ≤ N) (Q : UU → Prop) (x1 : Int32) (W : Nat → Int32) (c : Nat) (hc : c < 300) (k262 : Int32 → Int32 → UU → Prop) :
    ∀ (f i : Nat) (u : UU), i ≤ 8 → 8 < i + f → (∀ p, p < 2400 → u.2.1 8 p = W p) → (∀ h, h < 8 → u.2.1 12 h = leanF W h) → u.1 4 = nI (hL W (fun h => mx 1 (W (8 * c + h) - leanF W h)) c i).length → rowL (u.2.1 13) (hL W (fun h => mx 1 (W (8 * c + h) - leanF W h)) c i).length = isort (hL W (fun h => mx 1 (W (8 * c + h) - leanF W h)) c i) →
      (∀ w, frM u w → w.2.1 8 = u.2.1 8 → w.2.1 11 = u.2.1 11 → w.2.1 9 = u.2.1 9 → w.2.1 12 = u.2.1 12 → w.2.1 10 = upd (u.2.1 10) c (if (wsOf W c).length = 0 then -1 else trueF W c) → k262 x1 (nI (c + 1)) w) → m_X12_find_276 N k262 Q f x1 (nI c) (nI i) u := by
  intro f
  induction f with
  | zero => intro i u h1 h2; omega
  | succ f ih =>
    intro i u h1 h2 h8 hl h4 hr hQ
    have hle : (hL W (fun h => mx 1 (W (8 * c + h) - leanF W h)) c i).length ≤ i := by rw [hL_len]; exact cntR_le _ _
    rw [m_X12_find_276]
    by_cases hi : i = 8
    · subst hi
      rw [if_pos (by decide)]
      have elen : (hL W (fun h => mx 1 (W (8 * c + h) - leanF W h)) c 8).length = (wsOf W c).length := by rw [hL_len, ws_len]
      have fin : ∀ y, y = (if (wsOf W c).length = 0 then -1 else trueF W c) → m_X12_find_358 N k262 x1 (nI c) (nI c) y u Q := by
        intro y hy
        unfold m_X12_find_358
        refine ⟨vp_in_nI hc (by omega), fun u2 e2 z3 e3 => ?_⟩
        rw [e3, nI_1]
        rw [cl_nI (by omega)] at e2
        refine hQ u2 ?_ ?_ ?_ ?_ ?_ ?_
        · rw [e2]; exact frM_sA u 10 _ (by omega) (by omega)
        · rw [e2]; rfl
        · rw [e2]; rfl
        · rw [e2]; rfl
        · rw [e2]; rfl
        · rw [e2, hy]; rfl
      rw [h4]
      by_cases hz : (wsOf W c).length = 0
      · rw [elen, if_pos (by rw [hz]; rfl)]; exact fin _ (by rw [if_pos hz])
      · rw [if_neg (nI_ne0 (by omega) (by omega))]
        refine middle_ok N _ _ (by omega) (by omega) u h4 hr ?_
        refine fin _ ?_
        rw [if_neg hz, ← true_map W c hz]
        congr 1
        unfold trL hL; rw [List.map_map]; rfl
    · rw [if_neg (show ¬ (8 : Int32) ≤ nI i from nI_ge (b := 8) (by omega) (by omega)), ix8']
      have hin : vp_in (nI (8 * c + i)) 2400 := vp_in_nI (by omega) (by omega)
      refine ⟨hin, ?_⟩
      rw [cl_nI (by omega), cl_nI (by omega), h8 _ (by omega), hl i (by omega)]
      have e := hL_s W (fun h => mx 1 (W (8 * c + h) - leanF W h)) c i
      unfold m_X12_find_332 m_X12_find_329 m_X12_find_332
      simp only [forall_eq, nI_1]
      by_cases hz : W (8 * c + i) ≤ 0
      · rw [if_pos hz]
        rw [if_neg (by grind)] at e
        exact ih (i + 1) u (by omega) (by omega) h8 hl (by rw [e]; exact h4) (by rw [e]; exact hr) hQ
      · rw [if_neg hz]
        rw [if_pos (by grind)] at e
        refine ⟨hin, vp_in_nI (by omega) (by omega), ?_⟩
        have go : ∀ y, y = mx 1 (W (8 * c + i) - leanF W i) → m_X12_add N y u (fun u_1 => m_X12_find_276 N k262 Q f x1 (nI c) (nI (i + 1)) u_1) := by
          intro y hy
          subst hy
          refine add_ok N hN _ (hL W (fun h => mx 1 (W (8 * c + h) - leanF W h)) c i) (by omega) _ u h4 hr (fun r hr2 => ?_)
          refine ih (i + 1) _ (by omega) (by omega) h8 hl (by rw [e, List.length_append]; rfl) (by rw [e, List.length_append]; exact hr2) (fun w hw a b d g k => hQ w (frM_tr (frM_tr (frM_sA u 13 r (by omega) (by omega)) (frM_sI _ _)) hw) a b d g k)
        by_cases h1' : (1 : Int32) ≤ W (8 * c + i) - leanF W i
        · rw [if_pos h1']; refine go _ ?_
          unfold mx; split
          · rfl
          · grind
        · rw [if_neg h1']; refine go _ ?_
          unfold mx; rw [if_neg (by grind)]
