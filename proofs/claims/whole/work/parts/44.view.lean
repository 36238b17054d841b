/-! the class's view: show -/
def frA (u w : UU) : Prop := w.1 = u.1 ∧ (∀ j, (j < 9 ∨ 13 < j) → w.2.1 j = u.2.1 j) ∧ w.2.2 = u.2.2
theorem frA_rf (u : UU) : frA u u := ⟨rfl, fun _ _ => rfl, rfl⟩
theorem frA_tr {a b c : UU} (h1 : frA a b) (h2 : frA b c) : frA a c := ⟨h2.1.trans h1.1, fun j hj => (h2.2.1 j hj).trans (h1.2.1 j hj), h2.2.2.trans h1.2.2⟩
theorem frA_sA (u : UU) (k : Nat) (f : Nat → Int32) (h1 : 9 ≤ k) (h2 : k ≤ 13) : frA u (sA u k f) := ⟨rfl, fun j hj => by simp only [sA_21]; rw [if_neg (by omega)], rfl⟩
def DOK (kb k : Nat) (cl hd wd : Nat → Int32) : Prop := ∀ i, i < k → ∃ a b : Nat, a < 10 * kb ∧ b < 8 ∧ cl i = nI a ∧ hd i = nI b ∧ 1 ≤ wd i ∧ wd i ≤ 400
theorem wd_rng {kb k : Nat} {h : Int32} {cl hd wd kn : Nat → Int32} (D : DOK kb k cl hd wd) : ∀ i, i ≤ k → ∀ p, 0 ≤ wdF h cl hd wd kn i p ∧ wdF h cl hd wd kn i p ≤ 400
  | 0, _, p => by show (0 : Int32) ≤ 0 ∧ (0 : Int32) ≤ 400; decide
  | i + 1, hi, p => by
    have ih := wd_rng D i (by omega) p (h := h) (kn := kn)
    obtain ⟨a, b, ha, hb, e1, e2, h3, h4⟩ := D i (by omega)
    unfold wdF
    by_cases hc : kn i ≤ h
    · rw [if_pos hc]; simp only [upd_at]; split
      · constructor <;> grind
      · exact ih
    · rw [if_neg hc]; exact ih
theorem wd_out {kb k : Nat} {h : Int32} {cl hd wd kn : Nat → Int32} (hkb : kb ≤ 30) (D : DOK kb k cl hd wd) : ∀ i, i ≤ k → ∀ p, 80 * kb ≤ p → wdF h cl hd wd kn i p = 0
  | 0, _, p, _ => rfl
  | i + 1, hi, p, hp => by
    have ih := wd_out hkb D i (by omega) p hp (h := h) (kn := kn)
    obtain ⟨a, b, ha, hb, e1, e2, h3, h4⟩ := D i (by omega)
    unfold wdF
    by_cases hc : kn i ≤ h
    · rw [if_pos hc]; simp only [upd_at, e1, e2, cl_nI (show a < 2 ^ 31 by omega), cl_nI (show b < 2 ^ 31 by omega)]; rw [if_neg (by omega)]; exact ih
    · rw [if_neg hc]; exact ih
theorem row_push (f : Nat → Int32) (n : Nat) (x : Int32) : rowL (upd f n x) (n + 1) = rowL f n ++ [x] := by
  rw [rowL_succ, rowL_congr (g := f) (fun j hj => by simp only [upd_at]; rw [if_neg (by omega)])]
  simp [upd_at]
/-- what a dent's hands give, one after the other -/
def hL (W g : Nat → Int32) (c i : Nat) : List Int32 := ((List.range i).filter (fun h => decide (0 < W (8 * c + h)))).map g
theorem hL_s (W g : Nat → Int32) (c i : Nat) : hL W g c (i + 1) = if 0 < W (8 * c + i) then hL W g c i ++ [g i] else hL W g c i := by
  unfold hL
  rw [List.range_succ, List.filter_append, List.map_append]
  by_cases h : 0 < W (8 * c + i)
  · rw [if_pos h]; simp [h]
  · rw [if_neg h]; simp [h]
theorem hL_len (W g : Nat → Int32) (c : Nat) : ∀ i, (hL W g c i).length = cntR (fun h => 0 < W (8 * c + h)) i
  | 0 => rfl
  | i + 1 => by
    rw [hL_s]; unfold cntR
    by_cases h : 0 < W (8 * c + i)
    · rw [if_pos h, if_pos h, List.length_append, hL_len W g c i]; rfl
    · rw [if_neg h, if_neg h, hL_len W g c i]; rfl
theorem wsOf_hL (W : Nat → Int32) (c : Nat) : wsOf W c = hL W (fun h => W (8 * c + h)) c 8 := by
  unfold wsOf hL; rw [List.filter_map]; rfl
theorem ws_len (W : Nat → Int32) (c : Nat) : (wsOf W c).length = cntR (fun h => 0 < W (8 * c + h)) 8 := by rw [wsOf_hL, hL_len]
theorem ws_le (W : Nat → Int32) (c : Nat) : (wsOf W c).length ≤ 8 := by rw [ws_len]; exact cntR_le _ _
theorem cnt_cong {p q : Nat → Prop} [DecidablePred p] [DecidablePred q] : ∀ {n : Nat}, (∀ i, i < n → (p i ↔ q i)) → cntR p n = cntR q n
  | 0, _ => rfl
  | n + 1, h => by
    unfold cntR
    rw [cnt_cong (fun i hi => h i (by omega))]
    by_cases hp : p n
    · rw [if_pos hp, if_pos ((h n (by omega)).mp hp)]
    · rw [if_neg hp, if_neg (fun z => hp ((h n (by omega)).mpr z))]
theorem cnt_one {p q : Nat → Prop} [DecidablePred p] [DecidablePred q] {b : Nat} (h : ∀ i, i ≠ b → (p i ↔ q i)) (hb : q b) : ∀ {n : Nat}, b < n → cntR q n = cntR p n + (if p b then 0 else 1)
  | 0, hn => by omega
  | n + 1, hn => by
    unfold cntR
    by_cases e : n = b
    · subst e
      rw [cnt_cong (n := n) (p := q) (q := p) (fun i hi => (h i (by omega)).symm), if_pos hb]
      by_cases hp : p n
      · rw [if_pos hp, if_pos hp]
      · rw [if_neg hp, if_neg hp]
    · rw [cnt_one h hb (show b < n by omega)]
      by_cases hp : p n
      · rw [if_pos hp, if_pos ((h n e).mp hp)]; omega
      · rw [if_neg hp, if_neg (fun z => hp ((h n e).mpr z))]; omega
theorem ix8 (c h : Nat) : nI c * 8 + nI h = nI (8 * c + h) := by rw [show (8 : Int32) = nI 8 from rfl, pk_mul, nI_add, Nat.mul_comm]
theorem ix8' (c h : Nat) : 8 * nI c + nI h = nI (8 * c + h) := by rw [show (8 : Int32) = nI 8 from rfl, pk_mul, nI_add]
/-- filling a row -/
theorem fill9 (N : Nat) (Q : UU → Prop) (x : Int32) : ∀ (f i : Nat) (u : UU), i ≤ 2400 → 2400 < i + f → (∀ p, p < i → u.2.1 9 p = x) → (∀ w, frA u w → w.2.1 10 = u.2.1 10 → (∀ p, p < 2400 → w.2.1 9 p = x) → Q w) → m_J7_fill_53178_p22_5 N Q f x (nI i) 2400 u := by
  intro f
  induction f with
  | zero => intro i u h1 h2; omega
  | succ f ih =>
    intro i u h1 h2 h3 hQ
    rw [m_J7_fill_53178_p22_5]
    by_cases hi : i = 2400
    · subst hi; rw [if_pos (by decide)]; exact hQ u (frA_rf u) rfl h3
    · rw [if_neg (show ¬ (2400 : Int32) ≤ nI i from nI_ge (b := 2400) (by omega) (by omega))]
      refine ⟨vp_in_nI (by omega) (by omega), fun u1 e1 z2 e2 => ?_⟩
      rw [e2, nI_1]; subst e1; rw [cl_nI (by omega)]
      refine ih (i + 1) _ (by omega) (by omega) (fun p hp => ?_) (fun w hw h10 h => hQ w (frA_tr (frA_sA u 9 _ (by omega) (by omega)) hw) (h10.trans rfl) h)
      simp only [sA_21, if_true, upd_at]
      by_cases e : p = i
      · rw [if_pos e]
      · rw [if_neg e]; exact h3 p (by omega)
theorem fill10 (N : Nat) (Q : UU → Prop) (x : Int32) : ∀ (f i : Nat) (u : UU), i ≤ 300 → 300 < i + f → (∀ p, p < i → u.2.1 10 p = x) → (∀ w, frA u w → w.2.1 9 = u.2.1 9 → (∀ p, p < 300 → w.2.1 10 p = x) → Q w) → m_J7_fill_53178_p23_5 N Q f x (nI i) 300 u := by
  intro f
  induction f with
  | zero => intro i u h1 h2; omega
  | succ f ih =>
    intro i u h1 h2 h3 hQ
    rw [m_J7_fill_53178_p23_5]
    by_cases hi : i = 300
    · subst hi; rw [if_pos (by decide)]; exact hQ u (frA_rf u) rfl h3
    · rw [if_neg (show ¬ (300 : Int32) ≤ nI i from nI_ge (b := 300) (by omega) (by omega))]
      refine ⟨vp_in_nI (by omega) (by omega), fun u1 e1 z2 e2 => ?_⟩
      rw [e2, nI_1]; subst e1; rw [cl_nI (by omega)]
      refine ih (i + 1) _ (by omega) (by omega) (fun p hp => ?_) (fun w hw h9 h => hQ w (frA_tr (frA_sA u 10 _ (by omega) (by omega)) hw) (h9.trans rfl) h)
      simp only [sA_21, if_true, upd_at]
      by_cases e : p = i
      · rw [if_pos e]
      · rw [if_neg e]; exact h3 p (by omega)
/-- the dents, placed -/
theorem place_ok (N : Nat) (Q : UU → Prop) (kb k : Nat) (hkb : kb ≤ 30) (hk : k ≤ 300) (h : Int32) (cl hd wd kn : Nat → Int32) (D : DOK kb k cl hd wd) :
    ∀ (f i : Nat) (u : UU), i ≤ k → k < i + f → u.1 3 = nI k → u.1 4 = h → u.2.1 3 = cl → u.2.1 4 = hd → u.2.1 5 = wd → u.2.1 6 = kn → (∀ p, p < 2400 → u.2.1 9 p = wdF h cl hd wd kn i p) → (∀ c, c < 300 → u.2.1 10 c = nI (wsOf (wdF h cl hd wd kn i) c).length) →
      (∀ w, frA u w → (∀ p, p < 2400 → w.2.1 9 p = wdF h cl hd wd kn k p) → (∀ c, c < 300 → w.2.1 10 c = nI (wsOf (wdF h cl hd wd kn k) c).length) → Q w) → m_X10_placeWidths_18 N Q f (nI i) u := by
  intro f
  induction f with
  | zero => intro i u h1 h2; omega
  | succ f ih =>
    intro i u h1 h2 e3 e4 a3 a4 a5 a6 h9 h10 hQ
    rw [m_X10_placeWidths_18, e3]
    by_cases hi : i = k
    · subst hi; rw [if_pos (nI_le (Nat.le_refl _) (by omega))]; exact hQ u (frA_rf u) h9 h10
    · rw [if_neg (nI_ge (by omega) (by omega))]
      have hin : vp_in (nI i) 300 := vp_in_nI (by omega) (by omega)
      refine ⟨hin, ?_⟩
      simp only [m_X10_placeWidths_76, forall_eq, nI_1, cl_nI (show i < 2 ^ 31 by omega), e4, a3, a4, a5, a6]
      obtain ⟨a, b, ha, hb, c1, c2, c3, c4⟩ := D i (by omega)
      by_cases hc : kn i ≤ h
      case neg =>
        rw [if_pos (by grind)]
        have ew : wdF h cl hd wd kn (i + 1) = wdF h cl hd wd kn i := by conv => lhs; unfold wdF; rw [if_neg hc]
        refine ih (i + 1) u (by omega) (by omega) e3 e4 a3 a4 a5 a6 (by rw [ew]; exact h9) (by rw [ew]; exact h10) hQ
      rw [if_neg (by grind)]
      refine ⟨hin, hin, hin, ?_⟩
      have ew : wdF h cl hd wd kn (i + 1) = upd (wdF h cl hd wd kn i) (8 * a + b) (wd i) := by
        conv => lhs; unfold wdF; rw [if_pos hc, c1, c2, cl_nI (show a < 2 ^ 31 by omega), cl_nI (show b < 2 ^ 31 by omega)]
      unfold m_X10_placeWidth m_X10_placeWidth_46
      rw [isCell_eq, c1, c2, if_neg (fun q => bi_0.mp q ⟨nI_pos' (by omega), nI_le (b := 299) (by omega) (by omega)⟩)]
      rw [isIn_eq, if_neg (fun q => bi_0.mp q ⟨nI_pos' (by omega), nI_le (b := 7) (by omega) (by omega)⟩)]
      simp only [forall_eq, ix8, cl_nI (show 8 * a + b < 2 ^ 31 by omega), cl_nI (show a < 2 ^ 31 by omega)]
      have hin2 : vp_in (nI (8 * a + b)) 2400 := vp_in_nI (by omega) (by omega)
      have hin3 : vp_in (nI a) 300 := vp_in_nI (by omega) (by omega)
      refine ⟨hin2, ?_⟩
      rw [h9 (8 * a + b) (by omega)]
      have hW := wd_rng D i (by omega) (8 * a + b) (h := h) (kn := kn)
      have other : ∀ c, c ≠ a → (wsOf (upd (wdF h cl hd wd kn i) (8 * a + b) (wd i)) c).length = (wsOf (wdF h cl hd wd kn i) c).length := by
        intro c hca
        rw [ws_len, ws_len]
        refine cnt_cong (fun x hx => ?_)
        simp only [upd_at]; rw [if_neg (by omega)]
      have mine : (wsOf (upd (wdF h cl hd wd kn i) (8 * a + b) (wd i)) a).length = (wsOf (wdF h cl hd wd kn i) a).length + (if 0 < wdF h cl hd wd kn i (8 * a + b) then 0 else 1) := by
        rw [ws_len, ws_len]
        refine cnt_one (b := b) (p := fun x => 0 < wdF h cl hd wd kn i (8 * a + x)) (q := fun x => 0 < upd (wdF h cl hd wd kn i) (8 * a + b) (wd i) (8 * a + x)) (fun x hx => ?_) ?_ (by omega)
        · simp only [upd_at]; rw [if_neg (by omega)]
        · simp only [upd_at, if_true]; grind
      by_cases hz : wdF h cl hd wd kn i (8 * a + b) = 0
      · rw [if_pos hz]
        refine ⟨hin3, hin3, hin2, ?_⟩
        refine ih (i + 1) _ (by omega) (by omega) e3 e4 a3 a4 a5 a6 (fun p hp => ?_) (fun c hcc => ?_) (fun w hw => hQ w (frA_tr (frA_tr (frA_sA u 10 _ (by omega) (by omega)) (frA_sA _ 9 _ (by omega) (by omega))) hw))
        · rw [ew]; simp only [sA_21, if_true, upd_at, if_neg (show ¬ 9 = 10 by decide)]
          split
          · rfl
          · exact h9 p hp
        · rw [ew]; simp only [sA_21, if_true, upd_at, if_neg (show ¬ 10 = 9 by decide)]
          by_cases e : c = a
          · subst e
            rw [if_pos rfl, mine, if_neg (by rw [hz]; decide), h10 c hcc, nI_1]
          · rw [if_neg e, other c e]; exact h10 c hcc
      · rw [if_neg hz]
        refine ⟨hin2, ?_⟩
        refine ih (i + 1) _ (by omega) (by omega) e3 e4 a3 a4 a5 a6 (fun p hp => ?_) (fun c hcc => ?_) (fun w hw => hQ w (frA_tr (frA_sA u 9 _ (by omega) (by omega)) hw))
        · rw [ew]; simp only [sA_21, if_true, upd_at]
          split
          · rfl
          · exact h9 p hp
        · rw [ew]; simp only [sA_21, if_neg (show ¬ 10 = 9 by decide)]
          by_cases e : c = a
          · subst e
            rw [mine, if_pos (by grind), Nat.add_zero]; exact h10 c hcc
          · rw [other c e]; exact h10 c hcc
/-- the middle of a dent's widths, as told or less the leanings -/
theorem less_ok (N : Nat) (hN : 4000 ≤ N) (Q : Int32 → UU → Prop) (c : Nat) (hc : c < 300) (fl : Int32) (W g : Nat → Int32) :
    ∀ (f i : Nat) (u : UU), i ≤ 8 → 8 < i + f → (∀ h, h < 8 → u.2.1 9 (8 * c + h) = W (8 * c + h)) → (∀ h, h < 8 → g h = if fl = 0 then W (8 * c + h) else W (8 * c + h) - u.2.1 12 h) → rowL (u.2.1 13) (hL W g c i).length = hL W g c i →
      (∀ r, Q (if (hL W g c 8).length = 0 then 0 else mid (hL W g c 8)) (sA u 13 r)) → m_X10_middleLess_5 N Q f (nI c) fl (nI (hL W g c i).length) (nI i) u := by
  intro f
  induction f with
  | zero => intro i u h1 h2; omega
  | succ f ih =>
    intro i u h1 h2 hW hg hr hQ
    have hle : (hL W g c i).length ≤ i := by rw [hL_len]; exact cntR_le _ _
    rw [m_X10_middleLess_5]
    by_cases hi : i = 8
    · subst hi
      rw [if_pos (by decide)]
      refine middleRow_ok N hN Q _ (by omega) u (fun r => ?_)
      rw [hr]; exact hQ r
    · rw [if_neg (show ¬ (8 : Int32) ≤ nI i from nI_ge (b := 8) (by omega) (by omega)), ix8]
      refine ⟨vp_in_nI (by omega) (by omega), ?_⟩
      simp only [forall_eq, cl_nI (show 8 * c + i < 2 ^ 31 by omega), hW i (by omega), m_X10_middleLess_59, m_X10_middleLess_55, nI_1, cl_nI (show i < 2 ^ 31 by omega)]
      by_cases hz : W (8 * c + i) ≤ 0
      · rw [if_pos hz]
        have e := hL_s W g c i
        rw [if_neg (by grind)] at e
        have := ih (i + 1) u (by omega) (by omega) hW hg (by rw [e]; exact hr) hQ
        rw [e] at this; exact this
      · rw [if_neg hz]
        have e := hL_s W g c i
        rw [if_pos (by grind)] at e
        have hin : vp_in (nI (hL W g c i).length) 300 := vp_in_nI (by omega) (by omega)
        have go : ∀ y, y = g i → m_X10_middleLess_5 N Q f (nI c) fl (nI ((hL W g c i).length + 1)) (nI (i + 1)) (sA u 13 (upd (u.2.1 13) (nI (hL W g c i).length).toNatClampNeg y)) := by
          intro y hy
          subst hy
          have := ih (i + 1) (sA u 13 (upd (u.2.1 13) (nI (hL W g c i).length).toNatClampNeg (g i))) (by omega) (by omega) hW hg (by
            rw [e, List.length_append, List.length_singleton, cl_nI (by omega)]
            simp only [sA_21, if_true]
            rw [row_push, hr]) (fun r => by rw [sA_sA]; exact hQ r)
          rw [e, List.length_append, List.length_singleton] at this
          exact this
        by_cases hf0 : fl = 0
        · rw [if_pos hf0]
          exact ⟨hin, go _ (by rw [hg i (by omega), if_pos hf0])⟩
        · rw [if_neg hf0]
          exact ⟨vp_in_nI (by omega) (by omega), hin, go _ (by rw [hg i (by omega), if_neg hf0])⟩
theorem middleLess_ok (N : Nat) (hN : 4000 ≤ N) (Q : Int32 → UU → Prop) (c : Nat) (hc : c < 300) (fl : Int32) (W g : Nat → Int32) (u : UU) (hW : ∀ h, h < 8 → u.2.1 9 (8 * c + h) = W (8 * c + h)) (hg : ∀ h, h < 8 → g h = if fl = 0 then W (8 * c + h) else W (8 * c + h) - u.2.1 12 h)
    (hQ : ∀ r, Q (if (hL W g c 8).length = 0 then 0 else mid (hL W g c 8)) (sA u 13 r)) : m_X10_middleLess N (nI c) fl u Q := by
  unfold m_X10_middleLess
  exact less_ok N hN Q c hc fl W g N 0 u (by omega) (by omega) hW hg rfl hQ
/-- the raw widths -/
theorem raws_ok (N : Nat) (hN : 4000 ≤ N) (Q : UU → Prop) (n : Nat) (hn : n ≤ 300) (W : Nat → Int32) :
    ∀ (f i : Nat) (u : UU), i ≤ n → n < i + f → (∀ p, p < 2400 → u.2.1 9 p = W p) → (∀ c, c < 300 → u.2.1 10 c = nI (wsOf W c).length) → (∀ c, c < i → (wsOf W c).length ≠ 0 → u.2.1 11 c = rawF W c) →
      (∀ w, frA u w → (∀ p, p < 2400 → w.2.1 9 p = W p) → (∀ c, c < 300 → w.2.1 10 c = nI (wsOf W c).length) → (∀ c, c < n → (wsOf W c).length ≠ 0 → w.2.1 11 c = rawF W c) → m_X10_show_68 N Q N (0 : Int32) w) → m_X10_show_30 N Q f (nI n) (nI i) u := by
  intro f
  induction f with
  | zero => intro i u h1 h2; omega
  | succ f ih =>
    intro i u h1 h2 h9 h10 h11 hQ
    rw [m_X10_show_30]
    by_cases hi : i = n
    · subst hi; rw [if_pos (nI_le (Nat.le_refl _) (by omega))]; exact hQ u (frA_rf u) h9 h10 h11
    · rw [if_neg (nI_ge (by omega) (by omega))]
      have hin : vp_in (nI i) 300 := vp_in_nI (by omega) (by omega)
      refine ⟨hin, ?_⟩
      rw [cl_nI (by omega), h10 i (by omega)]
      have next : ∀ (y : Int32) (w : UU), frA u w → (∀ p, p < 2400 → w.2.1 9 p = W p) → (∀ c, c < 300 → w.2.1 10 c = nI (wsOf W c).length) → (∀ c, c < i → (wsOf W c).length ≠ 0 → w.2.1 11 c = rawF W c) → ((wsOf W i).length ≠ 0 → y = rawF W i) → m_X10_show_59 N (fun x2 x3 u => m_X10_show_30 N Q f x2 x3 u) (nI n) (nI i) (nI i) y w Q := by
        intro y w hw g9 g10 g11 hy
        unfold m_X10_show_59
        refine ⟨hin, fun u1 e1 z2 e2 => ?_⟩
        rw [e2, nI_1]; subst e1; rw [cl_nI (by omega)]
        refine ih (i + 1) _ (by omega) (by omega) g9 g10 (fun c hc hl => ?_) (fun w2 hw2 => hQ w2 (frA_tr hw (frA_tr (frA_sA w 11 _ (by omega) (by omega)) hw2)))
        simp only [sA_21, if_true, upd_at]
        by_cases e : c = i
        · rw [if_pos e]; subst e; exact hy hl
        · rw [if_neg e]; exact g11 c (by omega) hl
      by_cases hz : (wsOf W i).length = 0
      · rw [if_pos (by rw [hz]; rfl)]
        exact next _ u (frA_rf u) h9 h10 h11 (fun q => absurd hz q)
      · rw [if_neg (nI_ne0 (by omega) (by have := ws_le W i; omega))]
        refine middleLess_ok N hN _ i (by omega) 0 W (fun h => W (8 * i + h)) u (fun h hh => h9 _ (by omega)) (fun h hh => by rw [if_pos rfl]) (fun r => ?_)
        rw [← wsOf_hL, if_neg hz]
        exact next _ _ (frA_sA u 13 r (by omega) (by omega)) h9 h10 h11 (fun _ => rfl)
/-- a hand's leaning -/
def lnL (W : Nat → Int32) (h i : Nat) : List Int32 := ((List.range i).filter (fun c => decide (0 < W (8 * c + h)) && decide (1 < (wsOf W c).length))).map (fun c => W (8 * c + h) - rawF W c)
theorem lnL_s (W : Nat → Int32) (h i : Nat) : lnL W h (i + 1) = if 0 < W (8 * i + h) ∧ 1 < (wsOf W i).length then lnL W h i ++ [W (8 * i + h) - rawF W i] else lnL W h i := by
  unfold lnL
  rw [List.range_succ, List.filter_append, List.map_append]
  by_cases q : 0 < W (8 * i + h) ∧ 1 < (wsOf W i).length
  · rw [if_pos q]; simp [q.1, q.2]
  · rw [if_neg q]
    have : (decide (0 < W (8 * i + h)) && decide (1 < (wsOf W i).length)) = false := by
      by_cases a : 0 < W (8 * i + h)
      · have b : ¬ 1 < (wsOf W i).length := fun b => q ⟨a, b⟩
        simp [a, b]
      · simp [a]
    simp [this]
theorem lnL_le (W : Nat → Int32) (h : Nat) : ∀ i, (lnL W h i).length ≤ i
  | 0 => Nat.le_refl _
  | i + 1 => by
    have := lnL_le W h i
    rw [lnL_s]; split
    · rw [List.length_append, List.length_singleton]; omega
    · omega
theorem lnL_out (W : Nat → Int32) (h : Nat) (hh : h < 8) (m : Nat) (hW : ∀ p, 8 * m ≤ p → W p = 0) : ∀ d, lnL W h (m + d) = lnL W h m
  | 0 => rfl
  | d + 1 => by
    rw [← Nat.add_assoc, lnL_s, if_neg, lnL_out W h hh m hW d]
    rintro ⟨a, -⟩
    rw [hW _ (by omega)] at a
    exact absurd a (by decide)
theorem lean_ok (N : Nat) (hN : 4000 ≤ N) (Q : Int32 → UU → Prop) (h n : Nat) (hh : h < 8) (hn : n ≤ 300) (W : Nat → Int32) :
    ∀ (f i : Nat) (u : UU), i ≤ n → n < i + f → (∀ p, p < 2400 → u.2.1 9 p = W p) → (∀ c, c < 300 → u.2.1 10 c = nI (wsOf W c).length) → (∀ c, c < n → (wsOf W c).length ≠ 0 → u.2.1 11 c = rawF W c) → rowL (u.2.1 13) (lnL W h i).length = lnL W h i →
      (∀ r, Q (if (lnL W h n).length = 0 then 0 else mid (lnL W h n)) (sA u 13 r)) → m_X10_findLeaning_10 N Q f (nI h) (nI (lnL W h i).length) (nI n) (nI i) u := by
  intro f
  induction f with
  | zero => intro i u h1 h2; omega
  | succ f ih =>
    intro i u h1 h2 h9 h10 h11 hr hQ
    have hle := lnL_le W h i
    rw [m_X10_findLeaning_10]
    by_cases hi : i = n
    · subst hi
      rw [if_pos (nI_le (Nat.le_refl _) (by omega))]
      refine middleRow_ok N hN Q _ (by omega) u (fun r => ?_)
      rw [hr]; exact hQ r
    · rw [if_neg (nI_ge (by omega) (by omega))]
      refine ⟨vp_in_nI (by omega) (by omega), ?_⟩
      rw [cl_nI (by omega), h10 i (by omega), ix8, cl_nI (by omega), h9 _ (by omega)]
      have skip : ¬ (0 < W (8 * i + h) ∧ 1 < (wsOf W i).length) → m_X10_findLeaning_10 N Q f (nI h) (nI (lnL W h i).length) (nI n) (nI (i + 1)) u := by
        intro q
        have e := lnL_s W h i
        rw [if_neg q] at e
        have := ih (i + 1) u (by omega) (by omega) h9 h10 h11 (by rw [e]; exact hr) hQ
        rw [e] at this; exact this
      have h8 := ws_le W i
      by_cases h2' : 1 < (wsOf W i).length
      · rw [if_pos (show (2 : Int32) ≤ nI (wsOf W i).length from nI_le (a := 2) (by omega) (by omega))]
        refine ⟨vp_in_nI (by omega) (by omega), ?_⟩
        unfold m_X10_findLeaning_43 m_X10_findLeaning_69
        simp only [forall_eq, nI_1]
        by_cases hz : W (8 * i + h) ≤ 0
        · rw [if_pos hz]; exact skip (fun q => by have := q.1; grind)
        · rw [if_neg hz]
          have e := lnL_s W h i
          rw [if_pos ⟨by grind, h2'⟩] at e
          refine ⟨vp_in_nI (by omega) (by omega), vp_in_nI (by omega) (by omega), ?_⟩
          have := ih (i + 1) (sA u 13 (upd (u.2.1 13) (lnL W h i).length (W (8 * i + h) - rawF W i))) (by omega) (by omega) h9 h10 h11 (by
            rw [e, List.length_append, List.length_singleton]
            simp only [sA_21, if_true]
            rw [row_push, hr]) (fun r => by rw [sA_sA]; exact hQ r)
          rw [e, List.length_append, List.length_singleton] at this
          rw [cl_nI (by omega), cl_nI (by omega), h11 i (by omega) (by omega)]
          exact this
      · rw [if_neg (show ¬ (2 : Int32) ≤ nI (wsOf W i).length from nI_ge (b := 2) (by omega) (by omega))]
        unfold m_X10_findLeaning_43 m_X10_findLeaning_69
        simp only [forall_eq, nI_1]
        rw [if_pos (by decide)]
        exact skip (fun q => h2' q.2)
theorem cells_eq (N : Nat) (u : UU) (Q : Int32 → UU → Prop) {kb : Nat} (hkb : kb ≤ 30) (hu : u.1 2 = nI kb) : m_X10_cellsInUse N u Q ↔ Q (nI (10 * kb)) u := by
  unfold m_X10_cellsInUse
  have e : u.1 2 * 10 = nI (10 * kb) := by rw [hu, show (10 : Int32) = nI 10 from rfl, pk_mul, Nat.mul_comm]
  rw [e]
  by_cases h : 10 * kb < 300
  · rw [if_pos (show nI (10 * kb) < 300 from nI_lt (b := 300) h (by omega))]
  · have e3 : 10 * kb = 300 := by omega
    rw [e3]; rw [if_neg (by decide)]; exact Iff.rfl
theorem leans_ok (N : Nat) (hN : 4000 ≤ N) (Q : UU → Prop) (kb : Nat) (hkb : kb ≤ 30) (W : Nat → Int32) (hout : ∀ p, 80 * kb ≤ p → W p = 0) :
    ∀ (f i : Nat) (u : UU), i ≤ 8 → 8 < i + f → u.1 2 = nI kb → (∀ p, p < 2400 → u.2.1 9 p = W p) → (∀ c, c < 300 → u.2.1 10 c = nI (wsOf W c).length) → (∀ c, c < 10 * kb → (wsOf W c).length ≠ 0 → u.2.1 11 c = rawF W c) → (∀ h, h < i → u.2.1 12 h = leanF W h) →
      (∀ w, frA u w → (∀ p, p < 2400 → w.2.1 9 p = W p) → (∀ c, c < 300 → w.2.1 10 c = nI (wsOf W c).length) → (∀ c, c < 10 * kb → (wsOf W c).length ≠ 0 → w.2.1 11 c = rawF W c) → (∀ h, h < 8 → w.2.1 12 h = leanF W h) → Q w) → m_X10_show_68 N Q f (nI i) u := by
  intro f
  induction f with
  | zero => intro i u h1 h2; omega
  | succ f ih =>
    intro i u h1 h2 e2 h9 h10 h11 h12 hQ
    rw [m_X10_show_68]
    by_cases hi : i = 8
    · subst hi; rw [if_pos (by decide)]; exact hQ u (frA_rf u) h9 h10 h11 h12
    · rw [if_neg (show ¬ (8 : Int32) ≤ nI i from nI_ge (b := 8) (by omega) (by omega))]
      unfold m_X10_findLeaning
      rw [cells_eq N u _ hkb e2]
      refine lean_ok N hN _ i (10 * kb) (by omega) (by omega) W N 0 u (by omega) (by omega) h9 h10 h11 rfl (fun r => ?_)
      refine ⟨vp_in_nI (by omega) (by omega), fun u3 e3 z4 e4 => ?_⟩
      rw [e4, nI_1]; subst e3; rw [cl_nI (by omega)]
      have el : (if (lnL W i (10 * kb)).length = 0 then (0 : Int32) else mid (lnL W i (10 * kb))) = leanF W i := by
        have := lnL_out W i (by omega) (10 * kb) (fun p hp => hout p (by omega)) (300 - 10 * kb)
        rw [show 10 * kb + (300 - 10 * kb) = 300 by omega] at this
        rw [← this]; rfl
      rw [el]
      refine ih (i + 1) _ (by omega) (by omega) e2 h9 h10 h11 (fun h hh => ?_) (fun w hw => hQ w (frA_tr (frA_tr (frA_sA u 13 r (by omega) (by omega)) (frA_sA _ 12 _ (by omega) (by omega))) hw))
      simp only [sA_21, if_true, upd_at]
      by_cases e : h = i
      · rw [if_pos e]; rw [e]
      · rw [if_neg e]; exact h12 h (by omega)
/-- the rows stand for the widths W -/
def Shw (W : Nat → Int32) (u : UU) : Prop := (∀ p, p < 2400 → u.2.1 9 p = W p) ∧ (∀ c, c < 300 → u.2.1 10 c = nI (wsOf W c).length ∧ ((wsOf W c).length ≠ 0 → u.2.1 11 c = rawF W c)) ∧ ∀ h, h < 8 → u.2.1 12 h = leanF W h
/-- show leaves all but its own rows and its two numbers -/
def frS (u w : UU) : Prop := (∀ j, j ≠ 4 → j ≠ 5 → w.1 j = u.1 j) ∧ (∀ j, (j < 9 ∨ 13 < j) → w.2.1 j = u.2.1 j) ∧ w.2.2 = u.2.2
theorem ws_out {W : Nat → Int32} {kb : Nat} (hout : ∀ p, 80 * kb ≤ p → W p = 0) {c : Nat} (hc : 10 * kb ≤ c) : (wsOf W c).length = 0 := by
  rw [ws_len, cnt_cong (q := fun _ => False) (fun i hi => ?_)]
  · have : ∀ n, cntR (fun _ => False) n = 0 := by
      intro n; induction n with
      | zero => rfl
      | succ n ih => unfold cntR; rw [ih]; rfl
    exact this 8
  · rw [hout _ (by omega)]; exact ⟨fun h => absurd h (by decide), fun h => h.elim⟩
theorem show_ok (N : Nat) (hN : 4000 ≤ N) (Q : UU → Prop) (x : Int32) (hx : 0 ≤ x ∧ x ≤ 1000) (u : UU) (kb k : Nat) (hkb : kb ≤ 30) (hk : k ≤ 300) (e2 : u.1 2 = nI kb) (e3 : u.1 3 = nI k) (D : DOK kb k (u.2.1 3) (u.2.1 4) (u.2.1 5))
    (hV : RV (u.1 5) (u.1 3) (u.2.1 3) (u.2.1 4) (u.2.1 5) (u.2.1 6) (u.2.1 9) (u.2.1 10) (u.2.1 11) (u.2.1 12))
    (hQ : ∀ w, frS u w → w.1 4 = x → w.1 5 = x → Shw (wdF x (u.2.1 3) (u.2.1 4) (u.2.1 5) (u.2.1 6) k) w → Q w) : m_X10_show N x u Q := by
  unfold m_X10_show
  intro u1 a1
  by_cases hc : u1.1 5 = x
  · rw [if_pos hc]
    have e5 : u.1 5 = x := by rw [a1] at hc; exact hc
    rcases hV with q | ⟨-, k', hk', ek, q1, q2, q3⟩
    · rw [e5] at q; exfalso; have := hx.1; grind
    · refine hQ u1 ⟨fun j h4 h5 => ?_, fun j hj => by rw [a1]; rfl, by rw [a1]; rfl⟩ (by rw [a1]; rfl) hc ?_
      · rw [a1]; simp only [sI_1, if_neg h4]
      · have : k' = k := (nI_eq (by omega) (by omega)).mp (ek.symm.trans e3)
        subst this
        rw [e5] at q1 q2 q3
        rw [a1]
        exact ⟨q1, q2, q3⟩
  · rw [if_neg hc]
    intro u2 a2
    unfold m_X10_placeWidths m_J7_fill_53178_p22 m_J7_fill_53178_p23
    have f2 : frS u u2 := ⟨fun j h4 h5 => by rw [a2, a1]; simp only [sI_1, if_neg h4, if_neg h5], fun j hj => by rw [a2, a1]; rfl, by rw [a2, a1]; rfl⟩
    have i4 : u2.1 4 = x := by rw [a2, a1]; rfl
    have i5 : u2.1 5 = x := by rw [a2]; rfl
    have g3 : u2.2.1 3 = u.2.1 3 := f2.2.1 3 (by omega)
    have g4 : u2.2.1 4 = u.2.1 4 := f2.2.1 4 (by omega)
    have g5 : u2.2.1 5 = u.2.1 5 := f2.2.1 5 (by omega)
    have g6 : u2.2.1 6 = u.2.1 6 := f2.2.1 6 (by omega)
    have j2 : u2.1 2 = nI kb := (f2.1 2 (by omega) (by omega)).trans e2
    have j3 : u2.1 3 = nI k := (f2.1 3 (by omega) (by omega)).trans e3
    refine fill9 N _ 0 N 0 u2 (by omega) (by omega) (fun p hp => by omega) (fun w1 b1 b2 b3 => ?_)
    refine fill10 N _ 0 N 0 w1 (by omega) (by omega) (fun p hp => by omega) (fun w2 c1 c2 c3 => ?_)
    have fw2 := frA_tr b1 c1
    refine place_ok N _ kb k hkb hk x (u.2.1 3) (u.2.1 4) (u.2.1 5) (u.2.1 6) D N 0 w2 (by omega) (by omega) (by rw [fw2.1]; exact j3) (by rw [fw2.1]; exact i4) ((fw2.2.1 3 (by omega)).trans g3) ((fw2.2.1 4 (by omega)).trans g4) ((fw2.2.1 5 (by omega)).trans g5) ((fw2.2.1 6 (by omega)).trans g6) (fun p hp => by rw [c2, b3 p hp]; rfl) (fun c hcc => ?_) (fun w3 d1 d2 d3 => ?_)
    · rw [c3 c hcc, ws_out (W := wdF x (u.2.1 3) (u.2.1 4) (u.2.1 5) (u.2.1 6) 0) (kb := 0) (fun p hp => rfl) (by omega)]; rfl
    · have fw3 := frA_tr fw2 d1
      have hout := wd_out hkb D k (Nat.le_refl _) (h := x) (kn := u.2.1 6)
      rw [cells_eq N w3 _ hkb (by rw [fw3.1]; exact j2)]
      refine raws_ok N hN Q (10 * kb) (by omega) _ N 0 w3 (by omega) (by omega) d2 d3 (fun c hcc => by omega) (fun w4 l1 l2 l3 l4 => ?_)
      have fw4 := frA_tr fw3 l1
      refine leans_ok N hN Q kb hkb _ hout N 0 w4 (by omega) (by omega) (by rw [fw4.1]; exact j2) l2 l3 l4 (fun h hh => by omega) (fun w5 m1 m2 m3 m4 m5 => ?_)
      have fw5 := frA_tr fw4 m1
      refine hQ w5 ⟨fun j h4 h5 => by rw [fw5.1]; exact f2.1 j h4 h5, fun j hj => (fw5.2.1 j hj).trans (f2.2.1 j hj), fw5.2.2.trans f2.2.2⟩ (by rw [fw5.1]; exact i4) (by rw [fw5.1]; exact i5) ⟨m2, fun c hcc => ⟨m3 c hcc, fun hl => ?_⟩, m5⟩
      by_cases hcb : c < 10 * kb
      · exact m4 c hcb hl
      · exact absurd (ws_out hout (by omega)) hl
