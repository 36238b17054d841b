/-! what the class answers from its view -/
theorem mid_nil : mid [] = 0 := rfl
theorem mid_if (l : List Int32) : (if l.length = 0 then (0 : Int32) else mid l) = mid l := by
  by_cases h : l.length = 0
  · rw [if_pos h, List.length_eq_zero_iff.mp h]; rfl
  · rw [if_neg h]
def mx (a b : Int32) : Int32 := if a < b then b else a
def trL (W : Nat → Int32) (c : Nat) : List Int32 := hL W (fun h => W (8 * c + h) - leanF W h) c 8
def trueF (W : Nat → Int32) (c : Nat) : Int32 := mx 1 (mid (trL W c))
def bestK (tw : Nat → Int32) (w : Int32) : Nat → Option Nat
  | 0 => none
  | i + 1 => if w < tw i then bestK tw w i else match bestK tw w i with
    | none => some i
    | some j => if tw i < tw j then some j else some i
def oI (o : Option Nat) : Int32 := match o with
  | none => -1
  | some j => nI j
def szF (tw ts : Nat → Int32) (w : Int32) : Int32 := match bestK tw w 8 with
  | none => 0
  | some j => ts j
theorem bestK_lt (tw : Nat → Int32) (w : Int32) : ∀ i j, bestK tw w i = some j → j < i
  | 0, j, h => by simp [bestK] at h
  | i + 1, j, h => by
    unfold bestK at h
    split at h
    · have := bestK_lt tw w i j h; omega
    · split at h
      · cases h; omega
      · rename_i j' e
        have := bestK_lt tw w i j' e
        split at h <;> cases h <;> omega
theorem bestK_cong {tw tw' : Nat → Int32} (w : Int32) : ∀ i, (∀ k, k < i → tw k = tw' k) → bestK tw w i = bestK tw' w i
  | 0, _ => rfl
  | i + 1, h => by
    have ih := bestK_cong w i (fun k hk => h k (by omega))
    unfold bestK
    rw [ih, h i (by omega)]
    split
    · rfl
    · split
      · rfl
      · rename_i j e
        rw [h j (by have := bestK_lt _ _ _ _ e; omega)]
theorem szF_cong {tw ts tw' ts' : Nat → Int32} (h : ∀ k, k < 8 → tw k = tw' k ∧ ts k = ts' k) (w : Int32) : szF tw ts w = szF tw' ts' w := by
  unfold szF
  rw [bestK_cong w 8 (fun k hk => (h k hk).1)]
  split
  · rfl
  · rename_i j e; exact (h j (bestK_lt _ _ _ _ e)).2
theorem szF_rng {tw ts : Nat → Int32} (h : ∀ k, k < 8 → 0 ≤ ts k ∧ ts k ≤ 100) (w : Int32) : 0 ≤ szF tw ts w ∧ szF tw ts w ≤ 100 := by
  unfold szF
  split
  · decide
  · rename_i j e; exact h j (bestK_lt _ _ _ _ e)
theorem sizeFor_loop (N : Nat) (Q : Int32 → UU → Prop) (w : Int32) (u : UU) (hQ : Q (szF (u.2.1 7) (u.2.1 8) w) u) : ∀ (f i : Nat), i ≤ 8 → 8 < i + f → m_X7_sizeFor_4 N Q f w (oI (bestK (u.2.1 7) w i)) (nI i) u
  | 0, i, h1, h2 => by omega
  | f + 1, i, h1, h2 => by
    rw [m_X7_sizeFor_4]
    by_cases hi : i = 8
    · subst hi
      rw [if_pos (by decide)]
      unfold szF at hQ
      cases e : bestK (u.2.1 7) w 8 with
      | none => rw [e] at hQ; rw [if_pos (show oI none = -1 from rfl)]; exact hQ
      | some j =>
        have hj := bestK_lt _ _ _ _ e
        rw [e] at hQ
        show if nI j = -1 then _ else _
        rw [if_neg (fun q => absurd (show ¬ nI j < 0 from nI_pos (by omega)) (by rw [q]; decide))]
        refine ⟨vp_in_nI hj (by omega), ?_⟩
        show Q (u.2.1 8 (nI j).toNatClampNeg) u
        rw [cl_nI (by omega)]; exact hQ
    · rw [if_neg (show ¬ (8 : Int32) ≤ nI i from nI_ge (b := 8) (by omega) (by omega))]
      have hin : vp_in (nI i) 8 := vp_in_nI (by omega) (by omega)
      refine ⟨hin, ?_⟩
      have ih := sizeFor_loop N Q w u hQ f (i + 1) (by omega) (by omega)
      simp only [m_X7_sizeFor_42, m_X7_sizeFor_40, forall_eq, nI_1, cl_nI (show i < 2 ^ 31 by omega)]
      unfold bestK at ih
      by_cases hc : w < u.2.1 7 i
      · rw [if_pos hc] at ih ⊢; exact ih
      · rw [if_neg hc] at ih ⊢
        cases e : bestK (u.2.1 7) w i with
        | none => rw [e] at ih; rw [if_pos (show oI none = -1 from rfl)]; exact ih
        | some j =>
          have hj := bestK_lt _ _ _ _ e
          rw [e] at ih
          show if nI j = -1 then _ else _
          rw [if_neg (fun q => absurd (show ¬ nI j < 0 from nI_pos (by omega)) (by rw [q]; decide))]
          refine ⟨hin, vp_in_nI (by omega) (by omega), ?_⟩
          have ej : (oI (some j)).toNatClampNeg = j := cl_nI (by omega)
          rw [ej]
          by_cases hd : u.2.1 7 i < u.2.1 7 j
          · rw [if_pos hd]; simp only [hd, if_true] at ih; exact ih
          · rw [if_neg hd]; simp only [hd, if_false] at ih; exact ih
theorem sizeFor_ok (N : Nat) (hN : 4000 ≤ N) (Q : Int32 → UU → Prop) (w : Int32) (u : UU) (hQ : Q (szF (u.2.1 7) (u.2.1 8) w) u) : m_X7_sizeFor N w u Q := sizeFor_loop N Q w u hQ N 0 (by omega) (by omega)
theorem Shw_row {W : Nat → Int32} {u : UU} (h : Shw W u) (r : Nat → Int32) : Shw W (sA u 13 r) := h
theorem ix10 (b n : Nat) : nI b * 10 + nI n = nI (10 * b + n) := by rw [show (10 : Int32) = nI 10 from rfl, pk_mul, nI_add, Nat.mul_comm]
theorem ix10' (b n : Nat) : 10 * nI b + nI n = nI (10 * b + n) := by rw [show (10 : Int32) = nI 10 from rfl, pk_mul, nI_add]
theorem cell_in {c : Nat} (hc : c < 300) : ¬ bi ((0 : Int32) ≤ nI c ∧ nI c ≤ 299) = 0 := fun q => bi_0.mp q ⟨nI_pos' (by omega), nI_le (b := 299) (by omega) (by omega)⟩
theorem hands_eq (N : Nat) (Q : Int32 → UU → Prop) (W : Nat → Int32) (u : UU) (h : Shw W u) (c : Nat) (hc : c < 300) : m_X10_handsOf N (nI c) u Q ↔ Q (nI (wsOf W c).length) u := by
  unfold m_X10_handsOf
  rw [isCell_eq, if_neg (cell_in hc), cl_nI (by omega), (h.2.1 c hc).1]
  exact ⟨fun q => q.2, fun q => ⟨vp_in_nI hc (by omega), q⟩⟩
theorem true_ok (N : Nat) (hN : 4000 ≤ N) (Q : Int32 → UU → Prop) (W : Nat → Int32) (u : UU) (h : Shw W u) (c : Nat) (hc : c < 300) (hQ : ∀ r, Q (trueF W c) (sA u 13 r)) : m_X10_trueWidth N (nI c) u Q := by
  unfold m_X10_trueWidth
  rw [isCell_eq, if_neg (cell_in hc)]
  refine middleLess_ok N hN _ c hc 1 W (fun h => W (8 * c + h) - leanF W h) u (fun x hx => h.1 _ (by omega)) (fun x hx => by rw [if_neg (by decide), h.2.2 x hx]) (fun r => ?_)
  rw [mid_if]; exact hQ r
def manyF (W : Nat → Int32) (b : Nat) : Nat := cntR (fun n => (wsOf W (10 * b + n)).length ≠ 0) 10
theorem many_loop (N : Nat) (Q : Int32 → UU → Prop) (W : Nat → Int32) (u : UU) (h : Shw W u) (b : Nat) (hb : b < 30) (hQ : Q (nI (manyF W b)) u) : ∀ (f i : Nat), i ≤ 10 → 10 < i + f → m_X10_many_4 N Q f (nI b) (nI (cntR (fun n => (wsOf W (10 * b + n)).length ≠ 0) i)) (nI i) u
  | 0, i, h1, h2 => by omega
  | f + 1, i, h1, h2 => by
    rw [m_X10_many_4]
    by_cases hi : i = 10
    · subst hi; rw [if_pos (by decide)]; exact hQ
    · rw [if_neg (show ¬ (10 : Int32) ≤ nI i from nI_ge (b := 10) (by omega) (by omega)), ix10, hands_eq N _ W u h _ (by omega)]
      have ih := many_loop N Q W u h b hb hQ f (i + 1) (by omega) (by omega)
      simp only [m_X10_many_26, forall_eq, nI_1]
      unfold cntR at ih
      by_cases hz : (wsOf W (10 * b + i)).length = 0
      · rw [if_pos (by rw [hz]; decide)]
        rw [if_neg (fun q => q hz), Nat.add_zero] at ih; exact ih
      · rw [if_neg (nI_nle (by omega) (by have := ws_le W (10 * b + i); omega))]
        rw [if_pos hz] at ih; exact ih
theorem many_ok (N : Nat) (hN : 4000 ≤ N) (Q : Int32 → UU → Prop) (W : Nat → Int32) (u : UU) (h : Shw W u) (b : Nat) (hb : b < 30) (hQ : Q (nI (manyF W b)) u) : m_X10_many N (nI b) u Q := many_loop N Q W u h b hb hQ N 0 (by omega) (by omega)
theorem manyF_le (W : Nat → Int32) (b : Nat) : manyF W b ≤ 10 := cntR_le _ _
def seenP (W : Nat → Int32) (hr cl : Int32) (b : Nat) : Prop := cl ≤ hr ∨ manyF W b ≠ 0
def seenF (W : Nat → Int32) (hr cl : Int32) (b : Nat) : Bool := decide (cl ≤ hr) || decide (manyF W b ≠ 0)
theorem isSeen_ok (N : Nat) (hN : 4000 ≤ N) (Q : Int32 → UU → Prop) (W : Nat → Int32) (u : UU) (h : Shw W u) (kb b : Nat) (hkb : kb ≤ 30) (hb : b < kb) (e2 : u.1 2 = nI kb) (hQ : Q (if seenF W (u.1 4) (u.2.1 2 b) b then 1 else 0) u) : m_X10_isSeen N (nI b) u Q := by
  unfold m_X10_isSeen m_X10_isSeen_35
  rw [has_eq, e2, if_neg (fun q => bi_0.mp q ((sub1_le (by omega)).mpr ⟨b, hb, rfl⟩))]
  refine ⟨vp_in_nI (by omega) (by omega), ?_⟩
  rw [cl_nI (by omega)]
  unfold seenF at hQ
  by_cases hc : u.2.1 2 b ≤ u.1 4
  · rw [if_pos hc]; simp only [hc, decide_true, Bool.true_or, if_true] at hQ; exact ⟨nb_1, hQ⟩
  · rw [if_neg hc]
    refine many_ok N hN _ W u h b (by omega) ?_
    by_cases hz : manyF W b = 0
    · rw [if_pos (by rw [hz]; decide)]
      refine ⟨nb_0, ?_⟩
      simpa [hc, hz] using hQ
    · rw [if_neg (nI_nle (by omega) (by have := manyF_le W b; omega))]
      refine ⟨nb_1, ?_⟩
      simpa [hc, hz] using hQ
def bsz (W tw ts : Nat → Int32) (b : Nat) : Nat → Int32
  | 0 => 0
  | i + 1 => if (wsOf W (10 * b + i)).length = 0 then bsz W tw ts b i else mx (bsz W tw ts b i) (szF tw ts (trueF W (10 * b + i)))
theorem bsz_rng {W tw ts : Nat → Int32} (h : ∀ k, k < 8 → 0 ≤ ts k ∧ ts k ≤ 100) (b : Nat) : ∀ i, 0 ≤ bsz W tw ts b i ∧ bsz W tw ts b i ≤ 100
  | 0 => by show (0 : Int32) ≤ 0 ∧ (0 : Int32) ≤ 100; decide
  | i + 1 => by
    have ih := bsz_rng h b i (W := W) (tw := tw)
    have q := szF_rng h (trueF W (10 * b + i)) (tw := tw)
    unfold bsz mx; split
    · exact ih
    · split
      · exact q
      · exact ih
theorem bsz_cong {W tw ts tw' ts' : Nat → Int32} (h : ∀ k, k < 8 → tw k = tw' k ∧ ts k = ts' k) (b : Nat) : ∀ i, bsz W tw ts b i = bsz W tw' ts' b i
  | 0 => rfl
  | i + 1 => by unfold bsz; rw [bsz_cong h b i, szF_cong h]
theorem bsize_loop (N : Nat) (hN : 4000 ≤ N) (Q : Int32 → UU → Prop) (W tw ts : Nat → Int32) (b : Nat) (hb : b < 30) : ∀ (f i : Nat) (u : UU), Shw W u → u.2.1 7 = tw → u.2.1 8 = ts → i ≤ 10 → 10 < i + f → (∀ r, Q (bsz W tw ts b 10) (sA u 13 r)) → m_X10_boardSize_4 N Q f (nI b) (bsz W tw ts b i) (nI i) u
  | 0, i, u, _, _, _, h1, h2, _ => by omega
  | f + 1, i, u, h, e7, e8, h1, h2, hQ => by
    rw [m_X10_boardSize_4]
    by_cases hi : i = 10
    · subst hi; rw [if_pos (by decide)]
      have := hQ (u.2.1 13); rw [sA_self] at this; exact this
    · rw [if_neg (show ¬ (10 : Int32) ≤ nI i from nI_ge (b := 10) (by omega) (by omega))]
      simp only [forall_eq, ix10, m_X10_boardSize_45, nI_1]
      rw [hands_eq N _ W u h _ (by omega)]
      by_cases hz : (wsOf W (10 * b + i)).length = 0
      · rw [if_pos (by rw [hz]; decide)]
        have ih := bsize_loop N hN Q W tw ts b hb f (i + 1) u h e7 e8 (by omega) (by omega) hQ
        unfold bsz at ih; rw [if_pos hz] at ih; exact ih
      · rw [if_neg (nI_nle (by omega) (by have := ws_le W (10 * b + i); omega))]
        refine true_ok N hN _ W u h _ (by omega) (fun r => ?_)
        refine sizeFor_ok N hN _ _ _ ?_
        have ih := bsize_loop N hN Q W tw ts b hb f (i + 1) (sA u 13 r) h e7 e8 (by omega) (by omega) (fun r2 => by rw [sA_sA]; exact hQ r2)
        unfold bsz at ih; rw [if_neg hz] at ih
        have e : szF ((sA u 13 r).2.1 7) ((sA u 13 r).2.1 8) (trueF W (10 * b + i)) = szF tw ts (trueF W (10 * b + i)) := by rw [← e7, ← e8]; rfl
        rw [e]; exact ih
theorem boardSize_ok (N : Nat) (hN : 4000 ≤ N) (Q : Int32 → UU → Prop) (W : Nat → Int32) (b : Nat) (hb : b < 30) (u : UU) (h : Shw W u) (hQ : ∀ r, Q (bsz W (u.2.1 7) (u.2.1 8) b 10) (sA u 13 r)) : m_X10_boardSize N (nI b) u Q :=
  bsize_loop N hN Q W _ _ b hb N 0 u h rfl rfl (by omega) (by omega) hQ
/-! spreads -/
def loF (W : Nat → Int32) (c : Nat) (s : Int32) : Nat → Int32
  | 0 => s
  | i + 1 => if W (8 * c + i) ≤ 0 then loF W c s i else if W (8 * c + i) < loF W c s i then W (8 * c + i) else loF W c s i
def hiF (W : Nat → Int32) (c : Nat) : Nat → Int32
  | 0 => 0
  | i + 1 => if W (8 * c + i) ≤ 0 then hiF W c i else mx (hiF W c i) (W (8 * c + i))
def spF (W : Nat → Int32) (c : Nat) : Int32 := if (wsOf W c).length = 0 then 0 else hiF W c 8 - loF W c 400 8
theorem spread_loop (N : Nat) (Q : Int32 → UU → Prop) (W : Nat → Int32) (u : UU) (h : Shw W u) (c : Nat) (hc : c < 300) (hQ : Q (hiF W c 8 - loF W c 400 8) u) : ∀ (f i : Nat), i ≤ 8 → 8 < i + f → m_X10_spread_19 N Q f (nI c) (loF W c 400 i) (hiF W c i) (nI i) u
  | 0, i, h1, h2 => by omega
  | f + 1, i, h1, h2 => by
    rw [m_X10_spread_19]
    by_cases hi : i = 8
    · subst hi; rw [if_pos (by decide)]; exact hQ
    · rw [if_neg (show ¬ (8 : Int32) ≤ nI i from nI_ge (b := 8) (by omega) (by omega)), ix8]
      refine ⟨vp_in_nI (by omega) (by omega), ?_⟩
      have ih := spread_loop N Q W u h c hc hQ f (i + 1) (by omega) (by omega)
      simp only [forall_eq, m_X10_spread_59, nI_1, cl_nI (show 8 * c + i < 2 ^ 31 by omega), h.1 (8 * c + i) (by omega)]
      unfold loF hiF at ih
      by_cases hz : W (8 * c + i) ≤ 0
      · rw [if_pos hz, if_pos hz] at ih; rw [if_pos hz]; exact ih
      · rw [if_neg hz, if_neg hz] at ih; rw [if_neg hz]; exact ih
theorem spread_ok (N : Nat) (hN : 4000 ≤ N) (Q : Int32 → UU → Prop) (W : Nat → Int32) (u : UU) (h : Shw W u) (c : Nat) (hc : c < 300) (hQ : Q (spF W c) u) : m_X10_spread N (nI c) u Q := by
  unfold m_X10_spread
  rw [hands_eq N _ W u h c hc]
  unfold spF at hQ
  by_cases hz : (wsOf W c).length = 0
  · rw [if_pos hz] at hQ; rw [if_pos (by rw [hz]; rfl)]; exact hQ
  · rw [if_neg hz] at hQ; rw [if_neg (nI_ne0 (by omega) (by have := ws_le W c; omega))]
    exact spread_loop N Q W u h c hc hQ N 0 (by omega) (by omega)
def qrF (W : Nat → Int32) (b : Nat) : Nat → Int32
  | 0 => 0
  | i + 1 => mx (qrF W b i) (spF W (10 * b + i))
theorem quarrel_loop (N : Nat) (hN : 4000 ≤ N) (Q : Int32 → UU → Prop) (W : Nat → Int32) (u : UU) (h : Shw W u) (b : Nat) (hb : b < 30) (hQ : Q (qrF W b 10) u) : ∀ (f i : Nat), i ≤ 10 → 10 < i + f → m_X11_quarrel_33 N Q f (nI b) (qrF W b i) (nI i) u
  | 0, i, h1, h2 => by omega
  | f + 1, i, h1, h2 => by
    rw [m_X11_quarrel_33]
    by_cases hi : i = 10
    · subst hi; rw [if_pos (by decide)]; exact hQ
    · rw [if_neg (show ¬ (10 : Int32) ≤ nI i from nI_ge (b := 10) (by omega) (by omega)), ix10]
      refine spread_ok N hN _ W u h _ (by omega) ?_
      have ih := quarrel_loop N hN Q W u h b hb hQ f (i + 1) (by omega) (by omega)
      simp only [forall_eq, nI_1]
      unfold qrF at ih; exact ih
