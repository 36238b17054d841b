/-! the reference reads a rule -/
def MA (acc : List (Nat × Nat × Nat × Nat)) (v : UU) : Prop := v.1 11 = nI acc.length ∧ ∀ k, k < acc.length → v.2.1 23 (4 * k) = nI (acc.getD k (0, 0, 0, 0)).1 ∧ v.2.1 23 (4 * k + 1) = nI (acc.getD k (0, 0, 0, 0)).2.1 ∧ v.2.1 23 (4 * k + 2) = nI (acc.getD k (0, 0, 0, 0)).2.2.1 ∧ v.2.1 23 (4 * k + 3) = nI (acc.getD k (0, 0, 0, 0)).2.2.2
def frY (u w : UU) : Prop := (∀ j, j ≠ 11 → ¬ (13 ≤ j ∧ j ≤ 17) → w.1 j = u.1 j) ∧ ∀ j, j ≠ 23 → w.2.1 j = u.2.1 j
theorem frY_rf (u : UU) : frY u u := ⟨fun _ _ _ => rfl, fun _ _ => rfl⟩
theorem frY_tr {a b c : UU} (h1 : frY a b) (h2 : frY b c) : frY a c := ⟨fun j p q => (h2.1 j p q).trans (h1.1 j p q), fun j p => (h2.2 j p).trans (h1.2 j p)⟩
theorem frY_N {u w : UU} (h : frN u w) : frY u w := ⟨fun j p q => h.1 j (by omega), fun j p => by rw [h.2]⟩
theorem frY_TM {u w : UU} {B : Nat → Int32} {T : Nat} (h : frY u w) (t : TM u B T) : TM w B T := ⟨(h.1 12 (by omega) (by omega)).trans t.1, by rw [h.2 24 (by omega)]; exact t.2.1, t.2.2⟩
theorem frY_bd (v : UU) (st : Nat) : frY v (bd v st) := ⟨fun j p q => by unfold bd; rw [sI_1, if_neg (by omega), sI_1, if_neg (by omega)], fun _ _ => rfl⟩
theorem bd_17 (v : UU) (st : Nat) : (bd v st).1 17 = 1 := rfl
theorem bd_16 (v : UU) (st : Nat) : (bd v st).1 16 = nI st := rfl
theorem MA_N {acc : List (Nat × Nat × Nat × Nat)} {u w : UU} (h : frN u w) (m : MA acc u) : MA acc w := by
  unfold MA at *; rw [h.1 11 (by omega), h.2]; exact m
theorem r175_bad (N : Nat) (Q : UU → Prop) (v : UU) (x1 x2 x3 x4 : Int32) (e17 : v.1 17 = 1) (h : Q v) : m_X12_readRule_175 N x1 x2 x3 x4 v Q := by
  unfold m_X12_readRule_175
  rw [if_neg (by rw [e17]; decide)]; exact h
theorem r175_ok (N : Nat) (Q : UU → Prop) (acc : List (Nat × Nat × Nat × Nat)) (ha : acc.length < 20) (i a b c : Nat) (v : UU) (e17 : v.1 17 = 0) (ma : MA acc v) (hQ : ∀ w, frY v w → (∀ j, 13 ≤ j ∧ j ≤ 17 → w.1 j = v.1 j) → w.2.2 = v.2.2 → MA (acc ++ [(i, a, b, c)]) w → Q w) : m_X12_readRule_175 N (nI i) (nI a) (nI b) (nI c) v Q := by
  obtain ⟨m11, mE⟩ := ma
  unfold m_X12_readRule_175
  rw [if_pos e17, m11]
  have e4 : (4 : Int32) * nI acc.length = nI (4 * acc.length) := by rw [show (4 : Int32) = nI 4 from rfl, pk_mul]
  have e41 : nI (4 * acc.length) + 1 = nI (4 * acc.length + 1) := nI_1 _
  have e42 : nI (4 * acc.length) + 2 = nI (4 * acc.length + 2) := nI_add _ 2
  have e43 : nI (4 * acc.length) + 3 = nI (4 * acc.length + 3) := nI_add _ 3
  rw [e4]
  refine ⟨vp_in_nI (by omega) (by omega), fun u1 q1 => ?_⟩
  have g1 : u1.1 11 = nI acc.length := by rw [q1]; exact m11
  rw [g1, e4, e41]
  refine ⟨vp_in_nI (by omega) (by omega), fun u2 q2 => ?_⟩
  have g2 : u2.1 11 = nI acc.length := by rw [q2]; exact g1
  rw [g2, e4, e42]
  refine ⟨vp_in_nI (by omega) (by omega), fun u3 q3 => ?_⟩
  have g3 : u3.1 11 = nI acc.length := by rw [q3]; exact g2
  rw [g3, e4, e43]
  refine ⟨vp_in_nI (by omega) (by omega), fun u4 q4 u5 q5 => ?_⟩
  have g4 : u4.1 11 = nI acc.length := by rw [q4]; exact g3
  rw [g4, nI_1] at q5
  rw [cl_nI (by omega)] at q1 q2 q3 q4
  have el : (acc ++ [(i, a, b, c)]).length = acc.length + 1 := by simp
  refine hQ u5 ⟨fun j p q => ?_, fun j p => ?_⟩ (fun j p => ?_) (by rw [q5, q4, q3, q2, q1]; rfl) ⟨by rw [el, q5]; rfl, fun k hk => ?_⟩
  · rw [q5, sI_1, if_neg p, q4, q3, q2, q1]; rfl
  · rw [q5, sI_2, q4, sA_21, if_neg p, q3, sA_21, if_neg p, q2, sA_21, if_neg p, q1, sA_21, if_neg p]
  · rw [q5, sI_1, if_neg (by omega), q4, q3, q2, q1]; rfl
  · rw [el] at hk
    have h23 : ∀ j, u5.2.1 23 j = if j = 4 * acc.length + 3 then nI c else if j = 4 * acc.length + 2 then nI b else if j = 4 * acc.length + 1 then nI a else if j = 4 * acc.length then nI i else v.2.1 23 j := by
      intro j; rw [q5, q4, q3, q2, q1]; rfl
    rw [h23, h23, h23, h23]
    by_cases e : k = acc.length
    · subst e
      rw [if_neg (by omega), if_neg (by omega), if_neg (by omega), if_pos rfl, if_neg (by omega), if_neg (by omega), if_pos rfl, if_neg (by omega), if_pos rfl, if_pos rfl]
      rw [show (acc ++ [(i, a, b, c)]).getD acc.length (0, 0, 0, 0) = (i, a, b, c) by rw [List.getD_eq_getElem?_getD, List.getElem?_append_right (Nat.le_refl _), Nat.sub_self]; rfl]
      exact ⟨rfl, rfl, rfl, rfl⟩
    · have hk' : k < acc.length := by omega
      rw [if_neg (by omega), if_neg (by omega), if_neg (by omega), if_neg (by omega), if_neg (by omega), if_neg (by omega), if_neg (by omega), if_neg (by omega), if_neg (by omega), if_neg (by omega), if_neg (by omega), if_neg (by omega), if_neg (by omega), if_neg (by omega), if_neg (by omega), if_neg (by omega)]
      rw [show (acc ++ [(i, a, b, c)]).getD k (0, 0, 0, 0) = acc.getD k (0, 0, 0, 0) by rw [List.getD_eq_getElem?_getD, List.getD_eq_getElem?_getD, List.getElem?_append_left hk']]
      exact mE k hk'
theorem r106_bad (N : Nat) (Q : UU → Prop) (v : UU) (x : Int32) (e17 : v.1 17 = 1) (h : Q v) : m_X12_readRule_106 N x v Q := by
  unfold m_X12_readRule_106
  refine number_bad N _ v e17 (fun r => ?_)
  split
  · refine isWord_any N _ v _ _ _ _ _ (fun r4 => ?_)
    refine must_bad N _ v _ e17 ?_
    refine number_bad N _ v e17 (fun r8 => ?_)
    rw [if_neg (by rw [e17]; decide)]
    exact r175_bad N Q v _ _ _ _ e17 h
  · exact r175_bad N Q v _ _ _ _ e17 h
theorem r82_bad (N : Nat) (hN : 4000 ≤ N) (Q : UU → Prop) (B : Nat → Int32) (T st : Nat) (v : UU) (tm : TM v B T) (ms : MS B T st v) (e17 : v.1 17 = 0) (x : Int32) (h : Q (bd v st)) : m_X12_readRule_82 N x 0 v Q := by
  unfold m_X12_readRule_82
  refine must_ok N hN _ B T st v tm ms e17 false (fun q => absurd q (by decide)) (fun _ => ?_)
  split
  · refine isWord_any N _ _ _ _ _ _ _ (fun r4 => ?_)
    refine must_bad N _ _ _ (bd_17 v st) ?_
    exact r106_bad N Q _ _ (bd_17 v st) h
  · exact r106_bad N Q _ _ (bd_17 v st) h
theorem MS_c {B : Nat → Int32} {T st : Nat} {v w : UU} (h : ∀ j, 13 ≤ j ∧ j ≤ 17 → w.1 j = v.1 j) (hl : w.2.2 = v.2.2) (ms : MS B T st v) : MS B T st w := ⟨ms.1, (h 13 (by omega)).trans ms.2.1, (h 14 (by omega)).trans ms.2.2.1, (h 15 (by omega)).trans ms.2.2.2.1, by rw [hl]; exact ms.2.2.2.2⟩
/-- a rule's last numbers are read: it is written down -/
theorem r175_fin (N : Nat) (Q : UU → Prop) (B : Nat → Int32) (T : Nat) (acc : List (Nat × Nat × Nat × Nat)) (ha : acc.length < 20) (RR : Nat ⊕ ((Nat × Nat × Nat × Nat) × Nat)) (v w : UU) (f : frN v w) (e17 : v.1 17 = 0) (ma : MA acc v) (i a b c s : Nat) (e : RR = .inr ((i, a, b, c), s)) (ms : MS B T s w) (hK : ∀ r s, RR = .inr (r, s) → ∀ w, frY v w → w.1 17 = 0 → w.1 16 = v.1 16 → MS B T s w → MA (acc ++ [r]) w → Q w) : m_X12_readRule_175 N (nI i) (nI a) (nI b) (nI c) w Q := by
  have w17 : w.1 17 = 0 := (f.1 17 (by omega)).trans e17
  refine r175_ok N Q acc ha i a b c w w17 (MA_N f ma) (fun y fy hy hl my => ?_)
  exact hK _ _ e y (frY_tr (frY_N f) fy) ((hy 17 (by omega)).trans w17) ((hy 16 (by omega)).trans (f.1 16 (by omega))) (MS_c hy hl ms) my
theorem r82_loss (N : Nat) (hN : 4000 ≤ N) (Q : UU → Prop) (B : Nat → Int32) (T st : Nat) (acc : List (Nat × Nat × Nat × Nat)) (ha : acc.length < 20) (v : UU) (tm : TM v B T) (ms : MS B T st v) (e17 : v.1 17 = 0) (ma : MA acc v) (h0 : isWb B T 0 st = true)
    (hE : ∀ p, rdRule B T st = .inl p → ∀ w, frY v w → w.1 17 = 1 → w.1 16 = nI p → Q w) (hK : ∀ r s, rdRule B T st = .inr (r, s) → ∀ w, frY v w → w.1 17 = 0 → w.1 16 = v.1 16 → MS B T s w → MA (acc ++ [r]) w → Q w) : m_X12_readRule_82 N 0 1 v Q := by
  have hT := tm.2.2
  unfold m_X12_readRule_82
  refine must_ok N hN _ B T st v tm ms e17 true (fun _ w1 f1 m1 => ?_) (fun q => absurd q (by decide))
  rw [if_neg (by decide)]
  unfold m_X12_readRule_106
  have w1_17 : w1.1 17 = 0 := (f1.1 17 (by omega)).trans e17
  refine number_ok N hN _ B T _ w1 (frN_TM f1 tm) m1 w1_17 (fun a ea w2 f2 m2 => ?_) (fun ea x => ?_)
  rotate_left
  · rw [if_pos rfl]
    refine isWord_any N _ _ _ _ _ _ _ (fun r4 => ?_)
    refine must_bad N _ _ _ (bd_17 _ _) ?_
    refine number_bad N _ _ (bd_17 _ _) (fun r8 => ?_)
    rw [if_neg (by rw [bd_17]; decide)]
    refine r175_bad N Q _ _ _ _ _ (bd_17 _ _) ?_
    exact hE _ (by simp [rdRule, rdNum, h0, ea]) _ (frY_tr (frY_N f1) (frY_bd w1 _)) (bd_17 _ _) (bd_16 _ _)
  rw [if_pos rfl]
  have f12 := frN_tr f1 f2
  have w2_17 : w2.1 17 = 0 := (f12.1 17 (by omega)).trans e17
  refine isWord4_ok N _ B T _ 1 hT (by omega) w2 m2 _ _ _ _ (by decide) (by decide) (by decide +kernel) ?_
  refine must_ok N hN _ B T _ w2 (frN_TM f12 tm) m2 w2_17 (isWb B T 1 (nx B T (nx B T st))) (fun h1 w3 f3 m3 => ?_) (fun h1 => ?_)
  rotate_left
  · refine number_bad N _ _ (bd_17 _ _) (fun r8 => ?_)
    rw [if_neg (by rw [bd_17]; decide)]
    refine r175_bad N Q _ _ _ _ _ (bd_17 _ _) ?_
    exact hE _ (by simp [rdRule, rdNum, rdWord, h0, ea, h1]) _ (frY_tr (frY_N f12) (frY_bd w2 _)) (bd_17 _ _) (bd_16 _ _)
  have f13 := frN_tr f12 f3
  have w3_17 : w3.1 17 = 0 := (f13.1 17 (by omega)).trans e17
  refine number_ok N hN _ B T _ w3 (frN_TM f13 tm) m3 w3_17 (fun b eb w4 f4 m4 => ?_) (fun eb x => ?_)
  rotate_left
  · rw [if_neg (by rw [bd_17]; decide)]
    refine r175_bad N Q _ _ _ _ _ (bd_17 _ _) ?_
    exact hE _ (by simp [rdRule, rdNum, rdWord, h0, ea, h1, eb]) _ (frY_tr (frY_N f13) (frY_bd w3 _)) (bd_17 _ _) (bd_16 _ _)
  have f14 := frN_tr f13 f4
  have w4_17 : w4.1 17 = 0 := (f14.1 17 (by omega)).trans e17
  rw [if_pos w4_17]
  refine isWord4_ok N _ B T _ 2 hT (by omega) w4 m4 _ _ _ _ (by decide) (by decide) (by decide +kernel) ?_
  by_cases h2 : isWb B T 2 (nx B T (nx B T (nx B T (nx B T st)))) = true
  · rw [if_neg (by rw [h2]; decide)]
    refine nextT N hN _ B T _ w4 (frN_TM f14 tm) m4 (fun w5 f5 m5 => ?_)
    have f15 := frN_tr f14 f5
    have w5_17 : w5.1 17 = 0 := (f15.1 17 (by omega)).trans e17
    refine number_ok N hN _ B T _ w5 (frN_TM f15 tm) m5 w5_17 (fun c ec w6 f6 m6 => ?_) (fun ec x => ?_)
    · exact r175_fin N Q B T acc ha _ v w6 (frN_tr f15 f6) e17 ma 0 a b c _ (by simp [rdRule, rdNum, rdWord, h0, ea, h1, eb, h2, ec]) m6 hK
    · refine r175_bad N Q _ _ _ _ _ (bd_17 _ _) ?_
      exact hE _ (by simp [rdRule, rdNum, rdWord, h0, ea, h1, eb, h2, ec]) _ (frY_tr (frY_N f15) (frY_bd w5 _)) (bd_17 _ _) (bd_16 _ _)
  · have h2' : isWb B T 2 (nx B T (nx B T (nx B T (nx B T st)))) = false := by simpa using h2
    rw [if_pos (by rw [h2']; decide)]
    exact r175_fin N Q B T acc ha _ v w4 f14 e17 ma 0 a b 0 _ (by simp [rdRule, rdNum, rdWord, h0, ea, h1, eb, h2']) m4 hK
theorem r106_one (N : Nat) (hN : 4000 ≤ N) (Q : UU → Prop) (B : Nat → Int32) (T s i : Nat) (hi : i = 1 ∨ i = 2) (acc : List (Nat × Nat × Nat × Nat)) (ha : acc.length < 20) (RR : Nat ⊕ ((Nat × Nat × Nat × Nat) × Nat)) (v w : UU) (f : frN v w) (tm : TM v B T) (ms : MS B T s w) (e17 : v.1 17 = 0) (ma : MA acc v) (hRR : RR = rdNum B T s (fun a s3 => .inr ((i, a, 0, 0), s3)))
    (hE : ∀ p, RR = .inl p → ∀ w, frY v w → w.1 17 = 1 → w.1 16 = nI p → Q w) (hK : ∀ r s, RR = .inr (r, s) → ∀ w, frY v w → w.1 17 = 0 → w.1 16 = v.1 16 → MS B T s w → MA (acc ++ [r]) w → Q w) : m_X12_readRule_106 N (nI i) w Q := by
  unfold m_X12_readRule_106
  have w17 : w.1 17 = 0 := (f.1 17 (by omega)).trans e17
  have ni : ¬ nI i = 0 := nI_ne0 (by omega) (by omega)
  refine number_ok N hN _ B T _ w (frN_TM f tm) ms w17 (fun a ea w2 f2 m2 => ?_) (fun ea x => ?_)
  · rw [if_neg ni]
    exact r175_fin N Q B T acc ha RR v w2 (frN_tr f f2) e17 ma i a 0 0 _ (by rw [hRR]; simp [rdNum, ea]) m2 hK
  · rw [if_neg ni]
    refine r175_bad N Q _ _ _ _ _ (bd_17 _ _) ?_
    exact hE _ (by rw [hRR]; simp [rdNum, ea]) _ (frY_tr (frY_N f) (frY_bd w _)) (bd_17 _ _) (bd_16 _ _)
theorem mreadRule_ok (N : Nat) (hN : 4000 ≤ N) (Q : UU → Prop) (B : Nat → Int32) (T st : Nat) (acc : List (Nat × Nat × Nat × Nat)) (ha : acc.length ≤ 20) (v : UU) (tm : TM v B T) (ms : MS B T st v) (e17 : v.1 17 = 0) (ma : MA acc v)
    (hF : acc.length = 20 → ∀ w, frY v w → w.1 17 = 1 → w.1 16 = nI st → Q w)
    (hE : acc.length < 20 → ∀ p, rdRule B T st = .inl p → ∀ w, frY v w → w.1 17 = 1 → w.1 16 = nI p → Q w) (hK : acc.length < 20 → ∀ r s, rdRule B T st = .inr (r, s) → ∀ w, frY v w → w.1 17 = 0 → w.1 16 = v.1 16 → MS B T s w → MA (acc ++ [r]) w → Q w) : m_X12_readRule N v Q := by
  have hT := tm.2.2
  have g62 : ∀ (i : Nat), i < 3 → (acc.length < 20 → m_X12_readRule_82 N (nI i) 1 v Q) → m_X12_readRule_62 N (nI i) v Q := by
    intro i hi h
    unfold m_X12_readRule_62 m_X12_readRule_81
    rw [if_neg (nI_pos (by omega)), ma.1]
    by_cases c : acc.length = 20
    · rw [if_pos (show (20 : Int32) ≤ nI acc.length by rw [c]; decide)]
      exact r82_bad N hN Q B T st v tm ms e17 _ (hF c _ (frY_bd v st) (bd_17 v st) (bd_16 v st))
    · rw [if_neg (show ¬ (20 : Int32) ≤ nI acc.length from nI_ge (b := 20) (by omega) (by omega))]
      exact h (by omega)
  unfold m_X12_readRule
  refine isWord4_ok N _ B T st 0 hT (by omega) v ms _ _ _ _ (by decide) (by decide) (by decide +kernel) ?_
  by_cases h0 : isWb B T 0 st = true
  · rw [if_neg (by rw [h0]; decide)]
    exact g62 0 (by omega) (fun hl => r82_loss N hN Q B T st acc hl v tm ms e17 ma h0 (hE hl) (hK hl))
  have h0' : isWb B T 0 st = false := by simpa using h0
  rw [if_pos (by rw [h0']; decide)]
  refine isWord5_ok N _ B T st 3 hT (by omega) v ms _ _ _ _ _ (by decide) (by decide) (by decide) (by decide +kernel) ?_
  by_cases h3 : isWb B T 3 st = true
  · rw [if_neg (by rw [h3]; decide)]
    refine g62 1 (by omega) (fun hl => ?_)
    unfold m_X12_readRule_82
    refine must_ok N hN _ B T st v tm ms e17 true (fun _ w1 f1 m1 => ?_) (fun q => absurd q (by decide))
    rw [if_pos (show nI 1 = 1 from rfl)]
    have w1_17 : w1.1 17 = 0 := (f1.1 17 (by omega)).trans e17
    refine isWord3_ok N _ B T _ 4 hT (by omega) w1 m1 _ _ _ (by decide) (by decide +kernel) ?_
    refine must_ok N hN _ B T _ w1 (frN_TM f1 tm) m1 w1_17 (isWb B T 4 (nx B T st)) (fun h4 w2 f2 m2 => ?_) (fun h4 => ?_)
    · exact r106_one N hN Q B T _ 1 (Or.inl rfl) acc hl (rdRule B T st) v w2 (frN_tr f1 f2) tm m2 e17 ma (by simp [rdRule, rdWord, h0', h3, h4]) (hE hl) (hK hl)
    · refine r106_bad N Q _ _ (bd_17 _ _) ?_
      exact hE hl _ (by simp [rdRule, rdWord, h0', h3, h4]) _ (frY_tr (frY_N f1) (frY_bd w1 _)) (bd_17 _ _) (bd_16 _ _)
  have h3' : isWb B T 3 st = false := by simpa using h3
  rw [if_pos (by rw [h3']; decide)]
  refine isWord4_ok N _ B T st 5 hT (by omega) v ms _ _ _ _ (by decide) (by decide) (by decide +kernel) ?_
  by_cases h5 : isWb B T 5 st = true
  · rw [if_neg (by rw [h5]; decide)]
    refine g62 2 (by omega) (fun hl => ?_)
    unfold m_X12_readRule_82
    refine must_ok N hN _ B T st v tm ms e17 true (fun _ w1 f1 m1 => ?_) (fun q => absurd q (by decide))
    rw [if_neg (show ¬ nI 2 = 1 by decide)]
    exact r106_one N hN Q B T _ 2 (Or.inr rfl) acc hl (rdRule B T st) v w1 f1 tm m1 e17 ma (by simp [rdRule, h0', h3', h5]) (hE hl) (hK hl)
  have h5' : isWb B T 5 st = false := by simpa using h5
  rw [if_pos (by rw [h5']; decide)]
  unfold m_X12_readRule_62 m_X12_readRule_81
  rw [if_pos (by decide)]
  refine r82_bad N hN Q B T st v tm ms e17 _ ?_
  by_cases c : acc.length = 20
  · exact hF c _ (frY_bd v st) (bd_17 v st) (bd_16 v st)
  · exact hE (by omega) st (by simp [rdRule, h0', h3', h5']) _ (frY_bd v st) (bd_17 v st) (bd_16 v st)
