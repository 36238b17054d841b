/-! the class's map: the three nearest that are seen -/
def frC (u w : UU) : Prop := (∀ j, j ≠ 9 → w.1 j = u.1 j) ∧ ∀ j, j ≠ 13 → ¬ (15 ≤ j ∧ j ≤ 17) → w.2.1 j = u.2.1 j
theorem frC_rf (u : UU) : frC u u := ⟨fun _ _ => rfl, fun _ _ _ => rfl⟩
theorem frC_tr {a b c : UU} (h1 : frC a b) (h2 : frC b c) : frC a c := ⟨fun j p => (h2.1 j p).trans (h1.1 j p), fun j p q => (h2.2 j p q).trans (h1.2 j p q)⟩
theorem frC_sI (u : UU) (x : Int32) : frC u (sI u 9 x) := ⟨fun j p => by rw [sI_1, if_neg p], fun _ _ _ => rfl⟩
theorem frC_sA (u : UU) (k : Nat) (r : Nat → Int32) (h : k = 13 ∨ (15 ≤ k ∧ k ≤ 17)) : frC u (sA u k r) := ⟨fun _ _ => rfl, fun j p q => by rw [sA_21, if_neg (by omega)]⟩
theorem frC_shw {W : Nat → Int32} {u w : UU} (h : frC u w) (hS : Shw W u) : Shw W w := by
  unfold Shw at *; rw [h.2 9 (by omega) (by omega), h.2 10 (by omega) (by omega), h.2 11 (by omega) (by omega), h.2 12 (by omega) (by omega)]; exact hS
theorem frC_rel {u w v : UU} (hR : Rel u v) (h : frC u w) : Rel w v := by
  refine rel_U hR ⟨fun j hj => h.1 j (by omega), fun j hj => h.2 j (by omega) (by omega)⟩ ?_
  unfold RVu; rw [h.1 5 (by omega), h.1 3 (by omega), h.2 3 (by omega) (by omega), h.2 4 (by omega) (by omega), h.2 5 (by omega) (by omega), h.2 6 (by omega) (by omega), h.2 9 (by omega) (by omega), h.2 10 (by omega) (by omega), h.2 11 (by omega) (by omega), h.2 12 (by omega) (by omega)]
  exact hR.2.2.2.1
def NL (u : UU) (d : Nat → Int32) : List Nat → Prop
  | [] => u.1 9 = 0
  | [a] => u.1 9 = 1 ∧ u.2.1 15 0 = nI a ∧ u.2.1 16 0 = d a
  | [a, b] => u.1 9 = 2 ∧ (u.2.1 15 0 = nI a ∧ u.2.1 16 0 = d a) ∧ u.2.1 15 1 = nI b ∧ u.2.1 16 1 = d b
  | [a, b, c] => u.1 9 = 3 ∧ (u.2.1 15 0 = nI a ∧ u.2.1 16 0 = d a) ∧ (u.2.1 15 1 = nI b ∧ u.2.1 16 1 = d b) ∧ u.2.1 15 2 = nI c ∧ u.2.1 16 2 = d c
  | _ => False
def putN (u : UU) (k : Nat) (b x : Int32) : UU := sA (sA u 15 (upd (u.2.1 15) k b)) 16 (upd (u.2.1 16) k x)
theorem putN_15 (u : UU) (k : Nat) (b x : Int32) (j : Nat) : (putN u k b x).2.1 15 j = if j = k then b else u.2.1 15 j := rfl
theorem putN_16 (u : UU) (k : Nat) (b x : Int32) (j : Nat) : (putN u k b x).2.1 16 j = if j = k then x else u.2.1 16 j := rfl
theorem putN_1 (u : UU) (k : Nat) (b x : Int32) : (putN u k b x).1 = u.1 := rfl
theorem frC_put (u : UU) (k : Nat) (b x : Int32) : frC u (putN u k b x) := frC_tr (frC_sA u 15 _ (by omega)) (frC_sA _ 16 _ (by omega))
theorem i94 (N : Nat) (Q : UU → Prop) (b x : Int32) (k : Nat) (hk : k < 3) (u : UU) (h : Q (putN u k b x)) : m_X2_insert_94 N b x (nI k) u Q := by
  unfold m_X2_insert_94
  refine ⟨vp_in_nI hk (by omega), fun u1 e1 => ⟨vp_in_nI hk (by omega), fun u2 e2 => ?_⟩⟩
  rw [cl_nI (by omega)] at e1 e2
  rw [e2, e1]; exact h
theorem i44 (N : Nat) (Q : UU → Prop) (b x : Int32) (k : Nat) (hk : k + 1 < 3) (f : Nat) (u : UU) (h1 : u.2.1 16 k ≤ x → Q (putN u (k + 1) b x)) (h2 : ¬ u.2.1 16 k ≤ x → m_X2_insert_44 N Q f b x (nI k) (putN u (k + 1) (u.2.1 15 k) (u.2.1 16 k))) : m_X2_insert_44 N Q (f + 1) b x (nI (k + 1)) u := by
  rw [m_X2_insert_44, if_neg (nI_nle (by omega) (by omega)), nI_sub1]
  refine ⟨vp_in_nI (by omega) (by omega), ?_⟩
  rw [cl_nI (by omega)]
  by_cases hc : u.2.1 16 k ≤ x
  · rw [if_pos hc]; exact i94 N Q b x (k + 1) hk u (h1 hc)
  · rw [if_neg hc]
    refine ⟨vp_in_nI (by omega) (by omega), vp_in_nI hk (by omega), fun u1 e1 => ⟨vp_in_nI (by omega) (by omega), vp_in_nI hk (by omega), fun u2 e2 z ez => ?_⟩⟩
    rw [cl_nI (by omega)] at e1 e2
    rw [ez, pk_m1, e2, e1]; exact h2 hc
theorem i44_0 (N : Nat) (Q : UU → Prop) (b x : Int32) (f : Nat) (u : UU) (h : Q (putN u 0 b x)) : m_X2_insert_44 N Q (f + 1) b x (nI 0) u := by
  rw [m_X2_insert_44, if_pos (by decide)]; exact i94 N Q b x 0 (by omega) u h
theorem insert_ok (N : Nat) (hN : 4000 ≤ N) (Q : UU → Prop) (d : Nat → Int32) (b : Nat) (L : List Nat) (hs : L.Pairwise (ltD d)) (u : UU) (h : NL u d L) (hQ : ∀ w, frC u w → NL w d ((insD d b L).take 3) → Q w) : m_X2_insert N (nI b) (d b) u Q := by
  obtain ⟨f, rfl⟩ : ∃ f, N = f + 1 + 1 + 1 := ⟨N - 3, by omega⟩
  unfold m_X2_insert m_X2_insert_19 m_X2_insert_37
  match L, hs, h, hQ with
  | [], hs, h, hQ =>
    have h9 : u.1 9 = 0 := h
    rw [h9, if_neg (by decide), if_neg (by decide)]
    intro u1 e1 z ez
    have : z = nI 0 := by rw [ez, e1, sI_1, if_pos rfl]; rfl
    rw [this]
    refine i44_0 _ _ _ _ _ _ (hQ _ (by rw [e1]; exact frC_tr (frC_sI u _) (frC_put _ _ _ _)) ?_)
    rw [e1]; exact ⟨rfl, rfl, rfl⟩
  | [a], hs, h, hQ =>
    obtain ⟨h9, ha⟩ := h
    rw [h9, if_neg (by decide), if_neg (by decide)]
    intro u1 e1 z ez
    have : z = nI 1 := by rw [ez, e1, sI_1, if_pos rfl]; rfl
    have f1 : frC u u1 := by rw [e1]; exact frC_sI u _
    have g15 : u1.2.1 15 = u.2.1 15 := by rw [e1]; rfl
    have g16 : u1.2.1 16 = u.2.1 16 := by rw [e1]; rfl
    have g9 : u1.1 9 = 2 := by rw [e1]; rfl
    rw [this]
    unfold insD at hQ
    refine i44 _ _ _ _ 0 (by omega) _ _ (fun q => hQ _ (frC_tr f1 (frC_put _ _ _ _)) ?_) (fun q => i44_0 _ _ _ _ _ _ (hQ _ (frC_tr f1 (frC_tr (frC_put _ _ _ _) (frC_put _ _ _ _))) ?_))
    · rw [g16, ha.2] at q
      rw [if_pos q]
      simp only [insD, List.take, NL, putN_15, putN_16, putN_1, g9, g15, g16, ha]
      exact ⟨by trivial, ⟨by trivial, by trivial⟩, by trivial, by trivial⟩
    · rw [g16, ha.2] at q
      rw [if_neg q]
      simp only [insD, List.take, NL, putN_15, putN_16, putN_1, g9, g15, g16, ha]
      exact ⟨by trivial, ⟨by trivial, by trivial⟩, by trivial, by trivial⟩
  | [a, c], hs, h, hQ =>
    obtain ⟨h9, ha, hc⟩ := h
    rw [h9, if_neg (by decide), if_neg (by decide)]
    intro u1 e1 z ez
    have : z = nI 2 := by rw [ez, e1, sI_1, if_pos rfl]; rfl
    have f1 : frC u u1 := by rw [e1]; exact frC_sI u _
    have g15 : u1.2.1 15 = u.2.1 15 := by rw [e1]; rfl
    have g16 : u1.2.1 16 = u.2.1 16 := by rw [e1]; rfl
    have g9 : u1.1 9 = 3 := by rw [e1]; rfl
    have hac : d a ≤ d c := by
      rcases (List.pairwise_cons.mp hs).1 c (by simp) with q | ⟨q, -⟩ <;> grind
    rw [this]
    simp only [insD] at hQ
    refine i44 _ _ _ _ 1 (by omega) _ _ (fun q => hQ _ (frC_tr f1 (frC_put _ _ _ _)) ?_) (fun q => i44 _ _ _ _ 0 (by omega) _ _ (fun q2 => hQ _ (frC_tr f1 (frC_tr (frC_put _ _ _ _) (frC_put _ _ _ _))) ?_) (fun q2 => i44_0 _ _ _ _ _ _ (hQ _ (frC_tr f1 (frC_tr (frC_tr (frC_put _ _ _ _) (frC_put _ _ _ _)) (frC_put _ _ _ _))) ?_)))
    · rw [g16, hc.2] at q
      rw [if_pos (show d a ≤ d b by grind), if_pos q]
      simp only [List.take, NL, putN_15, putN_16, putN_1, g9, g15, g16, ha, hc]
      exact ⟨by trivial, ⟨by trivial, by trivial⟩, ⟨by trivial, by trivial⟩, by trivial, by trivial⟩
    · rw [g16, hc.2] at q
      simp only [putN_16, g16, ha.2, Nat.reduceEqDiff, reduceIte, if_false] at q2
      rw [if_pos (by simpa using q2), if_neg q]
      simp only [List.take, NL, putN_15, putN_16, putN_1, g9, g15, g16, ha, hc]
      exact ⟨by trivial, ⟨by trivial, by trivial⟩, ⟨by trivial, by trivial⟩, by trivial, by trivial⟩
    · rw [g16, hc.2] at q
      simp only [putN_16, g16, ha.2, Nat.reduceEqDiff, reduceIte, if_false] at q2
      rw [if_neg (by simpa using q2)]
      simp only [List.take, NL, putN_15, putN_16, putN_1, g9, g15, g16, ha, hc]
      exact ⟨by trivial, ⟨by trivial, by trivial⟩, ⟨by trivial, by trivial⟩, by trivial, by trivial⟩
  | [a, c, e], hs, h, hQ =>
    have hh := h
    obtain ⟨h9, ha, hc, he⟩ := h
    have hac : d a ≤ d c := by
      rcases (List.pairwise_cons.mp hs).1 c (by simp) with q | ⟨q, -⟩ <;> grind
    have hce : d c ≤ d e := by
      rcases (List.pairwise_cons.mp (List.pairwise_cons.mp hs).2).1 e (by simp) with q | ⟨q, -⟩ <;> grind
    have f1 := frC_rf u
    simp only [insD] at hQ
    rw [h9, if_pos rfl]
    refine ⟨vp_in_nI (n := 2) (by omega) (by omega), ?_⟩
    rw [show (2 : Int32).toNatClampNeg = 2 from rfl, he.2]
    by_cases hlt : d b < d e
    case neg =>
      rw [if_neg hlt]
      refine hQ u f1 ?_
      rw [if_pos (show d a ≤ d b by grind), if_pos (show d c ≤ d b by grind), if_pos (show d e ≤ d b by grind)]
      exact hh
    rw [if_pos hlt, if_pos (by decide)]
    intro z ez
    have : z = nI 2 := by rw [ez]; rfl
    rw [this]
    refine i44 _ _ _ _ 1 (by omega) _ _ (fun q => hQ _ (frC_tr f1 (frC_put _ _ _ _)) ?_) (fun q => i44 _ _ _ _ 0 (by omega) _ _ (fun q2 => hQ _ (frC_tr f1 (frC_tr (frC_put _ _ _ _) (frC_put _ _ _ _))) ?_) (fun q2 => i44_0 _ _ _ _ _ _ (hQ _ (frC_tr f1 (frC_tr (frC_tr (frC_put _ _ _ _) (frC_put _ _ _ _)) (frC_put _ _ _ _))) ?_)))
    · rw [hc.2] at q
      rw [if_pos (show d a ≤ d b by grind), if_pos q, if_neg (show ¬ d e ≤ d b by grind)]
      simp only [List.take, NL, putN_15, putN_16, putN_1, h9, ha, hc]
      exact ⟨by trivial, ⟨by trivial, by trivial⟩, ⟨by trivial, by trivial⟩, by trivial, by trivial⟩
    · rw [hc.2] at q
      simp only [putN_16, ha.2, Nat.reduceEqDiff, reduceIte, if_false] at q2
      rw [if_pos (by simpa using q2), if_neg q]
      simp only [List.take, NL, putN_15, putN_16, putN_1, h9, ha, hc]
      exact ⟨by trivial, ⟨by trivial, by trivial⟩, ⟨by trivial, by trivial⟩, by trivial, by trivial⟩
    · rw [hc.2] at q
      simp only [putN_16, ha.2, Nat.reduceEqDiff, reduceIte, if_false] at q2
      rw [if_neg (by simpa using q2)]
      simp only [List.take, NL, putN_15, putN_16, putN_1, h9, ha, hc]
      exact ⟨by trivial, ⟨by trivial, by trivial⟩, ⟨by trivial, by trivial⟩, by trivial, by trivial⟩
  | _ :: _ :: _ :: _ :: _, hs, h, hQ => exact h.elim
