/-! the class reads a rule, and all rules -/
theorem readLoss_ok (N : Nat) (hN : 4000 ≤ N) (Q : Int32 → UU → Prop) (B : Nat → Int32) (T st : Nat) (acc : List (Nat × Nat × Nat × Nat)) (ha : acc.length < 20) (u : UU) (tp : TP u B T) (cs : CS B T st u) (d : DR acc u) (RL : Nat ⊕ ((Nat × Nat × Nat × Nat) × Nat)) (eRL : RL = rdNum B T st (fun a s2 => rdWord B T 1 s2 (fun s3 => rdNum B T s3 (fun b s4 => if isWb B T 2 s4 = true then rdNum B T (nx B T s4) (fun c s6 => .inr ((0, a, b, c), s6)) else .inr ((0, a, b, 0), s4)))))
    (hE : ∀ p, RL = .inl p → ∀ w, frR u w → CS B T p w → Q 0 w) (hK : ∀ r s, RL = .inr (r, s) → ∀ w, frQ u w → CS B T s w → DR (acc ++ [r]) w → Q 1 w) : m_X6_readLoss_p12 N u Q := by
  unfold m_X6_readLoss_p12
  have fin : ∀ (a b c s : Nat) (w : UU), RL = .inr ((0, a, b, c), s) → frR u w → CS B T s w → m_X6_readLoss_p12_64 N (nI a) (nI b) (nI c) w Q := by
    intro a b c s w e f c1
    unfold m_X6_readLoss_p12_64
    refine addLoss_ok N _ acc ha a b c w (DR_R f d) (fun w2 f2 g1 g2 d2 => ⟨nb_1, ?_⟩)
    exact hK _ _ e w2 (frQ_tr (frQ_R f) f2) ⟨c1.1, g1.trans c1.2.1, g2.trans c1.2.2⟩ d2
  refine tn_ok N hN _ B T st u tp cs (fun a ea w1 f1 c1 g1 => ?_) (fun ea => ?_)
  rotate_left
  · rw [if_pos rfl]; exact ⟨nb_0, hE st (by rw [eRL]; simp [rdNum, ea]) u (frR_rf u) cs⟩
  rw [if_neg (by decide)]
  intro z3 q3
  rw [q3, g1]
  refine tw_ok N hN _ B T _ 1 (by omega) w1 (frR_TP f1 tp) c1 (fun hw w2 f2 c2 _ => ?_) (fun hw => ?_)
  rotate_left
  · rw [if_pos rfl]; exact ⟨nb_0, hE _ (by rw [eRL]; simp [rdNum, rdWord, ea, isWb_f hw]) w1 f1 c1⟩
  have hw' := (isWb_iff _ _ _ _).mpr hw
  rw [if_neg (by decide)]
  have f12 := frR_tr f1 f2
  refine tn_ok N hN _ B T _ w2 (frR_TP f12 tp) c2 (fun b eb w3 f3 c3 g3 => ?_) (fun eb => ?_)
  rotate_left
  · rw [if_pos rfl]; exact ⟨nb_0, hE _ (by rw [eRL]; simp [rdNum, rdWord, ea, hw', eb]) w2 f12 c2⟩
  rw [if_neg (by decide)]
  intro z8 q8
  rw [q8, g3]
  have f13 := frR_tr f12 f3
  refine tw_ok N hN _ B T _ 2 (by omega) w3 (frR_TP f13 tp) c3 (fun hs w4 f4 c4 _ => ?_) (fun hs => ?_)
  rotate_left
  · rw [if_pos rfl]; exact fin a b 0 _ w3 (by rw [eRL]; simp [rdNum, rdWord, ea, hw', eb, isWb_f hs]) f13 c3
  have hs' := (isWb_iff _ _ _ _).mpr hs
  rw [if_neg (by decide)]
  have f14 := frR_tr f13 f4
  refine tn_ok N hN _ B T _ w4 (frR_TP f14 tp) c4 (fun c ec w5 f5 c5 g5 => ?_) (fun ec => ?_)
  rotate_left
  · rw [if_pos rfl]; exact ⟨nb_0, hE _ (by rw [eRL]; simp [rdNum, rdWord, ea, hw', eb, hs', ec]) w4 f14 c4⟩
  rw [if_neg (by decide)]
  intro z13 q13
  rw [q13, g5]
  exact fin a b c _ w5 (by rw [eRL]; simp [rdNum, rdWord, ea, hw', eb, hs', ec]) (frR_tr f14 f5) c5
theorem DR_radar {acc : List (Nat × Nat × Nat × Nat)} {u : UU} (a : Nat) (d : DR acc u) : DR (acc ++ [(1, a, 0, 0)]) (sI u 20 (nI a)) := by
  obtain ⟨d19, d20, d21, dE⟩ := d
  have ls : lsL (acc ++ [(1, a, 0, 0)]) = lsL acc := by rw [lsL_sn]; unfold lsS; rw [if_neg (by simp)]
  refine ⟨by rw [ls]; exact d19, by rw [rdL_sn]; unfold rdS; rw [if_pos rfl]; rfl, by rw [brL_sn]; unfold brS; rw [if_pos (Or.inr rfl)]; exact d21, fun i hi => ?_⟩
  simp only [ls] at hi ⊢; exact dE i hi
theorem DR_bear {acc : List (Nat × Nat × Nat × Nat)} {u : UU} (a : Nat) (d : DR acc u) : DR (acc ++ [(2, a, 0, 0)]) (sI u 21 (nI a)) := by
  obtain ⟨d19, d20, d21, dE⟩ := d
  have ls : lsL (acc ++ [(2, a, 0, 0)]) = lsL acc := by rw [lsL_sn]; unfold lsS; rw [if_neg (by simp)]
  refine ⟨by rw [ls]; exact d19, by rw [rdL_sn]; unfold rdS; rw [if_neg (by simp)]; exact d20, by rw [brL_sn]; unfold brS; rw [if_neg (by simp)]; rfl, fun i hi => ?_⟩
  simp only [ls] at hi ⊢; exact dE i hi
theorem frQ_sI (u : UU) (k : Nat) (h : 19 ≤ k ∧ k ≤ 22) (x : Int32) : frQ u (sI u k x) := ⟨fun j p q => by rw [sI_1, if_neg (by omega)], fun _ _ => rfl⟩
theorem readRule_ok (N : Nat) (hN : 4000 ≤ N) (Q : Int32 → UU → Prop) (B : Nat → Int32) (T st : Nat) (acc : List (Nat × Nat × Nat × Nat)) (ha : acc.length < 20) (u : UU) (tp : TP u B T) (cs : CS B T st u) (d : DR acc u)
    (hE : ∀ p, rdRule B T st = .inl p → ∀ w, frR u w → CS B T p w → Q 0 w) (hK : ∀ r s, rdRule B T st = .inr (r, s) → ∀ w, frQ u w → CS B T s w → DR (acc ++ [r]) w → Q 1 w) : m_X6_readRule_p12 N u Q := by
  unfold m_X6_readRule_p12
  refine tw_ok N hN _ B T st 0 (by omega) u tp cs (fun h0 w1 f1 c1 _ => ?_) (fun h0 => ?_)
  · rw [if_neg (by decide)]
    have h0' := (isWb_iff _ _ _ _).mpr h0
    refine readLoss_ok N hN _ B T _ acc ha w1 (frR_TP f1 tp) c1 (DR_R f1 d) _ rfl (fun p ep w f c => ⟨nb_0, ?_⟩) (fun r s ep w f c d2 => ⟨nb_1, ?_⟩)
    · exact hE p (by unfold rdRule; rw [if_pos h0']; exact ep) w (frR_tr f1 f) c
    · exact hK r s (by unfold rdRule; rw [if_pos h0']; exact ep) w (frQ_tr (frQ_R f1) f) c d2
  have h0' := isWb_f h0
  rw [if_pos rfl]
  refine tw_ok N hN _ B T st 3 (by omega) u tp cs (fun h3 w1 f1 c1 _ => ?_) (fun h3 => ?_)
  · rw [if_neg (by decide)]
    have h3' := (isWb_iff _ _ _ _).mpr h3
    refine tw_ok N hN _ B T _ 4 (by omega) w1 (frR_TP f1 tp) c1 (fun h4 w2 f2 c2 _ => ?_) (fun h4 => ?_)
    rotate_left
    · rw [if_pos rfl]; exact ⟨nb_0, hE _ (by simp [rdRule, rdWord, h0', h3', isWb_f h4]) w1 f1 c1⟩
    have h4' := (isWb_iff _ _ _ _).mpr h4
    rw [if_neg (by decide)]
    have f12 := frR_tr f1 f2
    refine tn_ok N hN _ B T _ w2 (frR_TP f12 tp) c2 (fun a ea w3 f3 c3 g3 => ?_) (fun ea => ?_)
    rotate_left
    · rw [if_pos rfl]; exact ⟨nb_0, hE _ (by simp [rdRule, rdWord, rdNum, h0', h3', h4', ea]) w2 f12 c2⟩
    rw [if_neg (by decide)]
    intro u14 e14
    rw [g3] at e14
    rw [e14]
    have f13 := frR_tr f12 f3
    exact ⟨nb_1, hK _ _ (by simp [rdRule, rdWord, rdNum, h0', h3', h4', ea]) _ (frQ_tr (frQ_R f13) (frQ_sI w3 20 (by omega) _)) c3 (DR_radar a (DR_R f13 d))⟩
  have h3' := isWb_f h3
  rw [if_pos rfl]
  refine tw_ok N hN _ B T st 5 (by omega) u tp cs (fun h5 w1 f1 c1 _ => ?_) (fun h5 => ?_)
  rotate_left
  · rw [if_pos rfl]; exact ⟨nb_0, hE _ (by simp [rdRule, h0', h3', isWb_f h5]) u (frR_rf u) cs⟩
  have h5' := (isWb_iff _ _ _ _).mpr h5
  rw [if_neg (by decide)]
  refine tn_ok N hN _ B T _ w1 (frR_TP f1 tp) c1 (fun a ea w3 f3 c3 g3 => ?_) (fun ea => ?_)
  rotate_left
  · rw [if_pos rfl]; exact ⟨nb_0, hE _ (by simp [rdRule, rdNum, h0', h3', h5', ea]) w1 f1 c1⟩
  rw [if_neg (by decide)]
  intro u14 e14
  rw [g3] at e14
  rw [e14]
  have f13 := frR_tr f1 f3
  exact ⟨nb_1, hK _ _ (by simp [rdRule, rdNum, h0', h3', h5', ea]) _ (frQ_tr (frQ_R f13) (frQ_sI w3 21 (by omega) _)) c3 (DR_bear a (DR_R f13 d))⟩
theorem read_loop (N : Nat) (hN : 4000 ≤ N) (Q : Int32 → UU → Prop) (B : Nat → Int32) (T : Nat) :
    ∀ (f n st : Nat) (acc : List (Nat × Nat × Nat × Nat)) (u : UU), n < f → acc.length + n = 20 → TP u B T → CS B T st u → DR acc u →
      (∀ w, frQ u w → ((rdAll B T n st acc).1 = none → DR (rdAll B T n st acc).2 w ∧ w.1 22 = nI (rdAll B T n st acc).2.length) → Q (oI (rdAll B T n st acc).1) w) → m_X6_read_p12_24 N Q f (nI (acc.length + 1)) u := by
  intro f
  induction f with
  | zero => intro n st acc u h; omega
  | succ f ih =>
    intro n st acc u h1 h2 tp cs d hQ
    rw [m_X6_read_p12_24]
    match n, h1, h2, hQ with
    | 0, h1, h2, hQ =>
      rw [if_pos (show (20 : Int32) < nI (acc.length + 1) from nI_lt (a := 20) (by omega) (by omega)), cs.2.1]
      exact hQ u (frQ_rf u) (fun q => by simp [rdAll] at q)
    | n + 1, h1, h2, hQ =>
      rw [if_neg (show ¬ (20 : Int32) < nI (acc.length + 1) from nI_nlt (a := 20) (by omega) (by omega))]
      unfold rdAll at hQ
      refine readRule_ok N hN _ B T st acc (by omega) u tp cs d (fun p ep w fw cw => ?_) (fun r s ep w fw cw dw => ?_)
      · rw [if_pos rfl, cw.2.1]
        rw [ep] at hQ
        exact hQ w (frQ_R fw) (fun q => by simp at q)
      · rw [if_neg (by decide)]
        rw [ep] at hQ
        simp only at hQ
        intro u3 e3
        have f3 : frQ u u3 := by rw [e3]; exact frQ_tr fw (frQ_sI w 22 (by omega) _)
        have tp3 := frQ_TP f3 tp
        have cs3 : CS B T s u3 := by rw [e3]; exact cw
        have d3 : DR (acc ++ [r]) u3 := by rw [e3]; exact dw
        have el : (acc ++ [r]).length = acc.length + 1 := by simp
        rw [atEnd_eq N _ B T s u3 tp3 cs3]
        by_cases hs : s < T
        · rw [if_pos hs] at hQ
          rw [if_pos hs, if_pos rfl]
          refine tw_ok N hN _ B T s 6 (by omega) u3 tp3 cs3 (fun h6 w4 f4 c4 _ => ?_) (fun h6 => ?_)
          · rw [if_pos ((isWb_iff _ _ _ _).mpr h6)] at hQ
            rw [if_neg (by decide)]
            intro z8 e8
            rw [e8, nI_1, ← el]
            refine ih n _ (acc ++ [r]) w4 (by omega) (by rw [el]; omega) (frR_TP f4 tp3) c4 (DR_R f4 d3) (fun w5 f5 h5 => hQ w5 (frQ_tr f3 (frQ_tr (frQ_R f4) f5)) h5)
          · rw [isWb_f h6] at hQ
            rw [if_pos rfl, cs3.2.1]
            exact hQ u3 f3 (fun q => by simp at q)
        · rw [if_neg hs] at hQ
          rw [if_neg hs, if_neg (by decide)]
          exact hQ u3 f3 (fun _ => ⟨d3, by rw [el, e3]; rfl⟩)
theorem read_ok (N : Nat) (hN : 4000 ≤ N) (Q : Int32 → UU → Prop) (B : Nat → Int32) (T : Nat) (u : UU) (tp : TP u B T)
    (hQ : ∀ w, frQ u w → ((rdTop B T).1 = none → DR (rdTop B T).2 w ∧ w.1 22 = nI (rdTop B T).2.length) → Q (oI (rdTop B T).1) w) : m_X6_read_p12 N u Q := by
  unfold m_X6_read_p12 m_X5_empty
  intro u1 e1 u2 e2 u3 e3 u4 e4 u5 e5
  have f5 : frQ u u5 := by
    rw [e5, e4, e3, e2, e1]
    exact frQ_tr (frQ_tr (frQ_tr (frQ_tr (frQ_sI u 19 (by omega) _) (frQ_sI _ 20 (by omega) _)) (frQ_sI _ 21 (by omega) _)) (frQ_sI _ 22 (by omega) _)) (frQ_R (frR_sI _ 12 (by omega) _))
  have tp5 := frQ_TP f5 tp
  have d5 : DR [] u5 := by rw [e5, e4, e3, e2, e1]; exact ⟨rfl, rfl, rfl, fun i hi => absurd hi (by simp [lsL])⟩
  have g12 : u5.1 12 = nI 0 := by rw [e5]; rfl
  have g22 : u5.1 22 = 0 := by rw [e5, e4]; rfl
  refine step_ok N hN _ B T 0 (by omega) u5 tp5 g12 (fun w fw cw _ => ?_)
  rw [Nat.sub_zero] at cw
  have tpw := frR_TP fw tp5
  rw [atEnd_eq N _ B T _ w tpw cw]
  unfold rdTop at hQ
  by_cases h : skp B T 0 < T
  · rw [if_pos h] at hQ
    rw [if_pos h, if_pos rfl]
    exact read_loop N hN Q B T N 20 _ [] w (by omega) rfl tpw cw (DR_R fw d5) (fun w2 f2 h2 => hQ w2 (frQ_tr f5 (frQ_tr (frQ_R fw) f2)) h2)
  · rw [if_neg h] at hQ
    rw [if_neg h, if_neg (by decide)]
    exact hQ w (frQ_tr f5 (frQ_R fw)) (fun _ => ⟨DR_R fw d5, (fw.1 22 (by omega) (by omega) (by omega)).trans g22⟩)
