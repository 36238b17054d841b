/-! rules(), both sides -/
def FB (v w : UU) : Prop := (∀ j, ¬ j ≤ 1 → ¬ (11 ≤ j ∧ j ≤ 17) → w.1 j = v.1 j) ∧ ∀ j, j ≠ 23 → w.2.1 j = v.2.1 j
theorem FB_tr {a b c : UU} (h1 : FB a b) (h2 : FB b c) : FB a c := ⟨fun j p q => (h2.1 j p q).trans (h1.1 j p q), fun j p => (h2.2 j p).trans (h1.2 j p)⟩
theorem FB_Y {a b : UU} (h : frY a b) : FB a b := ⟨fun j p q => h.1 j (by omega) (by omega), h.2⟩
theorem FB_sI (v : UU) (k : Nat) (h : k ≤ 1 ∨ (11 ≤ k ∧ k ≤ 17)) (x : Int32) : FB v (sI v k x) := ⟨fun j p q => by rw [sI_1, if_neg (by omega)], fun _ _ => rfl⟩
theorem mrules_ok (N : Nat) (hN : 4000 ≤ N) (Q : Int32 → UU → Prop) (B : Nat → Int32) (T : Nat) (v : UU) (tm : TM v B T)
    (hB : ∀ p, (rdTop B T).1 = some p → ∀ w, FB v w → w.1 12 = 0 → w.1 16 = nI p → w.1 1 = -6 → Q (-6) w)
    (hG : (rdTop B T).1 = none → ∀ y w, FB v y → (∀ j, ¬ j ≤ 1 → ¬ (10 ≤ j ∧ j ≤ 17) → w.1 j = y.1 j) → (∀ j, ¬ (19 ≤ j ∧ j ≤ 22) → w.2.1 j = y.2.1 j) → w.1 12 = 0 → w.1 16 = -1 → w.1 1 = 0 → w.1 10 = nI (rdTop B T).2.length → (∀ j, j < (rdTop B T).2.length → ruA (rdTop B T).2 w j) → Q (nI (rdTop B T).2.length) w) : m_X12_rules N v Q := by
  have hT := tm.2.2
  have okA := rdTop_ok B T
  unfold m_X12_rules
  intro u1 q1 u2 q2
  refine ⟨nb_0, fun u3 q3 u4 q4 u5 q5 => ?_⟩
  have f5 : FB v u5 := by
    rw [q5, q4, q3, q2, q1]
    exact FB_tr (FB_tr (FB_tr (FB_tr (FB_sI v 0 (by omega) _) (FB_sI _ 14 (by omega) _)) (FB_sI _ 17 (by omega) _)) (FB_sI _ 16 (by omega) _)) (FB_sI _ 11 (by omega) _)
  have tm5 : TM u5 B T := ⟨by rw [q5, q4, q3, q2, q1]; exact tm.1, by rw [f5.2 24 (by omega)]; exact tm.2.1, hT⟩
  have g14 : u5.1 14 = nI 0 := by rw [q5, q4, q3, q2]; rfl
  have g17 : u5.1 17 = 0 := by rw [q5, q4, q3]; rfl
  have g16 : u5.1 16 = -1 := by rw [q5, q4]; rfl
  have ma5 : MA [] u5 := ⟨by rw [q5]; rfl, fun k hk => by simp at hk⟩
  /- the end of rules() -/
  have fin : ∀ y, FB v y → EndP (rdTop B T) y → m_X12_rules_96 N y Q := by
    intro y fy hy
    unfold m_X12_rules_96
    intro y1 p1
    have y17 : y1.1 17 = y.1 17 := by rw [p1]; rfl
    rw [y17]
    unfold EndP at hy
    cases e : (rdTop B T).1 with
    | none =>
      rw [e] at hy
      obtain ⟨h17, h16, ma⟩ := hy
      rw [if_pos h17]
      intro y2 p2
      have m11 : y1.1 11 = nI (rdTop B T).2.length := by rw [p1]; exact ma.1
      rw [m11] at p2
      refine copy_loop N Q (rdTop B T).2 okA.2.2 N 0 y2 (by omega) (by have := okA.2.2; omega) (by rw [p2]; rfl) (by rw [p2, p1]; exact ma) (fun j hj => by omega) (fun w fz hw => ?_)
      refine hG e y (sI w 1 0) fy (fun j a b => ?_) (fun j a => ?_) ?_ ?_ rfl ?_ hw
      · rw [sI_1, if_neg (by omega), fz.1 j, p2, sI_1, if_neg (by omega), p1, sI_1, if_neg (by omega)]
      · rw [sI_2, fz.2 j a, p2, p1]; rfl
      · rw [sI_1, if_neg (by omega), fz.1, p2, p1]; rfl
      · rw [sI_1, if_neg (by omega), fz.1, p2, p1]; exact h16
      · rw [sI_1, if_neg (by omega), fz.1, p2]; rfl
    | some p =>
      rw [e] at hy
      obtain ⟨h17, h16⟩ := hy
      rw [if_neg (by rw [h17]; decide), told_eq, if_pos (by decide)]
      exact hB p e _ (FB_tr fy (by rw [p1]; exact FB_tr (FB_sI y 12 (by omega) _) (FB_sI _ 1 (by omega) _))) (by rw [p1]; rfl) (by rw [p1]; exact h16) rfl
  refine next_ok N hN _ B T 0 (by omega) u5 tm5 g14 (fun u6 f6 m6 => ?_)
  rw [Nat.sub_zero] at m6
  have f56 : FB v u6 := FB_tr f5 (FB_Y (frY_N f6))
  have h17 : u6.1 17 = 0 := (f6.1 17 (by omega)).trans g17
  have h16 : u6.1 16 = -1 := (f6.1 16 (by omega)).trans g16
  rw [m6.2.2.2.1]
  by_cases hlt : skp B T 0 < T
  · have et : rdTop B T = rdAll B T 20 (skp B T 0) [] := by unfold rdTop; rw [if_pos hlt]
    have hso : ¬ soF B T (skp B T 0) = 0 := by
      unfold soF; rw [if_neg (by omega)]
      rcases kd_123 (B (skp B T 0)) with q | q | q <;> rw [q] <;> decide
    rw [if_neg hso]
    obtain ⟨N', eN⟩ : ∃ m, N = m + 1 := ⟨N - 1, by omega⟩
    refine mreadRule_ok N hN _ B T _ [] (by simp) u6 (frN_TM f6 tm5) m6 h17 (MA_N f6 ma5) (fun hl => by simp at hl) (fun hl p ep y fy y17 y16 => ?_) (fun hl r s ep y fy y17 y16 my may => ?_)
    · have := r40_bad N Q N' y y17 (fin y (FB_tr f56 (FB_Y fy)) (by rw [et, rdAll_succ, ep]; exact ⟨y17, y16⟩))
      rw [← eN] at this; exact this
    · have tmy := frY_TM fy (frN_TM f6 tm5)
      refine r40 N hN Q B T N 19 s ([] ++ [r]) y (by simp) (by omega) tmy my y17 (y16.trans h16) may (fun y2 f2 h2 => ?_)
      exact fin y2 (FB_tr f56 (FB_tr (FB_Y fy) (FB_Y f2))) (by rw [et, rdAll_succ, ep]; exact h2)
  · have et : rdTop B T = (none, []) := by unfold rdTop; rw [if_neg hlt]
    rw [if_pos (by unfold soF; rw [if_pos (by omega)])]
    exact fin u6 f56 (by rw [et]; exact ⟨h17, h16, MA_N f6 ma5⟩)
/-! what both sides keep of the rules is alike -/
theorem rules_alike {acc : List (Nat × Nat × Nat × Nat)} {v : UU} (hr : ∀ r ∈ acc, ROK r) (h : ∀ j, j < acc.length → ruA acc v j) : ∀ m, m ≤ acc.length → lossL (v.2.1 19) (v.2.1 20) (v.2.1 21) (v.2.1 22) m = lsL (acc.take m) ∧ radarL (v.2.1 19) (v.2.1 20) m = rdL (acc.take m) ∧ bearL (v.2.1 19) (v.2.1 20) m = brL (acc.take m)
  | 0, _ => by rw [List.take_zero]; exact ⟨rfl, rfl, rfl⟩
  | m + 1, hm => by
    obtain ⟨i1, i2, i3⟩ := rules_alike hr h m (by omega)
    have hlt : m < acc.length := by omega
    obtain ⟨a, b, c, d⟩ := h m hlt
    have eg : acc.getD m (0, 0, 0, 0) = acc[m] := by rw [List.getD_eq_getElem?_getD, List.getElem?_eq_getElem hlt]; rfl
    rw [eg] at a b c d
    have hok := hr acc[m] (List.getElem_mem hlt)
    have et : acc.take (m + 1) = acc.take m ++ [acc[m]] := List.take_succ_eq_append_getElem hlt
    rw [et, lsL_sn, rdL_sn, brL_sn]
    generalize acc[m] = r at a b c d hok ⊢
    have z0 : nI r.1 = 0 ↔ r.1 = 0 := nI_eq (b := 0) (by have := hok.1; omega) (by omega)
    have z1 : nI r.1 = 1 ↔ r.1 = 1 := nI_eq (b := 1) (by have := hok.1; omega) (by omega)
    unfold lossL radarL bearL lsS rdS brS
    rw [i1, i2, i3, a, b, c, d]
    simp only [z0, z1]
    exact ⟨by trivial, by trivial, by trivial⟩
theorem rel_rules {u v U V : UU} (hR : Rel u v) (hi : ∀ j, (2 ≤ j ∧ j ≤ 8) ∨ j = 14 → U.1 j = u.1 j) (ha : ∀ j, j ≤ 23 → U.2.1 j = u.2.1 j) (vi : ∀ j, (2 ≤ j ∧ j ≤ 7) ∨ j = 18 → V.1 j = v.1 j) (va : ∀ j, j ≤ 7 ∨ j = 18 ∨ 24 ≤ j → V.2.1 j = v.2.1 j) (h10 : U.1 10 = 0) (h12 : V.1 12 = 0) (h0 : U.1 0 = V.1 16) (h1 : U.1 1 = V.1 1) (hRU : RU (U.1 15) (U.1 16) (U.1 17) (U.1 18) (U.2.1 24) (U.2.1 25) (U.2.1 26) (V.1 10) (V.2.1 19) (V.2.1 20) (V.2.1 21) (V.2.1 22)) : Rel U V := by
  obtain ⟨r1, r2, r3, r4, r5, r6, r7, r8, r9, r10, r11⟩ := hR
  unfold Rel
  rw [hi 2 (by omega), hi 3 (by omega), hi 5 (by omega), hi 6 (by omega), hi 7 (by omega), hi 8 (by omega), hi 14 (by omega)]
  rw [ha 0 (by omega), ha 1 (by omega), ha 2 (by omega), ha 3 (by omega), ha 4 (by omega), ha 5 (by omega), ha 6 (by omega), ha 7 (by omega), ha 8 (by omega), ha 9 (by omega), ha 10 (by omega), ha 11 (by omega), ha 12 (by omega), ha 18 (by omega), ha 20 (by omega), ha 21 (by omega), ha 22 (by omega), ha 23 (by omega)]
  rw [vi 2 (by omega), vi 3 (by omega), vi 5 (by omega), vi 6 (by omega), vi 7 (by omega), vi 18 (by omega)]
  rw [va 0 (by omega), va 1 (by omega), va 2 (by omega), va 3 (by omega), va 4 (by omega), va 5 (by omega), va 6 (by omega), va 7 (by omega), va 18 (by omega), va 25 (by omega), va 26 (by omega), va 27 (by omega), va 28 (by omega)]
  exact ⟨r1, r2, r3, r4, r5, r6, ⟨0, by omega, h10, h12, fun i hi => by omega⟩, hRU, r9, h0, h1⟩
theorem mt_rules (N : Nat) (hN : 4000 ≤ N) : ∀ (u v : UU), Rel u v → m_X11_rules N u (fun r _ u1 => m_X12_rules N v (fun r2 v1 => r = r2 ∧ Rel u1 v1)) := by
  intro u v hR
  obtain ⟨T, hT, e10, e12, hb⟩ := hR.2.2.2.2.2.2.1
  have tp : TP u (u.2.1 19) T := ⟨e10, rfl, hT⟩
  have tm : TM v (u.2.1 19) T := ⟨e12, fun i hi => (hb i hi).1.symm, hT⟩
  generalize u.2.1 19 = B at tp tm
  have okA := rdTop_ok B T
  unfold m_X11_rules
  refine read_ok N hN _ B T u tp (fun w fw hw => ?_)
  intro u3 q3 u4 q4
  have g0 : u4.1 0 = oI (rdTop B T).1 := by rw [q4, q3]; rfl
  rw [g0]
  cases e : (rdTop B T).1 with
  | none =>
    rw [if_pos (show oI none = -1 from rfl)]
    intro u5 q5
    rw [taken_eq]
    obtain ⟨dr, w22⟩ := hw e
    have a18 : u5.1 18 = nI (rdTop B T).2.length := by rw [q5, q4, q3]; exact w22
    rw [a18]
    refine mrules_ok N hN _ B T v tm (fun p ep => by rw [e] at ep; simp at ep) (fun _ y z fy zi za z12 z16 z1 z10 hru => ⟨rfl, ?_⟩)
    obtain ⟨d19, d20, d21, dE⟩ := dr
    have al := rules_alike okA.2.1 hru (rdTop B T).2.length (Nat.le_refl _)
    rw [List.take_length] at al
    have rng : ∀ j, j < (rdTop B T).2.length → (0 ≤ z.2.1 19 j ∧ z.2.1 19 j ≤ 2) ∧ (0 ≤ z.2.1 20 j ∧ z.2.1 20 j ≤ 100) ∧ (0 ≤ z.2.1 21 j ∧ z.2.1 21 j ≤ 100) ∧ 0 ≤ z.2.1 22 j ∧ z.2.1 22 j ≤ 100 := by
      intro j hj
      obtain ⟨r1, r2, r3, r4⟩ := hru j hj
      have hm : (rdTop B T).2.getD j (0, 0, 0, 0) ∈ (rdTop B T).2 := by
        rw [List.getD_eq_getElem?_getD, List.getElem?_eq_getElem hj]; exact List.getElem_mem hj
      obtain ⟨o1, o2, o3, o4⟩ := okA.2.1 _ hm
      rw [r1, r2, r3, r4]
      exact ⟨⟨nI_pos' (by omega), nI_le (b := 2) o1 (by omega)⟩, ⟨nI_pos' (by omega), nI_le (b := 100) o2 (by omega)⟩, ⟨nI_pos' (by omega), nI_le (b := 100) o3 (by omega)⟩, nI_pos' (by omega), nI_le (b := 100) o4 (by omega)⟩
    have b15 : (sI u5 1 0).1 15 = w.1 19 := by rw [q5, q4, q3]; rfl
    have b16 : (sI u5 1 0).1 16 = w.1 20 := by rw [q5, q4, q3]; rfl
    have b17 : (sI u5 1 0).1 17 = w.1 21 := by rw [q5, q4, q3]; rfl
    have b24 : (sI u5 1 0).2.1 24 = w.2.1 27 := by rw [q5, q4, q3]; rfl
    have b25 : (sI u5 1 0).2.1 25 = w.2.1 28 := by rw [q5, q4, q3]; rfl
    have b26 : (sI u5 1 0).2.1 26 = w.2.1 29 := by rw [q5, q4, q3]; rfl
    have b18 : (sI u5 1 0).1 18 = nI (rdTop B T).2.length := a18
    refine rel_rules hR (fun j hj => ?_) (fun j hj => ?_) (fun j hj => ?_) (fun j hj => ?_) ?_ z12 ?_ ?_ ?_
    · have k1 : (sI u5 1 0).1 j = w.1 j := by
        have hc : j = 2 ∨ j = 3 ∨ j = 4 ∨ j = 5 ∨ j = 6 ∨ j = 7 ∨ j = 8 ∨ j = 14 := by omega
        rw [q5, q4, q3]
        rcases hc with h | h | h | h | h | h | h | h <;> rw [h] <;> rfl
      rw [k1]; exact fw.1 j (by omega) (by omega)
    · have k1 : (sI u5 1 0).2.1 j = w.2.1 j := by
        rw [q5, q4, q3]
        show (swU w).2.1 j = w.2.1 j
        show w.2.1 (sgA j) = w.2.1 j
        have : ∀ j, j ≤ 23 → sgA j = j := by decide
        rw [this j hj]
      rw [k1]; exact fw.2 j (by omega)
    · rw [zi j (by omega) (by omega)]; exact fy.1 j (by omega) (by omega)
    · rw [za j (by omega)]; exact fy.2 j (by omega)
    · rw [q5, q4]; rfl
    · rw [z16, q5, q4, q3, e]; rfl
    · rw [z1]; rfl
    · rw [b15, b16, b17, b18, b24, b25, b26, z10]
      refine ⟨(rdTop B T).2.length, okA.2.2, rfl, rfl, rng, ?_, ?_, ?_, ?_⟩
      · rw [d19, al.1]
      · rw [d20, al.2.1]
      · rw [d21, al.2.2]
      · rw [al.1]; exact dE
  | some p =>
    have hp : p ≤ T := okA.1 p e
    rw [if_neg (show ¬ oI (some p) = -1 from fun q => absurd (show ¬ nI p < 0 from nI_pos (by omega)) (by rw [show nI p = -1 from q]; decide))]
    rw [refused_eq]
    refine mrules_ok N hN _ B T v tm (fun p' ep z fz z12 z16 z1 => ⟨rfl, ?_⟩) (fun ep => by rw [e] at ep; simp at ep)
    have epp : p' = p := by rw [e] at ep; simp only [Option.some.injEq] at ep; exact ep.symm
    subst epp
    have ui : ∀ j, ¬ j ≤ 1 → j ≠ 10 → (sI u4 1 (-6)).1 j = w.1 j := by
      intro j a b
      rw [sI_1, if_neg (by omega), q4, sI_1, if_neg (by omega), q3, sI_1, if_neg (by omega)]
    have ua : (sI u4 1 (-6)).2.1 = w.2.1 := by rw [q4, q3]; rfl
    refine rel_rules hR (fun j hj => ?_) (fun j hj => ?_) (fun j hj => ?_) (fun j hj => ?_) ?_ z12 ?_ ?_ ?_
    · rw [ui j (by omega) (by omega)]; exact fw.1 j (by omega) (by omega)
    · rw [ua]; exact fw.2 j (by omega)
    · exact fz.1 j (by omega) (by omega)
    · exact fz.2 j (by omega)
    · rw [q4]; rfl
    · rw [z16, q4, q3, e]; rfl
    · rw [z1]; rfl
    · rw [ui 15 (by omega) (by omega), ui 16 (by omega) (by omega), ui 17 (by omega) (by omega), ui 18 (by omega) (by omega), ua, fw.1 15 (by omega) (by omega), fw.1 16 (by omega) (by omega), fw.1 17 (by omega) (by omega), fw.1 18 (by omega) (by omega), fw.2 24 (by omega), fw.2 25 (by omega), fw.2 26 (by omega), fz.1 10 (by omega) (by omega), fz.2 19 (by omega), fz.2 20 (by omega), fz.2 21 (by omega), fz.2 22 (by omega)]
      exact hR.2.2.2.2.2.2.2.1
