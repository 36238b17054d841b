/-! the reference's tokens -/
theorem isDigit_eq (N : Nat) (x : Int32) (u : UU) (Q : Int32 → UU → Prop) : m_X12_isDigit N x u Q ↔ Q (if kd x = 2 then 1 else 0) u := by
  unfold m_X12_isDigit
  by_cases a : x < 48
  · rw [if_pos a, if_neg (by rw [kd_2]; grind)]; exact ⟨fun q => q.2, fun q => ⟨nb_0, q⟩⟩
  · rw [if_neg a]
    by_cases b : 57 < x
    · rw [if_pos b, if_neg (by rw [kd_2]; grind)]; exact ⟨fun q => q.2, fun q => ⟨nb_0, q⟩⟩
    · rw [if_neg b, if_pos (by rw [kd_2]; grind)]; exact ⟨fun q => q.2, fun q => ⟨nb_1, q⟩⟩
theorem isSmall_eq (N : Nat) (x : Int32) (u : UU) (Q : Int32 → UU → Prop) : m_X12_isSmall N x u Q ↔ Q (if kd x = 1 then 1 else 0) u := by
  unfold m_X12_isSmall
  by_cases a : x < 97
  · rw [if_pos a, if_neg (by rw [kd_1]; grind)]; exact ⟨fun q => q.2, fun q => ⟨nb_0, q⟩⟩
  · rw [if_neg a]
    by_cases b : 122 < x
    · rw [if_pos b, if_neg (by rw [kd_1]; grind)]; exact ⟨fun q => q.2, fun q => ⟨nb_0, q⟩⟩
    · rw [if_neg b, if_pos (by rw [kd_1]; grind)]; exact ⟨fun q => q.2, fun q => ⟨nb_1, q⟩⟩
def TM (v : UU) (B : Nat → Int32) (T : Nat) : Prop := v.1 12 = nI T ∧ (∀ i, i < T → v.2.1 24 i = B i) ∧ T ≤ 200
def frN (u w : UU) : Prop := (∀ j, ¬ (13 ≤ j ∧ j ≤ 15) → w.1 j = u.1 j) ∧ w.2.1 = u.2.1
theorem frN_rf (u : UU) : frN u u := ⟨fun _ _ => rfl, rfl⟩
theorem frN_tr {a b c : UU} (h1 : frN a b) (h2 : frN b c) : frN a c := ⟨fun j p => (h2.1 j p).trans (h1.1 j p), h2.2.trans h1.2⟩
theorem frN_sI (u : UU) (k : Nat) (h : 13 ≤ k ∧ k ≤ 15) (x : Int32) : frN u (sI u k x) := ⟨fun j p => by rw [sI_1, if_neg (by omega)], rfl⟩
theorem frN_sL (u : UU) (x : Int64) : frN u (sL u 0 x) := ⟨fun _ _ => rfl, rfl⟩
theorem frN_TM {u w : UU} {B : Nat → Int32} {T : Nat} (h : frN u w) (t : TM u B T) : TM w B T := ⟨(h.1 12 (by omega)).trans t.1, by rw [h.2]; exact t.2.1, t.2.2⟩
def wW (B : Nat → Int32) (st : Nat) : Nat → Int64
  | 0 => 0
  | n + 1 => if n < 6 then wW B st n * 32 + (B (st + n)).toInt64 - 96 else -1
theorem n243_no (N : Nat) (Q : UU → Prop) (f : Nat) (u : UU) (h : ¬ u.1 15 = 2) (hQ : Q u) : m_X12_next_243 N Q (f + 1) u := by
  rw [m_X12_next_243, if_neg h]; exact hQ
theorem cmp_le (x y : Int64) : lg_cmp x y ≤ 0 ↔ ¬ y < x := by
  rw [← cmp_gt]; constructor <;> intro h <;> grind
theorem n243 (N : Nat) (Q : UU → Prop) (B : Nat → Int32) (T st : Nat) : ∀ (f m n : Nat) (u : UU), st + n + m = T → m < f → TM u B T → u.1 15 = 2 → u.1 14 = nI (st + n) → u.2.2 0 = lN (dV B st n) → (∀ j, j < n → kd (B (st + j)) = 2) →
    (∀ w, frN u w → w.1 13 = u.1 13 → w.1 15 = 2 → w.1 14 = nI (rn B 2 m (st + n)) → w.2.2 0 = lN (dV B st (rn B 2 m (st + n) - st)) → Q w) → m_X12_next_243 N Q f u := by
  intro f
  induction f with
  | zero => intro m n u h1 h2; omega
  | succ f ih =>
    intro m n u h1 h2 tm e15 e14 eL hd hQ
    have t3 := tm.2.2
    rw [m_X12_next_243, if_pos e15, tm.1, e14]
    match m, h1, h2, hQ with
    | 0, h1, h2, hQ =>
      rw [if_pos (nI_le (by omega) (by omega))]
      exact hQ u (frN_rf u) rfl e15 e14 (by rw [eL]; unfold rn; congr 2; omega)
    | m + 1, h1, h2, hQ =>
      rw [if_neg (nI_ge (by omega) (by omega))]
      refine ⟨vp_in_nI (by omega) (by omega), ?_⟩
      rw [cl_nI (by omega), tm.2.1 _ (by omega), isDigit_eq]
      unfold rn at hQ
      by_cases hc : kd (B (st + n)) = 2
      · rw [if_pos hc] at hQ
        rw [if_pos hc, if_neg (by decide), eL]
        obtain ⟨d1, d2⟩ := dgt_ok hc
        have hle := dV_le B st n (fun j hj => (dgt_ok (hd j hj)).2)
        have hd' : ∀ j, j < n + 1 → kd (B (st + j)) = 2 := by
          intro j hj
          by_cases ej : j = n
          · subst ej; exact hc
          · exact hd j (by omega)
        have fin : ∀ y, y = lN (dV B st (n + 1)) → m_X12_next_319 N (fun u => m_X12_next_243 N Q f u) y u Q := by
          intro y hy
          unfold m_X12_next_319
          intro u1 q1 u2 q2
          have g14 : u1.1 14 = nI (st + n) := by rw [q1]; exact e14
          rw [g14, nI_1] at q2
          have f2 : frN u u2 := by rw [q2, q1]; exact frN_tr (frN_sL u _) (frN_sI _ 14 (by omega) _)
          refine ih m (n + 1) u2 (by omega) (by omega) (frN_TM f2 tm) (by rw [q2, q1]; exact e15) (by rw [q2]; rfl) (by rw [q2, q1]; exact hy) hd' (fun w fw a b c d => hQ w (frN_tr f2 fw) (a.trans (by rw [q2, q1]; rfl)) b c d)
        by_cases hg : 1000 < dV B st n
        · rw [if_neg (by rw [cmp_le]; exact fun q => q ((lN_lt (a := 1000) (by omega) (by omega)).mpr hg))]
          exact fin _ (by show _ = lN (if 1000 < dV B st n then _ else _); rw [if_pos hg])
        · rw [if_pos (show lg_cmp (lN (dV B st n)) 1000 ≤ 0 from (cmp_le _ _).mpr (fun q => hg ((lN_lt (a := 1000) (by omega) (by omega)).mp q)))]
          refine ⟨by rw [e14]; exact vp_in_nI (by omega) (by omega), ?_⟩
          refine fin _ ?_
          show _ = lN (if 1000 < dV B st n then _ else _)
          rw [if_neg hg, e14, cl_nI (by omega), tm.2.1 _ (by omega)]
          conv => lhs; rw [d1]
          rw [nI_l (by omega), show (10 : Int64) = lN 10 from rfl, show (48 : Int64) = lN 48 from rfl, lN_mul, lN_add, lN_sub (by omega)]
          congr 1; omega
      · rw [if_neg hc] at hQ
        rw [if_neg hc, if_pos rfl]
        exact hQ u (frN_rf u) rfl e15 e14 (by rw [eL]; congr 2; omega)
theorem n149_no (N : Nat) (Q : UU → Prop) (f : Nat) (u : UU) (h : ¬ u.1 15 = 1) (hQ : m_X12_next_243 N Q N u) : m_X12_next_149 N Q (f + 1) u := by
  rw [m_X12_next_149, if_neg h]; exact hQ
theorem n149 (N : Nat) (hN : 4000 ≤ N) (Q : UU → Prop) (B : Nat → Int32) (T st : Nat) : ∀ (f m n : Nat) (u : UU), st + n + m = T → m < f → TM u B T → u.1 15 = 1 → u.1 13 = nI st → u.1 14 = nI (st + n) → u.2.2 0 = wW B st n →
    (∀ w, frN u w → w.1 13 = u.1 13 → w.1 15 = 1 → w.1 14 = nI (rn B 1 m (st + n)) → w.2.2 0 = wW B st (rn B 1 m (st + n) - st) → Q w) → m_X12_next_149 N Q f u := by
  obtain ⟨N', eN⟩ : ∃ m, N = m + 1 := ⟨N - 1, by omega⟩
  have out : ∀ u : UU, u.1 15 = 1 → Q u → m_X12_next_243 N Q N u := by
    intro u e h
    have := n243_no N Q N' u (by rw [e]; decide) h
    rw [← eN] at this; exact this
  intro f
  induction f with
  | zero => intro m n u h1 h2; omega
  | succ f ih =>
    intro m n u h1 h2 tm e15 e13 e14 eL hQ
    have t3 := tm.2.2
    rw [m_X12_next_149, if_pos e15, tm.1, e14]
    match m, h1, h2, hQ with
    | 0, h1, h2, hQ =>
      rw [if_pos (nI_le (by omega) (by omega))]
      exact out u e15 (hQ u (frN_rf u) rfl e15 e14 (by rw [eL]; unfold rn; congr 1; omega))
    | m + 1, h1, h2, hQ =>
      rw [if_neg (nI_ge (by omega) (by omega))]
      refine ⟨vp_in_nI (by omega) (by omega), ?_⟩
      rw [cl_nI (by omega), tm.2.1 _ (by omega), isSmall_eq]
      unfold rn at hQ
      by_cases hc : kd (B (st + n)) = 1
      · rw [if_pos hc] at hQ
        rw [if_pos hc, if_neg (by decide), eL, e14, e13, pk_sub (by omega), show st + n - st = n by omega]
        have fin : ∀ y, y = wW B st (n + 1) → m_X12_next_227 N (fun u => m_X12_next_149 N Q f u) y u Q := by
          intro y hy
          unfold m_X12_next_227
          intro u1 q1 u2 q2
          have g14 : u1.1 14 = nI (st + n) := by rw [q1]; exact e14
          rw [g14, nI_1] at q2
          have f2 : frN u u2 := by rw [q2, q1]; exact frN_tr (frN_sL u _) (frN_sI _ 14 (by omega) _)
          refine ih m (n + 1) u2 (by omega) (by omega) (frN_TM f2 tm) (by rw [q2, q1]; exact e15) (by rw [q2, q1]; exact e13) (by rw [q2]; rfl) (by rw [q2, q1]; exact hy) (fun w fw a b c d => hQ w (frN_tr f2 fw) (a.trans (by rw [q2, q1]; rfl)) b c d)
        by_cases hg : n < 6
        · rw [if_neg (show ¬ (6 : Int32) ≤ nI n from nI_ge (b := 6) hg (by omega))]
          refine ⟨vp_in_nI (by omega) (by omega), fin _ ?_⟩
          show _ = if n < 6 then _ else _
          rw [if_pos hg, cl_nI (by omega), tm.2.1 _ (by omega)]
        · rw [if_pos (show (6 : Int32) ≤ nI n from nI_le (a := 6) (by omega) (by omega))]
          refine fin _ ?_
          show _ = if n < 6 then _ else _
          rw [if_neg hg]
      · rw [if_neg hc] at hQ
        rw [if_neg hc, if_pos rfl]
        exact out u e15 (hQ u (frN_rf u) rfl e15 e14 (by rw [eL]; congr 1; omega))
def soF (B : Nat → Int32) (T st : Nat) : Int32 := if T ≤ st then 0 else kd (B st)
def wth (B : Nat → Int32) (T st : Nat) : Int64 := if T ≤ st then 0 else if kd (B st) = 3 then (B st).toInt64 else if kd (B st) = 1 then wW B st (tkE B T st - st) else lN (dV B st (tkE B T st - st))
def MS (B : Nat → Int32) (T st : Nat) (v : UU) : Prop := st ≤ T ∧ v.1 13 = nI st ∧ v.1 14 = nI (tkE B T st) ∧ v.1 15 = soF B T st ∧ v.2.2 0 = wth B T st
theorem next46 (N : Nat) (hN : 4000 ≤ N) (Q : UU → Prop) (B : Nat → Int32) (T st : Nat) (hst : st ≤ T) (u : UU) (tm : TM u B T) (e13 : u.1 13 = nI st) (hQ : ∀ w, frN u w → MS B T st w → Q w) : m_X12_next_46 N u Q := by
  have t3 := tm.2.2
  obtain ⟨N', eN⟩ : ∃ m, N = m + 1 := ⟨N - 1, by omega⟩
  have o243 : ∀ u : UU, ¬ u.1 15 = 2 → Q u → m_X12_next_243 N Q N u := by
    intro u e h
    have := n243_no N Q N' u e h
    rw [← eN] at this; exact this
  have o149 : ∀ u : UU, ¬ u.1 15 = 1 → m_X12_next_243 N Q N u → m_X12_next_149 N Q N u := by
    intro u e h
    have := n149_no N Q N' u e h
    rw [← eN] at this; exact this
  unfold m_X12_next_46
  intro u1 q1 u2 q2
  have f2 : frN u u2 := by rw [q2, q1]; exact frN_tr (frN_sI u 14 (by omega) _) (frN_sL _ _)
  have tm2 := frN_TM f2 tm
  have g13 : u2.1 13 = nI st := by rw [q2, q1]; exact e13
  have g14 : u2.1 14 = nI st := by rw [q2, q1]; exact e13
  have gL : u2.2.2 0 = 0 := by rw [q2]; rfl
  rw [g13, tm2.1]
  have s15 : ∀ y, (sI u2 15 y).1 15 = y := fun y => rfl
  by_cases hlt : st = T
  · rw [if_pos (by rw [hlt])]
    unfold m_X12_next_114
    intro u3 q3
    have h15 : u3.1 15 = 0 := by rw [q3]; rfl
    rw [h15, if_neg (by decide)]
    have f3 : frN u u3 := by rw [q3]; exact frN_tr f2 (frN_sI u2 15 (by omega) _)
    refine o149 u3 (by rw [h15]; decide) (o243 u3 (by rw [h15]; decide) (hQ u3 f3 ⟨hst, by rw [q3]; exact g13, ?_, ?_, ?_⟩))
    · unfold tkE; rw [if_pos (by omega), q3]; exact g14
    · unfold soF; rw [if_pos (by omega)]; exact h15
    · unfold wth; rw [if_pos (by omega), q3]; exact gL
  · have hlt' : st < T := by omega
    rw [if_neg (fun q => hlt ((nI_eq (by omega) (by omega)).mp q))]
    refine ⟨vp_in_nI (by omega) (by omega), ?_⟩
    rw [cl_nI (by omega), tm2.2.1 st hlt', isSmall_eq]
    by_cases k1 : kd (B st) = 1
    · rw [if_pos k1, if_neg (by decide)]
      unfold m_X12_next_114
      intro u3 q3
      have h15 : u3.1 15 = 1 := by rw [q3]; rfl
      rw [h15, if_neg (by decide)]
      have f3 : frN u u3 := by rw [q3]; exact frN_tr f2 (frN_sI u2 15 (by omega) _)
      refine n149 N hN Q B T st N (T - st) 0 u3 (by omega) (by omega) (frN_TM f3 tm) h15 (by rw [q3]; exact g13) (by rw [q3]; exact g14) (by rw [q3]; exact gL) (fun w fw a b c d => hQ w (frN_tr f3 fw) ⟨hst, a.trans (by rw [q3]; exact g13), ?_, ?_, ?_⟩)
      · unfold tkE; rw [if_neg (by omega), if_neg (by rw [k1]; decide), k1]; exact c
      · unfold soF; rw [if_neg (by omega), k1]; exact b
      · unfold wth; rw [if_neg (by omega), if_neg (by rw [k1]; decide), if_pos k1]
        unfold tkE; rw [if_neg (by omega), if_neg (by rw [k1]; decide), k1]; exact d
    · rw [if_neg k1, if_pos rfl]
      rw [g13]
      refine ⟨vp_in_nI (by omega) (by omega), ?_⟩
      rw [cl_nI (by omega), tm2.2.1 st hlt', isDigit_eq]
      by_cases k2 : kd (B st) = 2
      · rw [if_pos k2, if_neg (by decide)]
        unfold m_X12_next_114
        intro u3 q3
        have h15 : u3.1 15 = 2 := by rw [q3]; rfl
        rw [h15, if_neg (by decide)]
        have f3 : frN u u3 := by rw [q3]; exact frN_tr f2 (frN_sI u2 15 (by omega) _)
        refine o149 u3 (by rw [h15]; decide) ?_
        refine n243 N Q B T st N (T - st) 0 u3 (by omega) (by omega) (frN_TM f3 tm) h15 (by rw [q3]; exact g14) (by rw [q3]; exact gL) (fun j hj => by omega) (fun w fw a b c d => hQ w (frN_tr f3 fw) ⟨hst, a.trans (by rw [q3]; exact g13), ?_, ?_, ?_⟩)
        · unfold tkE; rw [if_neg (by omega), if_neg (by rw [k2]; decide), k2]; exact c
        · unfold soF; rw [if_neg (by omega), k2]; exact b
        · unfold wth; rw [if_neg (by omega), if_neg (by rw [k2]; decide), if_neg k1]
          unfold tkE; rw [if_neg (by omega), if_neg (by rw [k2]; decide), k2]; exact d
      · have k3 : kd (B st) = 3 := by rcases kd_123 (B st) with q | q | q; exact absurd q k1; exact absurd q k2; exact q
        rw [if_neg k2, if_pos rfl]
        unfold m_X12_next_114
        intro u3 q3
        have h15 : u3.1 15 = 3 := by rw [q3]; rfl
        have h13 : u3.1 13 = nI st := by rw [q3]; exact g13
        have f3 : frN u u3 := by rw [q3]; exact frN_tr f2 (frN_sI u2 15 (by omega) _)
        have tm3 := frN_TM f3 tm
        rw [h15, if_pos rfl, h13]
        refine ⟨vp_in_nI (by omega) (by omega), fun u4 q4 u5 q5 => ?_⟩
        rw [cl_nI (by omega), tm3.2.1 st hlt'] at q4
        have g4 : u4.1 14 = nI st := by rw [q4, q3]; exact g14
        rw [g4, nI_1] at q5
        have h5 : u5.1 15 = 3 := by rw [q5, q4]; exact h15
        have f5 : frN u u5 := by rw [q5, q4]; exact frN_tr f3 (frN_tr (frN_sL u3 _) (frN_sI _ 14 (by omega) _))
        refine o149 u5 (by rw [h5]; decide) (o243 u5 (by rw [h5]; decide) (hQ u5 f5 ⟨hst, by rw [q5, q4]; exact h13, ?_, ?_, ?_⟩))
        · unfold tkE; rw [if_neg (by omega), if_pos k3, q5]; rfl
        · unfold soF; rw [if_neg (by omega), k3]; exact h5
        · unfold wth; rw [if_neg (by omega), if_pos k3, q5, q4]; rfl
theorem next8 (N : Nat) (hN : 4000 ≤ N) (Q : UU → Prop) (B : Nat → Int32) (T : Nat) : ∀ (f n s : Nat) (u : UU), s + n = T → n < f → TM u B T → u.1 13 = nI s → (∀ w, frN u w → MS B T (skp B n s) w → Q w) → m_X12_next_8 N Q f u := by
  intro f
  induction f with
  | zero => intro n t u h1 h2; omega
  | succ f ih =>
    intro n s u h1 h2 tm e13 hQ
    have t3 := tm.2.2
    rw [m_X12_next_8, tm.1, e13]
    match n, h1, h2, hQ with
    | 0, h1, h2, hQ =>
      rw [if_pos (nI_le (by omega) (by omega))]
      exact next46 N hN Q B T s (by omega) u tm e13 hQ
    | n + 1, h1, h2, hQ =>
      rw [if_neg (nI_ge (by omega) (by omega))]
      refine ⟨vp_in_nI (by omega) (by omega), ?_⟩
      rw [cl_nI (by omega), tm.2.1 s (by omega)]
      unfold skp at hQ
      by_cases hc : B s = 32
      · rw [if_pos hc] at hQ ⊢
        intro u3 e3
        rw [nI_1] at e3
        have f3 : frN u u3 := by rw [e3]; exact frN_sI u 13 (by omega) _
        exact ih n (s + 1) u3 (by omega) (by omega) (frN_TM f3 tm) (by rw [e3]; rfl) (fun w hw a => hQ w (frN_tr f3 hw) a)
      · rw [if_neg hc] at hQ ⊢; exact next46 N hN Q B T s (by omega) u tm e13 hQ
theorem next_ok (N : Nat) (hN : 4000 ≤ N) (Q : UU → Prop) (B : Nat → Int32) (T s : Nat) (hs : s ≤ T) (u : UU) (tm : TM u B T) (e14 : u.1 14 = nI s) (hQ : ∀ w, frN u w → MS B T (skp B (T - s) s) w → Q w) : m_X12_next N u Q := by
  have t3 := tm.2.2
  unfold m_X12_next
  intro u1 e1
  rw [e14] at e1
  have f1 : frN u u1 := by rw [e1]; exact frN_sI u 13 (by omega) _
  exact next8 N hN Q B T N (T - s) s u1 (by omega) (by omega) (frN_TM f1 tm) (by rw [e1]; rfl) (fun w hw a => hQ w (frN_tr f1 hw) a)
theorem nextT (N : Nat) (hN : 4000 ≤ N) (Q : UU → Prop) (B : Nat → Int32) (T st : Nat) (u : UU) (tm : TM u B T) (ms : MS B T st u) (hQ : ∀ w, frN u w → MS B T (nx B T st) w → Q w) : m_X12_next N u Q :=
  next_ok N hN Q B T (tkE B T st) (tkE_le B T st ms.1).2 u tm ms.2.2.1 hQ
