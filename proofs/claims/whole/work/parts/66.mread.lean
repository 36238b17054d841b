/-! the reference's reader: words, must, numbers -/
theorem w93_ok (N : Nat) (Q : Int32 → UU → Prop) (B : Nat → Int32) (T st i : Nat) (hT : T ≤ 200) (hi : i < 6) (v : UU) (ms : MS B T st v) (y : Int64) (hy : y = lN (valr (rw6 i))) (hQ : Q (iB (isWb B T i st)) v) : m_X12_isWord_93 N y v Q := by
  have key := word_iff (B := B) (st := st) hT hi
  rw [← isWb_iff] at key
  unfold m_X12_isWord_93
  rw [ms.2.2.2.1, ms.2.2.2.2]
  by_cases a : soF B T st = 1
  · rw [if_pos a]
    by_cases b : wth B T st = lN (valr (rw6 i))
    · rw [key.mp ⟨a, b⟩] at hQ
      rw [if_pos (by rw [cmp_eq, hy]; exact b)]; exact ⟨nb_1, hQ⟩
    · have : isWb B T i st = false := by cases e : isWb B T i st; rfl; exact absurd (key.mpr e).2 b
      rw [this] at hQ
      rw [if_neg (by rw [cmp_eq, hy]; exact b)]; exact ⟨nb_0, hQ⟩
  · have : isWb B T i st = false := by cases e : isWb B T i st; rfl; exact absurd (key.mpr e).1 a
    rw [this] at hQ
    rw [if_neg a]; exact ⟨nb_0, hQ⟩
theorem isWord4_ok (N : Nat) (Q : Int32 → UU → Prop) (B : Nat → Int32) (T st i : Nat) (hT : T ≤ 200) (hi : i < 6) (v : UU) (ms : MS B T st v) (a b c d : Int32) (hc : ¬ c = 0) (hd : ¬ d = 0) (hy : ((((((a.toInt64 - 96) * 32 + b.toInt64) - 96) * 32 + c.toInt64) - 96) * 32 + d.toInt64) - 96 = lN (valr (rw6 i))) (hQ : Q (iB (isWb B T i st)) v) : m_X12_isWord N a b c d 0 v Q := by
  unfold m_X12_isWord m_X12_isWord_41 m_X12_isWord_67
  intro z ez
  rw [if_neg hc, if_neg hd, if_pos rfl]
  exact w93_ok N Q B T st i hT hi v ms _ (by rw [ez]; exact hy) hQ
theorem isWord5_ok (N : Nat) (Q : Int32 → UU → Prop) (B : Nat → Int32) (T st i : Nat) (hT : T ≤ 200) (hi : i < 6) (v : UU) (ms : MS B T st v) (a b c d e : Int32) (hc : ¬ c = 0) (hd : ¬ d = 0) (he : ¬ e = 0) (hy : ((((((((a.toInt64 - 96) * 32 + b.toInt64) - 96) * 32 + c.toInt64) - 96) * 32 + d.toInt64) - 96) * 32 + e.toInt64) - 96 = lN (valr (rw6 i))) (hQ : Q (iB (isWb B T i st)) v) : m_X12_isWord N a b c d e v Q := by
  unfold m_X12_isWord m_X12_isWord_41 m_X12_isWord_67
  intro z ez
  rw [if_neg hc, if_neg hd, if_neg he]
  exact w93_ok N Q B T st i hT hi v ms _ (by rw [ez]; exact hy) hQ
theorem isWord3_ok (N : Nat) (Q : Int32 → UU → Prop) (B : Nat → Int32) (T st i : Nat) (hT : T ≤ 200) (hi : i < 6) (v : UU) (ms : MS B T st v) (a b c : Int32) (hc : ¬ c = 0) (hy : ((((a.toInt64 - 96) * 32 + b.toInt64) - 96) * 32 + c.toInt64) - 96 = lN (valr (rw6 i))) (hQ : Q (iB (isWb B T i st)) v) : m_X12_isWord N a b c 0 0 v Q := by
  unfold m_X12_isWord m_X12_isWord_41 m_X12_isWord_67
  intro z ez
  rw [if_neg hc, if_pos rfl, if_pos rfl]
  exact w93_ok N Q B T st i hT hi v ms _ (by rw [ez]; exact hy) hQ
theorem w93_any (N : Nat) (Q : Int32 → UU → Prop) (v : UU) (y : Int64) (hQ : ∀ r, Q r v) : m_X12_isWord_93 N y v Q := by
  unfold m_X12_isWord_93
  split
  · split
    · exact ⟨nb_1, hQ 1⟩
    · exact ⟨nb_0, hQ 0⟩
  · exact ⟨nb_0, hQ 0⟩
theorem isWord_any (N : Nat) (Q : Int32 → UU → Prop) (v : UU) (a b c d e : Int32) (hQ : ∀ r, Q r v) : m_X12_isWord N a b c d e v Q := by
  unfold m_X12_isWord m_X12_isWord_41 m_X12_isWord_67
  intro z ez
  split
  · split
    · split
      · exact w93_any N Q v _ hQ
      · exact w93_any N Q v _ hQ
    · split
      · exact w93_any N Q v _ hQ
      · exact w93_any N Q v _ hQ
  · split
    · split
      · exact w93_any N Q v _ hQ
      · exact w93_any N Q v _ hQ
    · split
      · exact w93_any N Q v _ hQ
      · exact w93_any N Q v _ hQ
def bd (v : UU) (st : Nat) : UU := sI (sI v 17 1) 16 (nI st)
theorem must_ok (N : Nat) (hN : 4000 ≤ N) (Q : UU → Prop) (B : Nat → Int32) (T st : Nat) (v : UU) (tm : TM v B T) (ms : MS B T st v) (e17 : v.1 17 = 0) (b : Bool) (h1 : b = true → ∀ w, frN v w → MS B T (nx B T st) w → Q w) (h0 : b = false → Q (bd v st)) : m_X12_must N (iB b) v Q := by
  unfold m_X12_must m_X12_must_24
  rw [if_pos e17]
  cases b with
  | true =>
    rw [if_neg (show ¬ iB true = 0 by decide), if_pos e17]
    exact nextT N hN _ B T st v tm ms (h1 rfl)
  | false =>
    rw [if_pos (show iB false = 0 by decide)]
    refine ⟨nb_1, fun u1 q1 u2 q2 => ?_⟩
    have g13 : u1.1 13 = nI st := by rw [q1]; exact ms.2.1
    rw [g13] at q2
    rw [if_neg (by rw [q2, q1]; show ¬ (1 : Int32) = 0; decide), q2, q1]
    exact h0 rfl
theorem must_bad (N : Nat) (Q : UU → Prop) (v : UU) (x : Int32) (e17 : v.1 17 = 1) (h : Q v) : m_X12_must N x v Q := by
  unfold m_X12_must m_X12_must_24
  have e : ¬ v.1 17 = 0 := by rw [e17]; decide
  rw [if_neg e, if_neg e]; exact h
theorem number_bad (N : Nat) (Q : Int32 → UU → Prop) (v : UU) (e17 : v.1 17 = 1) (h : ∀ x, Q x v) : m_X12_number N v Q := by
  unfold m_X12_number m_X12_number_30 m_X12_number_31
  intro z ez
  split
  · split
    · exact must_bad N _ v _ e17 (h _)
    · exact must_bad N _ v _ e17 (h _)
  · exact must_bad N _ v _ e17 (h _)
theorem number_ok (N : Nat) (hN : 4000 ≤ N) (Q : Int32 → UU → Prop) (B : Nat → Int32) (T st : Nat) (v : UU) (tm : TM v B T) (ms : MS B T st v) (e17 : v.1 17 = 0) (h1 : ∀ a, num B T st = some a → ∀ w, frN v w → MS B T (nx B T st) w → Q (nI a) w) (h0 : num B T st = none → ∀ x, Q x (bd v st)) : m_X12_number N v Q := by
  have tl := tkE_le B T st ms.1
  unfold m_X12_number m_X12_number_30 m_X12_number_31
  intro z ez
  rw [ms.2.2.2.1, ms.2.2.2.2] at *
  have bad : num B T st = none → m_X12_must N 0 v (fun u_1 => Q z u_1) := fun e => must_ok N hN _ B T st v tm ms e17 false (fun q => absurd q (by decide)) (fun _ => h0 e z)
  by_cases a : T ≤ st
  · rw [if_neg (by unfold soF; rw [if_pos a]; decide)]
    exact bad (by unfold num; rw [if_pos a])
  by_cases k2 : kd (B st) = 2
  · rw [if_pos (show soF B T st = 2 by unfold soF; rw [if_neg a]; exact k2)]
    have all : ∀ j, j < tkE B T st - st → dgt (B (st + j)) ≤ 9 := fun j hj => (dgt_ok ((tkE_mem B T st (st + j) (by omega) (by omega)).trans k2)).2
    have hle := dV_le B st _ all
    have ew : wth B T st = lN (dV B st (tkE B T st - st)) := by unfold wth; rw [if_neg a, if_neg (by rw [k2]; decide), if_neg (by rw [k2]; decide)]
    rw [ew] at ez
    rw [ew]
    by_cases h100 : dV B st (tkE B T st - st) ≤ 100
    · rw [if_neg (by rw [cmp_gt]; exact fun q => absurd ((lN_lt (a := 100) (by omega) (by omega)).mp q) (by omega))]
      refine must_ok N hN _ B T st v tm ms e17 true (fun _ w fw mw => ?_) (fun q => absurd q (by decide))
      rw [ez, lN_i]
      exact h1 _ (by unfold num; rw [if_neg a, if_pos k2, if_pos h100]) w fw mw
    · rw [if_pos (show 0 < lg_cmp (lN (dV B st (tkE B T st - st))) 100 from (cmp_gt _ _).mpr ((lN_lt (a := 100) (by omega) (by omega)).mpr (by omega)))]
      exact bad (by unfold num; rw [if_neg a, if_pos k2, if_neg h100])
  · rw [if_neg (by unfold soF; rw [if_neg a]; exact k2)]
    exact bad (by unfold num; rw [if_neg a, if_neg k2])
