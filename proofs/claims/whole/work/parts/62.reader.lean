/-! the class's reader: words, numbers, rules -/
theorem word_loop (N : Nat) (hN : 4000 ≤ N) (Q : Int32 → UU → Prop) (B : Nat → Int32) (T st i : Nat) (hi : i < 7) (u : UU) (tp : TP u B T) (cs : CS B T st u) (hl : tkE B T st = st + sLen i) (h1 : isW B T i st → ∀ w, frR u w → CS B T (nx B T st) w → w.1 13 = u.1 13 → Q 1 w) (h0 : ¬ isW B T i st → Q 0 u) :
    ∀ (f k : Nat), k ≤ sLen i → sLen i < k + f → (∀ j, j < k → B (st + j) = sCh i (nI j)) → m_X6_takeWord_s_20 N Q f i (nI k) u
  | 0, k, a, b, _ => by omega
  | f + 1, k, a, b, hk => by
    have hs5 := sLen_lt i hi
    have tl := tkE_le B T st cs.1
    have t3 := tp.2.2
    rw [m_X6_takeWord_s_20]
    refine ⟨hi, ?_⟩
    show if nI (sLen i) ≤ nI k then _ else _
    by_cases e : k = sLen i
    · rw [if_pos (nI_le (by omega) (by omega))]
      refine stepT N hN _ B T st u tp cs (fun w hw c g => ⟨nb_1, h1 ⟨hl, fun j hj => hk j (by omega)⟩ w hw c g⟩)
    · rw [if_neg (nI_ge (by omega) (by omega)), cs.2.1, nI_add, byteAt_eq N _ tp (st + k) (by omega)]
      refine ⟨hi, vp_in_nI (by omega) (by omega), ?_⟩
      by_cases c : B (st + k) = sCh i (nI k)
      · rw [if_pos c]
        intro z ez; rw [ez, nI_1]
        refine word_loop N hN Q B T st i hi u tp cs hl h1 h0 f (k + 1) (by omega) (by omega) (fun j hj => ?_)
        by_cases ej : j = k
        · subst ej; exact c
        · exact hk j (by omega)
      · rw [if_neg c]
        exact ⟨nb_0, h0 (fun q => c (q.2 k (by omega)))⟩
theorem tw_ok (N : Nat) (hN : 4000 ≤ N) (Q : Int32 → UU → Prop) (B : Nat → Int32) (T st i : Nat) (hi : i < 7) (u : UU) (tp : TP u B T) (cs : CS B T st u) (h1 : isW B T i st → ∀ w, frR u w → CS B T (nx B T st) w → w.1 13 = u.1 13 → Q 1 w) (h0 : ¬ isW B T i st → Q 0 u) : m_X6_takeWord_s N i u Q := by
  have hs5 := sLen_lt i hi
  have tl := tkE_le B T st cs.1
  have t3 := tp.2.2
  unfold m_X6_takeWord_s
  refine ⟨hi, ?_⟩
  show if (u.1 12) - (u.1 11) = nI (sLen i) then _ else _
  rw [cs.2.1, cs.2.2, pk_sub tl.1]
  by_cases c : tkE B T st - st = sLen i
  · rw [if_pos (by rw [c])]
    exact word_loop N hN Q B T st i hi u tp cs (by omega) h1 h0 N 0 (by omega) (by omega) (fun j hj => by omega)
  · rw [if_neg (fun q => c ((nI_eq (by omega) (by omega)).mp q))]
    exact ⟨nb_0, h0 (fun q => c (by have := q.1; omega))⟩
theorem num_loop (N : Nat) (hN : 4000 ≤ N) (Q : Int32 → UU → Prop) (B : Nat → Int32) (T st : Nat) (hst : st < T) (hk : kd (B st) = 2) (u : UU) (tp : TP u B T) (cs : CS B T st u) (h1 : ∀ a, num B T st = some a → ∀ w, frR u w → CS B T (nx B T st) w → w.1 13 = nI a → Q 1 w) (h0 : num B T st = none → Q 0 u) :
    ∀ (f n : Nat), st + n ≤ tkE B T st → tkE B T st < st + n + f → m_X6_takeNumber_34 N Q f (nI (vC B st n)) (nI (st + n)) u
  | 0, n, a, b => by omega
  | f + 1, n, a, b => by
    have tl := tkE_le B T st cs.1
    have t3 := tp.2.2
    have hv := vC_le B st n
    rw [m_X6_takeNumber_34, cs.2.2]
    by_cases e : st + n = tkE B T st
    · rw [if_pos (nI_le (by omega) (by omega))]
      have en : n = tkE B T st - st := by omega
      unfold num at h1 h0
      rw [if_neg (by omega), if_pos hk, ← en] at h1 h0
      rcases vC_dV B st n with ⟨d1, d2⟩ | ⟨d1, d2⟩
      · rw [if_pos d1] at h1 h0
        rw [d2, if_pos (show nI (dV B st n) ≤ 100 from nI_le (b := 100) d1 (by omega))]
        intro u1 e1
        have f1 : frR u u1 := by rw [e1]; exact frR_sI u 13 (by omega) _
        refine stepT N hN _ B T st u1 (frR_TP f1 tp) ⟨cs.1, by rw [e1]; exact cs.2.1, by rw [e1]; exact cs.2.2⟩ (fun w hw c g => ⟨nb_1, ?_⟩)
        exact h1 _ rfl w (frR_tr f1 hw) c (g.trans (by rw [e1]; rfl))
      · rw [if_neg (by omega)] at h1 h0
        rw [d2, if_neg (by decide)]
        exact ⟨nb_0, h0 rfl⟩
    · rw [if_neg (nI_ge (by omega) (by omega)), byteAt_eq N _ tp (st + n) (by omega)]
      have hkn : kd (B (st + n)) = 2 := (tkE_mem B T st (st + n) (by omega) (by omega)).trans hk
      obtain ⟨d1, d2⟩ := dgt_ok hkn
      have ex : nI (vC B st n) * 10 + B (st + n) - 48 = nI (vC B st n * 10 + dgt (B (st + n))) := by
        conv => lhs; rw [d1]
        rw [show (10 : Int32) = nI 10 from rfl, show (48 : Int32) = nI 48 from rfl, pk_mul, nI_add, pk_sub (by omega)]
        congr 1; omega
      rw [ex]
      intro z6 q6 z7 q7
      rw [q7, nI_1, q6, show st + n + 1 = st + (n + 1) by omega]
      have ih := num_loop N hN Q B T st hst hk u tp cs h1 h0 f (n + 1) (by omega) (by omega)
      unfold vC at ih
      by_cases c : vC B st n * 10 + dgt (B (st + n)) < 101
      · rw [if_pos c] at ih
        rw [if_pos (show nI (vC B st n * 10 + dgt (B (st + n))) < 101 from nI_lt (b := 101) c (by omega))]; exact ih
      · rw [if_neg c] at ih
        rw [if_neg (show ¬ nI (vC B st n * 10 + dgt (B (st + n))) < 101 from nI_nlt (b := 101) (by omega) (by omega))]; exact ih
theorem atEnd_eq (N : Nat) (Q : Int32 → UU → Prop) (B : Nat → Int32) (T st : Nat) (u : UU) (tp : TP u B T) (cs : CS B T st u) : m_X6_isAtEnd N u Q ↔ Q (if st < T then 0 else 1) u := by
  have t3 := tp.2.2
  unfold m_X6_isAtEnd
  rw [cs.2.1, tp.1]
  by_cases h : st < T
  · rw [if_pos (nI_lt h (by omega)), if_pos h]; exact ⟨fun q => q.2, fun q => ⟨nb_0, q⟩⟩
  · rw [if_neg (nI_nlt (by omega) (by have := cs.1; omega)), if_neg h]; exact ⟨fun q => q.2, fun q => ⟨nb_1, q⟩⟩
theorem tn_ok (N : Nat) (hN : 4000 ≤ N) (Q : Int32 → UU → Prop) (B : Nat → Int32) (T st : Nat) (u : UU) (tp : TP u B T) (cs : CS B T st u) (h1 : ∀ a, num B T st = some a → ∀ w, frR u w → CS B T (nx B T st) w → w.1 13 = nI a → Q 1 w) (h0 : num B T st = none → Q 0 u) : m_X6_takeNumber N u Q := by
  have tl := tkE_le B T st cs.1
  have t3 := tp.2.2
  unfold m_X6_takeNumber
  rw [atEnd_eq N _ B T st u tp cs]
  by_cases h : st < T
  · rw [if_pos h, if_pos rfl, cs.2.1, byteAt_eq N _ tp st h, kindOf_eq]
    by_cases hk : kd (B st) = 2
    · rw [if_pos hk]
      intro z ez
      rw [ez, cs.2.1]
      exact num_loop N hN Q B T st h hk u tp cs h1 h0 N 0 (by omega) (by omega)
    · rw [if_neg hk]
      exact ⟨nb_0, h0 (by unfold num; rw [if_neg (by omega), if_neg hk])⟩
  · rw [if_neg h, if_neg (by decide)]
    exact ⟨nb_0, h0 (by unfold num; rw [if_pos (by omega)])⟩
/-! what the rules say: one rule, all rules -/
def isWb (B : Nat → Int32) (T i st : Nat) : Bool := decide (tkE B T st = st + sLen i) && (List.range (sLen i)).all (fun k => decide (B (st + k) = sCh i (nI k)))
theorem isWb_iff (B : Nat → Int32) (T i st : Nat) : isWb B T i st = true ↔ isW B T i st := by
  unfold isWb isW wordAt
  simp only [Bool.and_eq_true, decide_eq_true_eq, List.all_eq_true, List.mem_range]
theorem isWb_f {B : Nat → Int32} {T i st : Nat} (h : ¬ isW B T i st) : isWb B T i st = false := by
  cases e : isWb B T i st
  · rfl
  · exact absurd ((isWb_iff B T i st).mp e) h
def rdNum (B : Nat → Int32) (T s : Nat) (K : Nat → Nat → Nat ⊕ ((Nat × Nat × Nat × Nat) × Nat)) : Nat ⊕ ((Nat × Nat × Nat × Nat) × Nat) := match num B T s with
  | none => .inl s
  | some a => K a (nx B T s)
def rdWord (B : Nat → Int32) (T i s : Nat) (K : Nat → Nat ⊕ ((Nat × Nat × Nat × Nat) × Nat)) : Nat ⊕ ((Nat × Nat × Nat × Nat) × Nat) := if isWb B T i s = true then K (nx B T s) else .inl s
def rdRule (B : Nat → Int32) (T st : Nat) : Nat ⊕ ((Nat × Nat × Nat × Nat) × Nat) :=
  if isWb B T 0 st = true then rdNum B T (nx B T st) (fun a s2 => rdWord B T 1 s2 (fun s3 => rdNum B T s3 (fun b s4 => if isWb B T 2 s4 = true then rdNum B T (nx B T s4) (fun c s6 => .inr ((0, a, b, c), s6)) else .inr ((0, a, b, 0), s4))))
  else if isWb B T 3 st = true then rdWord B T 4 (nx B T st) (fun s2 => rdNum B T s2 (fun a s3 => .inr ((1, a, 0, 0), s3)))
  else if isWb B T 5 st = true then rdNum B T (nx B T st) (fun a s2 => .inr ((2, a, 0, 0), s2))
  else .inl st
def rdAll (B : Nat → Int32) (T : Nat) : Nat → Nat → List (Nat × Nat × Nat × Nat) → Option Nat × List (Nat × Nat × Nat × Nat)
  | 0, st, acc => (some st, acc)
  | f + 1, st, acc => match rdRule B T st with
    | .inl p => (some p, acc)
    | .inr (r, s) => if s < T then (if isWb B T 6 s = true then rdAll B T f (nx B T s) (acc ++ [r]) else (some s, acc ++ [r])) else (none, acc ++ [r])
def rdTop (B : Nat → Int32) (T : Nat) : Option Nat × List (Nat × Nat × Nat × Nat) := if skp B T 0 < T then rdAll B T 20 (skp B T 0) [] else (none, [])
def lsS (l : List (Int32 × Int32 × Int32)) (r : Nat × Nat × Nat × Nat) : List (Int32 × Int32 × Int32) := if r.1 = 0 then l ++ [(nI r.2.1, nI r.2.2.1, nI r.2.2.2)] else l
def rdS (x : Int32) (r : Nat × Nat × Nat × Nat) : Int32 := if r.1 = 1 then nI r.2.1 else x
def brS (x : Int32) (r : Nat × Nat × Nat × Nat) : Int32 := if r.1 = 0 ∨ r.1 = 1 then x else nI r.2.1
def lsL (acc : List (Nat × Nat × Nat × Nat)) : List (Int32 × Int32 × Int32) := acc.foldl lsS []
def rdL (acc : List (Nat × Nat × Nat × Nat)) : Int32 := acc.foldl rdS (-1)
def brL (acc : List (Nat × Nat × Nat × Nat)) : Int32 := acc.foldl brS 0
theorem lsL_sn (acc : List (Nat × Nat × Nat × Nat)) (r : Nat × Nat × Nat × Nat) : lsL (acc ++ [r]) = lsS (lsL acc) r := by unfold lsL; rw [List.foldl_append]; rfl
theorem rdL_sn (acc : List (Nat × Nat × Nat × Nat)) (r : Nat × Nat × Nat × Nat) : rdL (acc ++ [r]) = rdS (rdL acc) r := by unfold rdL; rw [List.foldl_append]; rfl
theorem brL_sn (acc : List (Nat × Nat × Nat × Nat)) (r : Nat × Nat × Nat × Nat) : brL (acc ++ [r]) = brS (brL acc) r := by unfold brL; rw [List.foldl_append]; rfl
theorem ls_len (acc : List (Nat × Nat × Nat × Nat)) : (lsL acc).length ≤ acc.length := by
  have key : ∀ (acc : List (Nat × Nat × Nat × Nat)) (l : List (Int32 × Int32 × Int32)), (acc.foldl lsS l).length ≤ l.length + acc.length := by
    intro acc
    induction acc with
    | nil => intro l; simp
    | cons r acc ih =>
      intro l
      have := ih (lsS l r)
      simp only [List.foldl_cons, List.length_cons]
      have h2 : (lsS l r).length ≤ l.length + 1 := by
        unfold lsS; split
        · simp
        · omega
      omega
  have := key acc []
  simpa [lsL] using this
def DR (acc : List (Nat × Nat × Nat × Nat)) (u : UU) : Prop := u.1 19 = nI (lsL acc).length ∧ u.1 20 = rdL acc ∧ u.1 21 = brL acc ∧ ∀ i (h : i < (lsL acc).length), (u.2.1 27 i, u.2.1 28 i, u.2.1 29 i) = (lsL acc)[i]
def frQ (u w : UU) : Prop := (∀ j, ¬ (11 ≤ j ∧ j ≤ 13) → ¬ (19 ≤ j ∧ j ≤ 22) → w.1 j = u.1 j) ∧ ∀ j, ¬ (27 ≤ j ∧ j ≤ 29) → w.2.1 j = u.2.1 j
theorem frQ_rf (u : UU) : frQ u u := ⟨fun _ _ _ => rfl, fun _ _ => rfl⟩
theorem frQ_tr {a b c : UU} (h1 : frQ a b) (h2 : frQ b c) : frQ a c := ⟨fun j p q => (h2.1 j p q).trans (h1.1 j p q), fun j p => (h2.2 j p).trans (h1.2 j p)⟩
theorem frQ_R {u w : UU} (h : frR u w) : frQ u w := ⟨fun j p q => h.1 j (by omega) (by omega) (by omega), fun j p => by rw [h.2]⟩
theorem frQ_TP {u w : UU} {B : Nat → Int32} {T : Nat} (h : frQ u w) (t : TP u B T) : TP w B T := ⟨(h.1 10 (by omega) (by omega)).trans t.1, (h.2 19 (by omega)).trans t.2.1, t.2.2⟩
theorem DR_R {acc : List (Nat × Nat × Nat × Nat)} {u w : UU} (h : frR u w) (d : DR acc u) : DR acc w := by
  unfold DR at *
  rw [h.1 19 (by omega) (by omega) (by omega), h.1 20 (by omega) (by omega) (by omega), h.1 21 (by omega) (by omega) (by omega), h.2]
  exact d
theorem addLoss_ok (N : Nat) (Q : UU → Prop) (acc : List (Nat × Nat × Nat × Nat)) (ha : acc.length < 20) (a b c : Nat) (u : UU) (d : DR acc u) (hQ : ∀ w, frQ u w → w.1 11 = u.1 11 → w.1 12 = u.1 12 → DR (acc ++ [(0, a, b, c)]) w → Q w) : m_X5_addLoss N (nI a) (nI b) (nI c) u Q := by
  have hl := ls_len acc
  obtain ⟨d19, d20, d21, dE⟩ := d
  unfold m_X5_addLoss
  rw [d19, if_neg (show ¬ (20 : Int32) ≤ nI (lsL acc).length from nI_ge (b := 20) (by omega) (by omega))]
  have hin : vp_in (nI (lsL acc).length) 20 := vp_in_nI (by omega) (by omega)
  refine ⟨hin, fun u1 e1 => ?_⟩
  have g1 : u1.1 19 = nI (lsL acc).length := by rw [e1]; exact d19
  rw [g1]
  refine ⟨hin, fun u2 e2 => ?_⟩
  have g2 : u2.1 19 = nI (lsL acc).length := by rw [e2]; exact g1
  rw [g2]
  refine ⟨hin, fun u3 e3 u4 e4 => ?_⟩
  have g3 : u3.1 19 = nI (lsL acc).length := by rw [e3]; exact g2
  rw [g3, nI_1] at e4
  rw [cl_nI (by omega)] at e1 e2 e3
  have ls : lsL (acc ++ [(0, a, b, c)]) = lsL acc ++ [(nI a, nI b, nI c)] := by rw [lsL_sn]; unfold lsS; rw [if_pos rfl]
  refine hQ u4 ⟨fun j p q => ?_, fun j p => ?_⟩ (by rw [e4, e3, e2, e1]; rfl) (by rw [e4, e3, e2, e1]; rfl) ⟨?_, ?_, ?_, ?_⟩
  · rw [e4, sI_1, if_neg (by omega), e3, e2, e1]; rfl
  · rw [e4, sI_2, e3, sA_21, if_neg (by omega), e2, sA_21, if_neg (by omega), e1, sA_21, if_neg (by omega)]
  · rw [ls, List.length_append, e4]; rfl
  · rw [rdL_sn, e4, e3, e2, e1]; unfold rdS; rw [if_neg (by simp)]; exact d20
  · rw [brL_sn, e4, e3, e2, e1]; unfold brS; rw [if_pos (Or.inl rfl)]; exact d21
  · intro i hi
    have h27 : u4.2.1 27 i = if i = (lsL acc).length then nI a else u.2.1 27 i := by rw [e4, e3, e2, e1]; rfl
    have h28 : u4.2.1 28 i = if i = (lsL acc).length then nI b else u.2.1 28 i := by rw [e4, e3, e2, e1]; rfl
    have h29 : u4.2.1 29 i = if i = (lsL acc).length then nI c else u.2.1 29 i := by rw [e4, e3, e2, e1]; rfl
    rw [h27, h28, h29]
    simp only [ls] at hi ⊢
    by_cases e : i = (lsL acc).length
    · simp only [e, if_true]; rw [List.getElem_append_right (by omega)]; simp
    · rw [if_neg e, if_neg e, if_neg e]
      rw [List.length_append] at hi; simp only [List.length_cons, List.length_nil] at hi
      rw [List.getElem_append_left (by omega)]; exact dE i (by omega)
