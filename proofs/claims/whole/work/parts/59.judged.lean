/-! claims judged -/
def lossS (A B : Int32) (p : Int32) (t : Int32 × Int32 × Int32) : Int32 := if A < t.2.1 then p else if B < t.2.2 then p else mx p t.1
def partF (rS rA rB rC : Nat → Int32) (A B : Int32) : Nat → Int32
  | 0 => 0
  | k + 1 => if rS k = 0 then lossS A B (partF rS rA rB rC A B k) (rA k, rB k, rC k) else partF rS rA rB rC A B k
theorem part_fold (rS rA rB rC : Nat → Int32) (A B : Int32) : ∀ k, (lossL rS rA rB rC k).foldl (lossS A B) 0 = partF rS rA rB rC A B k
  | 0 => rfl
  | k + 1 => by
    unfold lossL partF
    by_cases h : rS k = 0
    · rw [if_pos h, if_pos h, List.foldl_append, part_fold rS rA rB rC A B k]; rfl
    · rw [if_neg h, if_neg h]; exact part_fold rS rA rB rC A B k
theorem part_rng {rS rA rB rC : Nat → Int32} (A B : Int32) : ∀ k, (∀ i, i < k → 0 ≤ rA i ∧ rA i ≤ 100) → 0 ≤ partF rS rA rB rC A B k ∧ partF rS rA rB rC A B k ≤ 100
  | 0, _ => by show (0 : Int32) ≤ 0 ∧ (0 : Int32) ≤ 100; decide
  | k + 1, h => by
    have ih := part_rng (rS := rS) (rB := rB) (rC := rC) A B k (fun i hi => h i (by omega))
    have r := h k (by omega)
    unfold partF lossS mx
    split
    · split
      · exact ih
      · split
        · exact ih
        · split
          · exact r
          · exact ih
    · exact ih
theorem bear_rng {rS rA : Nat → Int32} : ∀ k, (∀ i, i < k → 0 ≤ rA i ∧ rA i ≤ 100) → 0 ≤ bearL rS rA k ∧ bearL rS rA k ≤ 100
  | 0, _ => by show (0 : Int32) ≤ 0 ∧ (0 : Int32) ≤ 100; decide
  | k + 1, h => by
    unfold bearL; split
    · exact bear_rng k (fun i hi => h i (by omega))
    · exact h k (by omega)
theorem radar_rng {rS rA : Nat → Int32} : ∀ k, (∀ i, i < k → 0 ≤ rA i ∧ rA i ≤ 100) → radarL rS rA k = -1 ∨ (0 ≤ radarL rS rA k ∧ radarL rS rA k ≤ 100)
  | 0, _ => Or.inl rfl
  | k + 1, h => by
    unfold radarL; split
    · exact Or.inr (h k (by omega))
    · exact radar_rng k (fun i hi => h i (by omega))
theorem lossFor_loop (N : Nat) (Q : Int32 → UU → Prop) (A B : Int32) (l : List (Int32 × Int32 × Int32)) (hl : l.length ≤ 20) (u : UU) (e15 : u.1 15 = nI l.length) (hu : ∀ i (h : i < l.length), (u.2.1 24 i, u.2.1 25 i, u.2.1 26 i) = l[i]) (hQ : Q (l.foldl (lossS A B) 0) u) :
    ∀ (f i : Nat), i ≤ l.length → l.length < i + f → m_X5_lossFor_5 N Q f A B ((l.take i).foldl (lossS A B) 0) (nI i) u
  | 0, i, h1, h2 => by omega
  | f + 1, i, h1, h2 => by
    rw [m_X5_lossFor_5, e15]
    by_cases hi : i = l.length
    · subst hi
      rw [if_pos (nI_le (Nat.le_refl _) (by omega)), List.take_length]; exact hQ
    · have hil : i < l.length := by omega
      rw [if_neg (nI_ge (by omega) (by omega))]
      have hin : vp_in (nI i) 20 := vp_in_nI (by omega) (by omega)
      have ih := lossFor_loop N Q A B l hl u e15 hu hQ f (i + 1) (by omega) (by omega)
      rw [List.take_succ_eq_append_getElem hil, List.foldl_append, ← hu i hil] at ih
      simp only [List.foldl_cons, List.foldl_nil, lossS] at ih
      simp only [m_X5_lossFor_48, forall_eq, nI_1, cl_nI (show i < 2 ^ 31 by omega)]
      refine ⟨hin, ?_⟩
      by_cases c1 : A < u.2.1 25 i
      · rw [if_pos c1] at ih ⊢; exact ih
      · rw [if_neg c1] at ih ⊢
        refine ⟨hin, ?_⟩
        by_cases c2 : B < u.2.1 26 i
        · rw [if_pos c2] at ih ⊢; exact ih
        · rw [if_neg c2] at ih ⊢
          exact ⟨hin, ih⟩
/-- what a claim is worth in the end -/
def payF (w p : Nat) : Int32 := nI (w * p / 100)
def mostF (r : Int32) : Int32 := if r = -1 then 1000 else r
theorem mjudged_loop (N : Nat) (Q : Int32 → UU → Prop) (x1 A B : Int32) (k : Nat) (hk : k ≤ 20) (u : UU) (e10 : u.1 10 = nI k) (e8 : u.1 8 = A) (e9 : u.1 9 = B) (hr : ∀ i, i < k → (0 ≤ u.2.1 19 i ∧ u.2.1 19 i ≤ 2) ∧ (0 ≤ u.2.1 20 i ∧ u.2.1 20 i ≤ 100))
    (hQ : ∀ f, m_X12_judged_70 N Q (f + 1) x1 (partF (u.2.1 19) (u.2.1 20) (u.2.1 21) (u.2.1 22) A B k) (bearL (u.2.1 19) (u.2.1 20) k) (mostF (radarL (u.2.1 19) (u.2.1 20) k)) (nI k) u) :
    ∀ (f i : Nat), i ≤ k → k < i + f → m_X12_judged_70 N Q f x1 (partF (u.2.1 19) (u.2.1 20) (u.2.1 21) (u.2.1 22) A B i) (bearL (u.2.1 19) (u.2.1 20) i) (mostF (radarL (u.2.1 19) (u.2.1 20) i)) (nI i) u
  | 0, i, h1, h2 => by omega
  | f + 1, i, h1, h2 => by
    by_cases hi : i = k
    · subst hi; exact hQ f
    · rw [m_X12_judged_70, e10]
      rw [if_neg (nI_ge (by omega) (by omega))]
      have hin : vp_in (nI i) 20 := vp_in_nI (by omega) (by omega)
      have ih := mjudged_loop N Q x1 A B k hk u e10 e8 e9 hr hQ f (i + 1) (by omega) (by omega)
      simp only [m_X12_judged_138, m_X12_judged_139, m_X12_judged_175, forall_eq, nI_1, cl_nI (show i < 2 ^ 31 by omega), e8, e9]
      refine ⟨hin, ?_⟩
      obtain ⟨-, r2⟩ := hr i (by omega)
      unfold partF bearL radarL lossS mx at ih
      by_cases c0 : u.2.1 19 i = 0
      · rw [if_pos c0, if_pos (Or.inl c0), if_neg (show ¬ u.2.1 19 i = 1 by rw [c0]; decide)] at ih
        rw [if_pos c0]
        refine ⟨hin, ?_⟩
        by_cases c1 : A < u.2.1 21 i
        · rw [if_pos c1] at ih ⊢; exact ih
        · rw [if_neg c1] at ih ⊢
          refine ⟨hin, ?_⟩
          by_cases c2 : B < u.2.1 22 i
          · rw [if_pos c2] at ih ⊢; exact ih
          · rw [if_neg c2] at ih ⊢
            refine ⟨hin, ?_⟩
            by_cases c3 : u.2.1 20 i ≤ partF (u.2.1 19) (u.2.1 20) (u.2.1 21) (u.2.1 22) A B i
            · rw [if_pos c3]
              rw [if_neg (by grind)] at ih; exact ih
            · rw [if_neg c3]
              rw [if_pos (by grind)] at ih; exact ⟨hin, ih⟩
      · rw [if_neg c0] at ih ⊢
        refine ⟨hin, ?_⟩
        by_cases c1 : u.2.1 19 i = 1
        · rw [if_pos c1] at ih ⊢
          rw [if_pos (Or.inr c1)] at ih
          refine ⟨hin, ?_⟩
          unfold mostF at ih
          rw [if_neg (show ¬ u.2.1 20 i = -1 by grind)] at ih; exact ih
        · rw [if_neg c1] at ih ⊢
          rw [if_neg (by rintro (q | q); exact c0 q; exact c1 q)] at ih
          exact ⟨hin, ih⟩
/-- both say 'not yet', or neither -/
theorem hold_iff {o r : Int32} (h0 : -100 ≤ o ∧ o ≤ 100) (hr : r = -1 ∨ (0 ≤ r ∧ r ≤ 100)) : (¬ r = -1 ∧ ¬ (if 0 ≤ o then o else 0 - o) ≤ r) ↔ (mostF r < o ∨ ¬ (-o) ≤ mostF r) := by
  unfold mostF
  have e1 : (-o).toInt = - o.toInt := by
    rw [Int32.toInt_neg, Int.bmod_def]
    have a := (i_le _ _).mp h0.1; have b := (i_le _ _).mp h0.2
    have c : (-100 : Int32).toInt = -100 := by decide
    have d : (100 : Int32).toInt = 100 := by decide
    omega
  have e2 : (0 - o).toInt = - o.toInt := by
    rw [Int32.toInt_sub, Int.bmod_def]
    have a := (i_le _ _).mp h0.1; have b := (i_le _ _).mp h0.2
    have c : (-100 : Int32).toInt = -100 := by decide
    have d : (100 : Int32).toInt = 100 := by decide
    have z : (0 : Int32).toInt = 0 := by decide
    omega
  have a := (i_le _ _).mp h0.1; have b := (i_le _ _).mp h0.2
  have c : (-100 : Int32).toInt = -100 := by decide
  have d : (100 : Int32).toInt = 100 := by decide
  have z : (0 : Int32).toInt = 0 := by decide
  have m : (1000 : Int32).toInt = 1000 := by decide
  rcases hr with hr | hr
  · rw [if_pos hr]
    constructor
    · rintro ⟨q, -⟩; exact absurd hr q
    · rintro (q | q)
      · rw [i_lt] at q; omega
      · rw [i_le, e1] at q; omega
  · have hne : ¬ r = -1 := by grind
    have r0 := (i_le _ _).mp hr.1
    rw [if_neg hne]
    by_cases o0 : 0 ≤ o
    · rw [if_pos o0, i_le, i_lt, i_le, e1]
      rw [i_le] at o0
      constructor
      · rintro ⟨-, q⟩; exact Or.inl (by omega)
      · rintro (q | q)
        · exact ⟨hne, by omega⟩
        · omega
    · rw [if_neg o0, i_le, i_lt, i_le, e1, e2]
      rw [i_le] at o0
      constructor
      · rintro ⟨-, q⟩; exact Or.inr (by omega)
      · rintro (q | q)
        · omega
        · exact ⟨hne, by omega⟩
