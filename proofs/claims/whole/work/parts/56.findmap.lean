/-! the reference's map -/
theorem far_ok (N : Nat) (Q : Int32 → UU → Prop) (b : Nat) (hb : b < 30) (x1 x2 : Int32) (u : UU) (h : Q (dF (u.2.1 0) (u.2.1 1) x1 x2 b) u) : m_X12_farOf N (nI b) x1 x2 u Q := by
  unfold m_X12_farOf
  have a := vp_in_nI hb (show 30 < 2 ^ 31 by omega)
  refine ⟨a, a, a, a, ?_⟩
  rw [cl_nI (by omega)]; exact h
theorem bestM_lt {T : Nat → Bool} {d : Nat → Int32} {n m : Nat} (h : bestM T d n = some m) : m < n := (bestM_some h).1
/-- what a round does with the board that it picks -/
def rndQ (k56 : Int32 → Int32 → Int32 → Int32 → Int32 → Int32 → Int64 → Int64 → Int32 → UU → Prop) (d z : Nat → Int32) (x1 x2 x3 x4 x5 x6 : Int32) (x7 x9 : Int64) (k : Nat) (u : UU) : Option Nat → Prop
  | none => k56 x1 x2 x3 x4 x5 x6 x7 x9 (nI (k + 1)) u
  | some m => k56 x1 x2 (x3 + 1) (if x3 = 0 then z m else if z m < x4 then z m else x4) (if x3 = 0 then z m else if x5 < z m then z m else x5) (if x3 = 0 then nI m else x6) (x7 + ((10000 : Int32) / (1 + d m)).toInt64) (x9 + ((10000 : Int32) / (1 + d m)).toInt64 * (z m).toInt64) (nI (k + 1)) (sA u 17 (upd (u.2.1 17) m 1))
theorem round_loop (N : Nat) (Q : Int32 → UU → Prop) (k56 : Int32 → Int32 → Int32 → Int32 → Int32 → Int32 → Int64 → Int64 → Int32 → UU → Prop) (T : Nat → Bool) (d : Nat → Int32) (x1 x2 x3 x4 x5 x6 : Int32) (x7 x9 : Int64) (k : Nat) (u : UU) (kb : Nat) (hkb : kb ≤ 30) (e2 : u.1 2 = nI kb) (hT : ∀ b, b < kb → u.2.1 17 b = iB (T b)) (ed : ∀ b, b < kb → d b = dF (u.2.1 0) (u.2.1 1) x1 x2 b) (hd : ∀ b, b < kb → ∃ m : Nat, m ≤ 7938 ∧ d b = nI m)
    (hQ : rndQ k56 d (u.2.1 14) x1 x2 x3 x4 x5 x6 x7 x9 k u (bestM T d kb)) : ∀ (f i : Nat), i ≤ kb → kb < i + f → m_X12_findMap_68 N k56 Q f x1 x2 x3 x4 x5 x6 x7 x9 (nI k) (oI (bestM T d i)) (nI i) u
  | 0, i, h1, h2 => by omega
  | f + 1, i, h1, h2 => by
    rw [m_X12_findMap_68, e2]
    have n1 : vp_nar .boolean 1 = 1 := by decide
    by_cases hi : i = kb
    · subst hi
      rw [if_pos (nI_le (Nat.le_refl _) (by omega))]
      cases e : bestM T d i with
      | none =>
        rw [e] at hQ
        rw [if_neg (show ¬ 0 ≤ oI none by decide)]
        unfold m_X12_findMap_259
        intro z1 q1; rw [q1, nI_1]; exact hQ
      | some m =>
        have hm := bestM_lt e
        rw [e] at hQ
        rw [if_pos (show 0 ≤ oI (some m) from nI_pos' (by omega))]
        have hin : vp_in (nI m) 30 := vp_in_nI (by omega) (by omega)
        refine ⟨hin, fun u1 e1 => ?_⟩
        rw [n1, show (oI (some m)).toNatClampNeg = m from cl_nI (by omega)] at e1
        refine far_ok N _ m (by omega) x1 x2 u1 ?_
        have hdm : dF (u1.2.1 0) (u1.2.1 1) x1 x2 m = d m := by rw [ed m hm, e1]; rfl
        rw [hdm]
        obtain ⟨mm, hmm, edm⟩ := hd m hm
        refine ⟨by rw [edm, show (1 : Int32) = nI 1 from rfl, nI_add]; exact nI_ne0 (by omega) (by omega), ?_⟩
        intro z4 q4 z5 q5
        refine ⟨hin, fun z6 q6 => ?_⟩
        have g14 : u1.2.1 14 = u.2.1 14 := by rw [e1]; rfl
        rw [show (oI (some m)).toNatClampNeg = m from cl_nI (by omega), g14] at q6
        rw [q6, q5, q4]
        simp only [rndQ] at hQ
        simp only [m_X12_findMap_194, m_X12_findMap_212, m_X12_findMap_224, m_X12_findMap_242, m_X12_findMap_254, m_X12_findMap_259, forall_eq, nI_1, show (oI (some m)).toNatClampNeg = m from cl_nI (by omega), g14]
        rw [← e1] at hQ
        have hin' : vp_in (oI (some m)) 30 := hin
        by_cases h3 : x3 = 0
        · simp only [h3, if_true] at hQ ⊢
          exact ⟨hin', hin', hQ⟩
        · simp only [h3, if_false] at hQ ⊢
          refine ⟨hin', ?_⟩
          by_cases h4 : x4 ≤ u.2.1 14 m
          · rw [if_neg (show ¬ u.2.1 14 m < x4 by grind)] at hQ
            rw [if_pos h4]
            refine ⟨hin', ?_⟩
            by_cases h5 : u.2.1 14 m ≤ x5
            · rw [if_neg (show ¬ x5 < u.2.1 14 m by grind)] at hQ
              rw [if_pos h5]; exact hQ
            · rw [if_pos (show x5 < u.2.1 14 m by grind)] at hQ
              rw [if_neg h5]; exact ⟨hin', hQ⟩
          · rw [if_pos (show u.2.1 14 m < x4 by grind)] at hQ
            rw [if_neg h4]
            refine ⟨hin', hin', ?_⟩
            by_cases h5 : u.2.1 14 m ≤ x5
            · rw [if_neg (show ¬ x5 < u.2.1 14 m by grind)] at hQ
              rw [if_pos h5]; exact hQ
            · rw [if_pos (show x5 < u.2.1 14 m by grind)] at hQ
              rw [if_neg h5]; exact ⟨hin', hQ⟩
    · rw [if_neg (nI_ge (by omega) (by omega))]
      refine ⟨vp_in_nI (by omega) (by omega), ?_⟩
      rw [cl_nI (by omega), hT i (by omega)]
      have ih := round_loop N Q k56 T d x1 x2 x3 x4 x5 x6 x7 x9 k u kb hkb e2 hT ed hd hQ f (i + 1) (by omega) (by omega)
      simp only [m_X12_findMap_111, m_X12_findMap_116, m_X12_findMap_118, forall_eq, nI_1]
      unfold bestM at ih
      by_cases hTi : T i = true
      · rw [if_pos hTi] at ih
        rw [if_neg (by rw [hTi]; decide)]; exact ih
      · rw [if_neg hTi] at ih
        rw [if_pos (by rw [show T i = false by simpa using hTi]; rfl)]
        cases e : bestM T d i with
        | none => rw [e] at ih; rw [if_pos (show oI none < 0 by decide)]; exact ih
        | some j =>
          have hj := bestM_lt e
          rw [e] at ih
          rw [if_neg (show ¬ oI (some j) < 0 from nI_pos (by omega))]
          refine far_ok N _ i (by omega) x1 x2 u ?_
          refine far_ok N _ j (by omega) x1 x2 u ?_
          rw [← ed i (by omega), ← ed j (by omega)]
          by_cases hd : d j ≤ d i
          · rw [if_pos hd]; simp only [hd, if_true] at ih; exact ih
          · rw [if_neg hd]; simp only [hd, if_false] at ih; exact ih
def frF (u w : UU) : Prop := (∀ j, j ≠ 8 → j ≠ 9 → w.1 j = u.1 j) ∧ ∀ j, j ≠ 17 → w.2.1 j = u.2.1 j
theorem frF_rf (u : UU) : frF u u := ⟨fun _ _ _ => rfl, fun _ _ => rfl⟩
theorem frF_tr {a b c : UU} (h1 : frF a b) (h2 : frF b c) : frF a c := ⟨fun j p q => (h2.1 j p q).trans (h1.1 j p q), fun j p => (h2.2 j p).trans (h1.2 j p)⟩
theorem frF_sA (u : UU) (r : Nat → Int32) : frF u (sA u 17 r) := ⟨fun _ _ _ => rfl, fun j p => by rw [sA_21, if_neg p]⟩
theorem frF_sI (u : UU) (k : Nat) (h : k = 8 ∨ k = 9) (x : Int32) : frF u (sI u k x) := ⟨fun j p q => by rw [sI_1, if_neg (by omega)], fun _ _ => rfl⟩
theorem taken_loop (N : Nat) (Q : Int32 → UU → Prop) (S : Nat → Bool) (x1 x2 : Int32) (kb : Nat) (hkb : kb ≤ 30) :
    ∀ (f i : Nat) (u : UU), i ≤ kb → kb < i + f → u.1 2 = nI kb → (∀ b, b < kb → u.2.1 16 b = iB (S b)) → (∀ b, b < i → u.2.1 17 b = iB (!S b)) →
      (∀ w, frF u w → (∀ b, b < kb → w.2.1 17 b = iB (!S b)) → m_X12_findMap_56 N Q N x1 x2 (0 : Int32) (0 : Int32) (0 : Int32) ((-1) : Int32) (0 : Int64) (0 : Int64) (0 : Int32) w) → m_X12_findMap_2 N Q f x1 x2 (nI i) u := by
  intro f
  induction f with
  | zero => intro i u h1 h2; omega
  | succ f ih =>
    intro i u h1 h2 e2 hS hT hQ
    rw [m_X12_findMap_2, e2]
    by_cases hi : i = kb
    · subst hi; rw [if_pos (nI_le (Nat.le_refl _) (by omega))]; exact hQ u (frF_rf u) hT
    · rw [if_neg (nI_ge (by omega) (by omega))]
      refine ⟨vp_in_nI (by omega) (by omega), ?_⟩
      have fin : ∀ b : Bool, b = !S i → m_X12_findMap_29 N (fun x1 x2 x3 u => m_X12_findMap_2 N Q f x1 x2 x3 u) x1 x2 (nI i) (nI i) (iB b) u Q := by
        intro b hb
        unfold m_X12_findMap_29
        refine ⟨vp_in_nI (by omega) (by omega), fun u1 e1 z ez => ?_⟩
        rw [cl_nI (by omega), show vp_nar .boolean (iB b) = iB b by cases b <;> decide] at e1
        rw [ez, nI_1]
        have f1 : frF u u1 := by rw [e1]; exact frF_sA u _
        refine ih (i + 1) u1 (by omega) (by omega) ((f1.1 2 (by omega) (by omega)).trans e2) (by rw [f1.2 16 (by omega)]; exact hS) (fun c hc => ?_) (fun w hw => hQ w (frF_tr f1 hw))
        rw [e1]; show upd (u.2.1 17) i (iB b) c = _
        rw [upd_at]
        by_cases hci : c = i
        · rw [if_pos hci, hci, hb]
        · rw [if_neg hci]; exact hT c (by omega)
      rw [cl_nI (by omega), hS i (by omega)]
      by_cases hs : S i = true
      · rw [if_neg (by rw [hs]; decide)]; exact fin false (by rw [hs]; rfl)
      · rw [if_pos (by rw [show S i = false by simpa using hs]; rfl)]; exact fin true (by rw [show S i = false by simpa using hs]; rfl)
theorem mroot_loop (N : Nat) (Q : Int32 → UU → Prop) (m b : Nat) (hb : b < 30) (hm : m ≤ 7938) (x1 x2 x3 x4 x5 : Int32) (u : UU) (ed : dF (u.2.1 0) (u.2.1 1) x1 x2 b = nI m) : ∀ (f k r : Nat), r + k = 120 → k < f →
    (∀ s, s = 100 - 4 * nI (rt m k r) - 10 * (3 - x3) - (x5 - x4) → Q 1 (sI u 9 (if 0 < s then s else 0))) → m_X12_findMap_301 N Q f x1 x2 x3 x4 x5 (nI b) (nI r) u
  | 0, k, r, h1, h2, _ => by omega
  | f + 1, k, r, h1, h2, hQ => by
    rw [m_X12_findMap_301]
    refine far_ok N _ b hb x1 x2 u ?_
    rw [ed, nI_1, pk_mul]
    have hr : (r + 1) * (r + 1) ≤ 121 * 121 := Nat.mul_le_mul (by omega) (by omega)
    have fin : (∀ s, s = 100 - 4 * nI r - 10 * (3 - x3) - (x5 - x4) → Q 1 (sI u 9 (if 0 < s then s else 0))) → ∀ z_3, z_3 = (((100 : Int32) - ((4 : Int32) * nI r)) - ((10 : Int32) * ((3 : Int32) - x3))) - (x5 - x4) → if 0 ≤ z_3 then (m_X12_findMap_361 N z_3 u Q) else (m_X12_findMap_361 N (0 : Int32) u Q) := by
      intro h z3 e3
      have hq := h z3 e3
      unfold m_X12_findMap_361
      by_cases hc : 0 ≤ z3
      · rw [if_pos hc]
        intro u1 a1; refine ⟨nb_1, ?_⟩
        rw [a1]
        by_cases h0 : 0 < z3
        · rw [if_pos h0] at hq; exact hq
        · rw [if_neg h0] at hq; rw [show z3 = 0 by grind]; exact hq
      · rw [if_neg hc]
        intro u1 a1; refine ⟨nb_1, ?_⟩
        rw [a1]
        rw [if_neg (by grind)] at hq; exact hq
    match k, h1, h2, hQ with
    | 0, h1, h2, hQ =>
      rw [if_pos (nI_lt (sq_lt hm (by omega)) (by omega))]; exact fin hQ
    | k + 1, h1, h2, hQ =>
      unfold rt at hQ
      by_cases hc : m < (r + 1) * (r + 1)
      · rw [if_pos hc] at hQ; rw [if_pos (nI_lt hc (by omega))]; exact fin hQ
      · rw [if_neg hc] at hQ; rw [if_neg (nI_nlt (by omega) (by omega))]
        intro z ez; rw [ez]
        exact mroot_loop N Q m b hb hm x1 x2 x3 x4 x5 u ed f k (r + 1) (by omega) (by omega) hQ
theorem cmp_eq (x y : Int64) : lg_cmp x y = 0 ↔ x = y := by
  unfold lg_cmp
  by_cases h1 : y < x
  · simp only [h1, if_true]
    have : ¬ x = y := by grind
    simp only [this, iff_false]; decide
  · by_cases h2 : x = y
    · subst h2; simp
    · simp only [h1, h2, if_false, iff_false]; decide
def tkF (S : Nat → Bool) (l : List Nat) (k b : Nat) : Bool := !S b || decide (b ∈ l.take k)
theorem tk_sel {S : Nat → Bool} {d : Nat → Int32} {kb k : Nat} : bestM (tkF S (fullC S d kb) k) d kb = (fullC S d kb)[k]? := by
  refine sel (full_srt kb) (fun b hb => (full_mem.mp hb).1) (fun b hb => ?_)
  unfold tkF
  rw [full_mem]
  by_cases hs : S b = true
  · simp [hs, hb]
  · simp [hs]
