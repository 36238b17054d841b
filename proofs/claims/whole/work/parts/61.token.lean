/-! the text of the rules: its tokens -/
def kd (x : Int32) : Int32 := if x < 97 then (if x < 48 then 3 else if 57 < x then 3 else 2) else if 122 < x then (if x < 48 then 3 else if 57 < x then 3 else 2) else 1
theorem kindOf_eq (N : Nat) (x : Int32) (u : UU) (Q : Int32 → UU → Prop) : m_X6_kindOf N x u Q ↔ Q (kd x) u := by
  unfold m_X6_kindOf m_X6_kindOf_14 kd
  by_cases a : x < 97
  · rw [if_pos a, if_pos a]
    by_cases b : x < 48
    · rw [if_pos b, if_pos b]
    · rw [if_neg b, if_neg b]
      by_cases c : 57 < x
      · rw [if_pos c, if_pos c]
      · rw [if_neg c, if_neg c]
  · rw [if_neg a, if_neg a]
    by_cases d : 122 < x
    · rw [if_pos d, if_pos d]
      by_cases b : x < 48
      · rw [if_pos b, if_pos b]
      · rw [if_neg b, if_neg b]
        by_cases c : 57 < x
        · rw [if_pos c, if_pos c]
        · rw [if_neg c, if_neg c]
    · rw [if_neg d, if_neg d]
theorem kd_1 (x : Int32) : kd x = 1 ↔ (97 ≤ x ∧ x ≤ 122) := by
  unfold kd
  by_cases a : x < 97
  · rw [if_pos a]
    constructor
    · intro h; split at h
      · exact absurd h (by decide)
      · split at h <;> exact absurd h (by decide)
    · rintro ⟨p, -⟩; grind
  · rw [if_neg a]
    by_cases d : 122 < x
    · rw [if_pos d]
      constructor
      · intro h; split at h
        · exact absurd h (by decide)
        · split at h <;> exact absurd h (by decide)
      · rintro ⟨-, p⟩; grind
    · rw [if_neg d]; constructor
      · intro _; constructor <;> grind
      · intro _; rfl
theorem kd_2 (x : Int32) : kd x = 2 ↔ (48 ≤ x ∧ x ≤ 57) := by
  unfold kd
  by_cases b : x < 48
  · rw [if_pos b]
    constructor
    · intro h; split at h
      · exact absurd h (by decide)
      · split at h <;> exact absurd h (by decide)
    · rintro ⟨p, -⟩; grind
  · rw [if_neg b]
    by_cases c : 57 < x
    · rw [if_pos c]
      constructor
      · intro h; split at h
        · exact absurd h (by decide)
        · split at h <;> exact absurd h (by decide)
      · rintro ⟨-, p⟩; grind
    · rw [if_neg c, if_pos (show x < 97 by grind)]
      constructor
      · intro _; constructor <;> grind
      · intro _; rfl
theorem kd_123 (x : Int32) : kd x = 1 ∨ kd x = 2 ∨ kd x = 3 := by
  unfold kd
  split
  · split
    · exact Or.inr (Or.inr rfl)
    · split
      · exact Or.inr (Or.inr rfl)
      · exact Or.inr (Or.inl rfl)
  · split
    · split
      · exact Or.inr (Or.inr rfl)
      · split
        · exact Or.inr (Or.inr rfl)
        · exact Or.inr (Or.inl rfl)
    · exact Or.inl rfl
def skp (B : Nat → Int32) : Nat → Nat → Nat
  | 0, s => s
  | n + 1, s => if B s = 32 then skp B n (s + 1) else s
def rn (B : Nat → Int32) (k : Int32) : Nat → Nat → Nat
  | 0, t => t
  | n + 1, t => if kd (B t) = k then rn B k n (t + 1) else t
def tkE (B : Nat → Int32) (T st : Nat) : Nat := if T ≤ st then st else if kd (B st) = 3 then st + 1 else rn B (kd (B st)) (T - st) st
def nx (B : Nat → Int32) (T st : Nat) : Nat := skp B (T - tkE B T st) (tkE B T st)
theorem skp_le (B : Nat → Int32) : ∀ n s, s ≤ skp B n s ∧ skp B n s ≤ s + n
  | 0, s => by simp [skp]
  | n + 1, s => by
    unfold skp; split
    · have := skp_le B n (s + 1); omega
    · omega
theorem rn_le (B : Nat → Int32) (k : Int32) : ∀ n t, t ≤ rn B k n t ∧ rn B k n t ≤ t + n
  | 0, s => by simp [rn]
  | n + 1, s => by
    unfold rn; split
    · have := rn_le B k n (s + 1); omega
    · omega
theorem rn_mem (B : Nat → Int32) (k : Int32) : ∀ n t j, t ≤ j → j < rn B k n t → kd (B j) = k
  | 0, t, j, h1, h2 => by simp only [rn] at h2; omega
  | n + 1, t, j, h1, h2 => by
    unfold rn at h2
    by_cases h : kd (B t) = k
    · rw [if_pos h] at h2
      by_cases e : j = t
      · subst e; exact h
      · exact rn_mem B k n (t + 1) j (by omega) h2
    · rw [if_neg h] at h2; omega
theorem tkE_le (B : Nat → Int32) (T st : Nat) (h : st ≤ T) : st ≤ tkE B T st ∧ tkE B T st ≤ T := by
  unfold tkE
  split
  · omega
  · split
    · omega
    · have := rn_le B (kd (B st)) (T - st) st; omega
theorem tkE_lt (B : Nat → Int32) (T st : Nat) (h : st < T) : st < tkE B T st := by
  unfold tkE
  rw [if_neg (by omega)]
  split
  · omega
  · obtain ⟨m, hm⟩ : ∃ m, T - st = m + 1 := ⟨T - st - 1, by omega⟩
    rw [hm]; unfold rn; rw [if_pos rfl]
    have := rn_le B (kd (B st)) m (st + 1); omega
theorem tkE_mem (B : Nat → Int32) (T st j : Nat) (h1 : st ≤ j) (h2 : j < tkE B T st) : kd (B j) = kd (B st) := by
  unfold tkE at h2
  by_cases a : T ≤ st
  · rw [if_pos a] at h2; omega
  · rw [if_neg a] at h2
    by_cases b : kd (B st) = 3
    · rw [if_pos b] at h2
      have : j = st := by omega
      rw [this]
    · rw [if_neg b] at h2; exact rn_mem _ _ _ _ _ h1 h2
theorem nx_le (B : Nat → Int32) (T st : Nat) (h : st ≤ T) : nx B T st ≤ T := by
  unfold nx
  have := tkE_le B T st h
  have := skp_le B (T - tkE B T st) (tkE B T st); omega
def wordAt (B : Nat → Int32) (i st sp : Nat) : Prop := sp = st + sLen i ∧ ∀ k, k < sLen i → B (st + k) = sCh i (nI k)
def isW (B : Nat → Int32) (T i st : Nat) : Prop := wordAt B i st (tkE B T st)
def dgt (x : Int32) : Nat := (x - 48).toNatClampNeg
theorem dgt_ok {x : Int32} (h : kd x = 2) : x = nI (48 + dgt x) ∧ dgt x ≤ 9 := by
  obtain ⟨a, b⟩ := (kd_2 x).mp h
  obtain ⟨m, hm, rfl⟩ := nat_of (n := 57) (by omega) (by grind) b
  have h48 : 48 ≤ m := (nI_leI (a := 48) (by omega) (by omega)).mp a
  unfold dgt
  rw [show (48 : Int32) = nI 48 from rfl, pk_sub h48, cl_nI (by omega)]
  exact ⟨by congr 1; omega, by omega⟩
def dV (B : Nat → Int32) (st : Nat) : Nat → Nat
  | 0 => 0
  | n + 1 => if 1000 < dV B st n then dV B st n else dV B st n * 10 + dgt (B (st + n))
def vC (B : Nat → Int32) (st : Nat) : Nat → Nat
  | 0 => 0
  | n + 1 => if vC B st n * 10 + dgt (B (st + n)) < 101 then vC B st n * 10 + dgt (B (st + n)) else 101
theorem vC_dV (B : Nat → Int32) (st : Nat) : ∀ n, (dV B st n ≤ 100 ∧ vC B st n = dV B st n) ∨ (100 < dV B st n ∧ vC B st n = 101)
  | 0 => Or.inl ⟨by simp [dV], rfl⟩
  | n + 1 => by
    have ih := vC_dV B st n
    unfold dV vC
    rcases ih with ⟨a, b⟩ | ⟨a, b⟩
    · rw [if_neg (by omega), b]
      by_cases c : dV B st n * 10 + dgt (B (st + n)) < 101
      · rw [if_pos c]; omega
      · rw [if_neg c]; omega
    · rw [b, if_neg (show ¬ 101 * 10 + dgt (B (st + n)) < 101 by omega)]
      refine Or.inr ⟨?_, rfl⟩
      split <;> omega
theorem vC_le (B : Nat → Int32) (st : Nat) : ∀ n, vC B st n ≤ 101
  | 0 => by simp [vC]
  | n + 1 => by unfold vC; split <;> omega
theorem dV_le (B : Nat → Int32) (st : Nat) : ∀ n, (∀ j, j < n → dgt (B (st + j)) ≤ 9) → dV B st n ≤ 10009
  | 0, _ => by simp [dV]
  | n + 1, h => by
    have ih := dV_le B st n (fun j hj => h j (by omega))
    have := h n (by omega)
    unfold dV; split <;> omega
def num (B : Nat → Int32) (T st : Nat) : Option Nat := if T ≤ st then none else if kd (B st) = 2 then (if dV B st (tkE B T st - st) ≤ 100 then some (dV B st (tkE B T st - st)) else none) else none
theorem num_le {B : Nat → Int32} {T st a : Nat} (h : num B T st = some a) : a ≤ 100 := by
  unfold num at h
  split at h
  · simp at h
  · split at h
    · split at h
      · simp only [Option.some.injEq] at h; omega
      · simp at h
    · simp at h
/-! the class's reader -/
def TP (u : UU) (B : Nat → Int32) (T : Nat) : Prop := u.1 10 = nI T ∧ u.2.1 19 = B ∧ T ≤ 200
def frR (u w : UU) : Prop := (∀ j, j ≠ 11 → j ≠ 12 → j ≠ 13 → w.1 j = u.1 j) ∧ w.2 = u.2
theorem frR_rf (u : UU) : frR u u := ⟨fun _ _ _ _ => rfl, rfl⟩
theorem frR_tr {a b c : UU} (h1 : frR a b) (h2 : frR b c) : frR a c := ⟨fun j p q r => (h2.1 j p q r).trans (h1.1 j p q r), h2.2.trans h1.2⟩
theorem frR_sI (u : UU) (k : Nat) (h : k = 11 ∨ k = 12 ∨ k = 13) (x : Int32) : frR u (sI u k x) := ⟨fun j p q r => by rw [sI_1, if_neg (by omega)], rfl⟩
theorem frR_TP {u w : UU} {B : Nat → Int32} {T : Nat} (h : frR u w) (t : TP u B T) : TP w B T := ⟨(h.1 10 (by omega) (by omega) (by omega)).trans t.1, by rw [h.2]; exact t.2.1, t.2.2⟩
theorem byteAt_eq (N : Nat) (Q : Int32 → UU → Prop) {u : UU} {B : Nat → Int32} {T : Nat} (t : TP u B T) (i : Nat) (hi : i < T) : m_X8_byteAt N (nI i) u Q ↔ Q (B i) u := by
  obtain ⟨t1, t2, t3⟩ := t
  unfold m_X8_byteAt
  rw [t1, t2, if_neg (nI_pos (by omega)), if_neg (nI_ge hi (by omega)), if_neg (show ¬ (200 : Int32) ≤ nI i from nI_ge (b := 200) (by omega) (by omega)), cl_nI (by omega)]
  exact ⟨fun h => h.2, fun h => ⟨vp_in_nI (by omega) (by omega), h⟩⟩
def CS (B : Nat → Int32) (T st : Nat) (u : UU) : Prop := st ≤ T ∧ u.1 11 = nI st ∧ u.1 12 = nI (tkE B T st)
theorem step92 (N : Nat) (Q : UU → Prop) (B : Nat → Int32) (T : Nat) (k : Int32) (hk : ¬ k = 3) : ∀ (f n t : Nat) (u : UU), t + n = T → n < f → TP u B T → u.1 12 = nI t → (∀ w, frR u w → w.1 11 = u.1 11 → w.1 13 = u.1 13 → w.1 12 = nI (rn B k n t) → Q w) → m_X6_step_92 N Q f k u := by
  intro f
  induction f with
  | zero => intro n t u h1 h2; omega
  | succ f ih =>
    intro n t u h1 h2 tp e12 hQ
    have t3 := tp.2.2
    rw [m_X6_step_92, if_neg hk, tp.1, e12]
    match n, h1, h2, hQ with
    | 0, h1, h2, hQ =>
      rw [if_pos (nI_le (by omega) (by omega))]; exact hQ u (frR_rf u) rfl rfl e12
    | n + 1, h1, h2, hQ =>
      rw [if_neg (nI_ge (by omega) (by omega)), byteAt_eq N _ tp t (by omega), kindOf_eq]
      unfold rn at hQ
      by_cases hc : kd (B t) = k
      · rw [if_pos hc] at hQ ⊢
        intro u5 e5
        rw [e12, nI_1] at e5
        have f5 : frR u u5 := by rw [e5]; exact frR_sI u 12 (by omega) _
        exact ih n (t + 1) u5 (by omega) (by omega) (frR_TP f5 tp) (by rw [e5]; rfl) (fun w hw a b c => hQ w (frR_tr f5 hw) (a.trans (by rw [e5]; rfl)) (b.trans (by rw [e5]; rfl)) c)
      · rw [if_neg hc] at hQ ⊢; exact hQ u (frR_rf u) rfl rfl e12
theorem step51 (N : Nat) (hN : 4000 ≤ N) (Q : UU → Prop) (B : Nat → Int32) (T st : Nat) (hst : st ≤ T) (u : UU) (tp : TP u B T) (e11 : u.1 11 = nI st) (hQ : ∀ w, frR u w → CS B T st w → w.1 13 = u.1 13 → Q w) : m_X6_step_51 N u Q := by
  have t3 := tp.2.2
  unfold m_X6_step_51 m_X6_isAtEnd
  intro u1 e1
  rw [e11] at e1
  have f1 : frR u u1 := by rw [e1]; exact frR_sI u 12 (by omega) _
  have tp1 := frR_TP f1 tp
  have g11 : u1.1 11 = nI st := by rw [e1]; exact e11
  have g12 : u1.1 12 = nI st := by rw [e1]; rfl
  have g13 : u1.1 13 = u.1 13 := by rw [e1]; rfl
  rw [g11, tp1.1]
  by_cases hlt : st < T
  · rw [if_pos (nI_lt hlt (by omega))]
    refine ⟨nb_0, ?_⟩
    show if (0 : Int32) = 0 then _ else _
    rw [if_pos rfl, g11, byteAt_eq N _ tp1 st hlt, kindOf_eq]
    intro u8 e8
    rw [g12, nI_1] at e8
    have f8 : frR u u8 := by rw [e8]; exact frR_tr f1 (frR_sI u1 12 (by omega) _)
    have g8 : u8.1 12 = nI (st + 1) := by rw [e8]; rfl
    have g81 : u8.1 11 = nI st := by rw [e8]; exact g11
    have g83 : u8.1 13 = u.1 13 := by rw [e8]; exact g13
    by_cases hk : kd (B st) = 3
    · obtain ⟨m, rfl⟩ : ∃ m, N = m + 1 := ⟨N - 1, by omega⟩
      rw [m_X6_step_92, if_pos hk]
      exact hQ u8 f8 ⟨hst, g81, by unfold tkE; rw [if_neg (by omega), if_pos hk]; exact g8⟩ g83
    · refine step92 N Q B T _ hk N (T - (st + 1)) (st + 1) u8 (by omega) (by omega) (frR_TP f8 tp) g8 (fun w hw a b c => hQ w (frR_tr f8 hw) ⟨hst, a.trans g81, ?_⟩ (b.trans g83))
      unfold tkE
      rw [if_neg (by omega), if_neg hk, show T - st = (T - (st + 1)) + 1 by omega]
      unfold rn; rw [if_pos rfl]; exact c
  · rw [if_neg (nI_nlt (by omega) (by omega))]
    refine ⟨nb_1, ?_⟩
    show if (1 : Int32) = 0 then _ else _
    rw [if_neg (by decide)]
    exact hQ u1 f1 ⟨hst, g11, by unfold tkE; rw [if_pos (by omega)]; exact g12⟩ g13
theorem step8 (N : Nat) (hN : 4000 ≤ N) (Q : UU → Prop) (B : Nat → Int32) (T : Nat) : ∀ (f n s : Nat) (u : UU), s + n = T → n < f → TP u B T → u.1 11 = nI s → (∀ w, frR u w → CS B T (skp B n s) w → w.1 13 = u.1 13 → Q w) → m_X6_step_8 N Q f u := by
  intro f
  induction f with
  | zero => intro n t u h1 h2; omega
  | succ f ih =>
    intro n s u h1 h2 tp e11 hQ
    have t3 := tp.2.2
    rw [m_X6_step_8, tp.1, e11]
    match n, h1, h2, hQ with
    | 0, h1, h2, hQ =>
      rw [if_pos (nI_le (by omega) (by omega))]
      exact step51 N hN Q B T s (by omega) u tp e11 hQ
    | n + 1, h1, h2, hQ =>
      rw [if_neg (nI_ge (by omega) (by omega)), byteAt_eq N _ tp s (by omega)]
      unfold skp at hQ
      by_cases hc : B s = 32
      · rw [if_pos hc] at hQ ⊢
        intro u3 e3
        rw [e11, nI_1] at e3
        have f3 : frR u u3 := by rw [e3]; exact frR_sI u 11 (by omega) _
        exact ih n (s + 1) u3 (by omega) (by omega) (frR_TP f3 tp) (by rw [e3]; rfl) (fun w hw a b => hQ w (frR_tr f3 hw) a (b.trans (by rw [e3]; rfl)))
      · rw [if_neg hc] at hQ ⊢; exact step51 N hN Q B T s (by omega) u tp e11 hQ
theorem step_ok (N : Nat) (hN : 4000 ≤ N) (Q : UU → Prop) (B : Nat → Int32) (T s : Nat) (hs : s ≤ T) (u : UU) (tp : TP u B T) (e12 : u.1 12 = nI s) (hQ : ∀ w, frR u w → CS B T (skp B (T - s) s) w → w.1 13 = u.1 13 → Q w) : m_X6_step N u Q := by
  have t3 := tp.2.2
  unfold m_X6_step
  intro u1 e1
  rw [e12] at e1
  have f1 : frR u u1 := by rw [e1]; exact frR_sI u 11 (by omega) _
  exact step8 N hN Q B T N (T - s) s u1 (by omega) (by omega) (frR_TP f1 tp) (by rw [e1]; rfl) (fun w hw a b => hQ w (frR_tr f1 hw) a (b.trans (by rw [e1]; rfl)))
theorem stepT (N : Nat) (hN : 4000 ≤ N) (Q : UU → Prop) (B : Nat → Int32) (T st : Nat) (u : UU) (tp : TP u B T) (cs : CS B T st u) (hQ : ∀ w, frR u w → CS B T (nx B T st) w → w.1 13 = u.1 13 → Q w) : m_X6_step N u Q :=
  step_ok N hN Q B T (tkE B T st) (tkE_le B T st cs.1).2 u tp cs.2.2 hQ
