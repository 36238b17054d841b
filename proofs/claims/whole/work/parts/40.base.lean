/-! numbers -/
def bi (p : Prop) [Decidable p] : Int32 := if p then 1 else 0
theorem bi_0 {p : Prop} [Decidable p] : (bi p = 0) ↔ ¬ p := by unfold bi; by_cases h : p <;> simp [h]
theorem nb_bi {p : Prop} [Decidable p] : nb (bi p) := nb_if
theorem bi_t {p : Prop} [Decidable p] (h : p) : bi p = 1 := if_pos h
theorem bi_f {p : Prop} [Decidable p] (h : ¬ p) : bi p = 0 := if_neg h
theorem i_lt (a b : Int32) : a < b ↔ a.toInt < b.toInt := Int32.lt_iff_toInt_lt
theorem i_le (a b : Int32) : a ≤ b ↔ a.toInt ≤ b.toInt := Int32.le_iff_toInt_le
theorem i_eq (a b : Int32) : a = b ↔ a.toInt = b.toInt := Int32.toInt_inj.symm
theorem w_le (a b : Int32) : a.toInt64 ≤ b.toInt64 ↔ a ≤ b := by
  rw [Int64.le_iff_toInt_le, Int32.le_iff_toInt_le, Int32.toInt_toInt64, Int32.toInt_toInt64]
theorem w_lt (a b : Int32) : a.toInt64 < b.toInt64 ↔ a < b := by
  rw [Int64.lt_iff_toInt_lt, Int32.lt_iff_toInt_lt, Int32.toInt_toInt64, Int32.toInt_toInt64]
theorem cmp_lt (x y : Int64) : lg_cmp x y < 0 ↔ x < y := by
  unfold lg_cmp
  by_cases h1 : y < x
  · simp only [h1, if_true]
    have : ¬ x < y := by grind
    simp only [this, iff_false]; decide
  · by_cases h2 : x = y
    · subst h2; simp
    · have : x < y := by grind
      simp only [h1, h2, if_false, this, iff_true]; decide
theorem cmp_gt (x y : Int64) : 0 < lg_cmp x y ↔ y < x := by
  unfold lg_cmp
  by_cases h1 : y < x
  · simp only [h1, if_true]; decide
  · by_cases h2 : x = y
    · subst h2; simp
    · simp only [h1, h2, if_false, iff_false]; decide
theorem cl_nI {k : Nat} (h : k < 2 ^ 31) : (nI k).toNatClampNeg = k := nI_clamp h
/-- a number in a range is a Nat -/
theorem nat_of {x : Int32} {n : Nat} (hn : n < 2 ^ 31) (h0 : 0 ≤ x) (h1 : x ≤ nI n) : ∃ k : Nat, k ≤ n ∧ x = nI k := by
  obtain ⟨j, hj, rfl⟩ := nI_of (x := x) (by grind)
  exact ⟨j, (nI_leI hj hn).mp h1, rfl⟩
/-! states -/
theorem sI_1 (u : UU) (k : Nat) (v : Int32) (j : Nat) : (sI u k v).1 j = if j = k then v else u.1 j := rfl
theorem sI_2 (u : UU) (k : Nat) (v : Int32) : (sI u k v).2 = u.2 := rfl
theorem sA_1 (u : UU) (k : Nat) (f : Nat → Int32) : (sA u k f).1 = u.1 := rfl
theorem sA_21 (u : UU) (k : Nat) (f : Nat → Int32) (j : Nat) : (sA u k f).2.1 j = if j = k then f else u.2.1 j := rfl
theorem sA_22 (u : UU) (k : Nat) (f : Nat → Int32) : (sA u k f).2.2 = u.2.2 := rfl
theorem sL_1 (u : UU) (k : Nat) (v : Int64) : (sL u k v).1 = u.1 := rfl
theorem sL_21 (u : UU) (k : Nat) (v : Int64) : (sL u k v).2.1 = u.2.1 := rfl
theorem sL_22 (u : UU) (k : Nat) (v : Int64) (j : Nat) : (sL u k v).2.2 j = if j = k then v else u.2.2 j := rfl
theorem upd_at (f : Nat → Int32) (k : Nat) (x : Int32) (j : Nat) : upd f k x j = if j = k then x else f j := rfl
/-! small methods of the class -/
theorem isIn_eq (N : Nat) (a lo hi : Int32) (u : UU) (Q : Int32 → UU → Prop) : m_X11_isIn N a lo hi u Q ↔ Q (bi (lo ≤ a ∧ a ≤ hi)) u := by
  unfold m_X11_isIn
  by_cases h1 : a < lo
  · rw [bi_f (by grind)]; simp [h1, nb_0]
  · by_cases h2 : hi < a
    · rw [bi_f (by grind)]; simp [h1, h2, nb_0]
    · rw [bi_t (by grind)]; simp [h1, h2, nb_1]
def plc (x y : Int32) : Prop := (0 ≤ x ∧ x ≤ 63) ∧ 0 ≤ y ∧ y ≤ 63
theorem isPlace_eq (N : Nat) (x y : Int32) (u : UU) (Q : Int32 → UU → Prop) : m_X11_isPlace N x y u Q ↔ Q (bi ((0 ≤ x ∧ x ≤ 63) ∧ 0 ≤ y ∧ y ≤ 63)) u := by
  unfold m_X11_isPlace
  simp only [isIn_eq, bi_0]
  by_cases h1 : (0 ≤ x ∧ x ≤ 63)
  · by_cases h2 : (0 ≤ y ∧ y ≤ 63)
    · rw [bi_t ⟨h1, h2⟩]; simp [h1, h2, nb_1]
    · rw [bi_f (fun h => h2 h.2)]; rw [if_neg (fun q => q h1), if_pos h2]; simp [nb_0]
  · rw [bi_f (fun h => h1 h.1)]; simp only [h1, not_false_iff, if_true, nb_0, true_and]
theorem isHour_eq (N : Nat) (x : Int32) (u : UU) (Q : Int32 → UU → Prop) : m_X11_isHour N x u Q ↔ Q (bi (0 ≤ x ∧ x ≤ 1000)) u := by
  unfold m_X11_isHour; simp only [isIn_eq, nb_bi, true_and]
theorem isSize_eq (N : Nat) (x : Int32) (u : UU) (Q : Int32 → UU → Prop) : m_X11_isSize N x u Q ↔ Q (bi (0 ≤ x ∧ x ≤ 100)) u := by
  unfold m_X11_isSize; simp only [isIn_eq, nb_bi, true_and]
theorem has_eq (N : Nat) (x : Int32) (u : UU) (Q : Int32 → UU → Prop) : m_X0_has N x u Q ↔ Q (bi (0 ≤ x ∧ x ≤ u.1 2 - 1)) u := by
  unfold m_X0_has; simp only [isIn_eq, nb_bi, true_and]
theorem chas_eq (N : Nat) (x : Int32) (u : UU) (Q : Int32 → UU → Prop) : m_X1_has N x u Q ↔ Q (bi (0 ≤ x ∧ x ≤ u.1 14 - 1)) u := by
  unfold m_X1_has; simp only [isIn_eq, nb_bi, true_and]
theorem isCell_eq (N : Nat) (x : Int32) (u : UU) (Q : Int32 → UU → Prop) : m_X10_isCell N x u Q ↔ Q (bi (0 ≤ x ∧ x ≤ 299)) u := by
  unfold m_X10_isCell; simp only [isIn_eq, nb_bi, true_and]
theorem refused_eq (N : Nat) (x : Int32) (u : UU) (Q : Int32 → UU → Prop) : m_X11_refused N x u Q ↔ Q x (sI u 1 x) := by
  unfold m_X11_refused; simp only [forall_eq]
theorem taken_eq (N : Nat) (x : Int32) (u : UU) (Q : Int32 → UU → Prop) : m_X11_taken N x u Q ↔ Q x (sI u 1 0) := by
  unfold m_X11_taken; simp only [forall_eq]
/-! small methods of the reference -/
theorem in_eq (N : Nat) (a lo hi : Int64) (u : UU) (Q : Int32 → UU → Prop) : m_X12_in N a lo hi u Q ↔ Q (bi (lo ≤ a ∧ a ≤ hi)) u := by
  unfold m_X12_in
  simp only [cmp_lt, cmp_gt]
  by_cases h1 : a < lo
  · rw [bi_f (by grind)]; simp [h1, nb_0]
  · by_cases h2 : hi < a
    · rw [bi_f (by grind)]; simp [h1, h2, nb_0]
    · rw [bi_t (by grind)]; simp [h1, h2, nb_1]
theorem inI_eq (N : Nat) (a lo hi : Int32) (u : UU) (Q : Int32 → UU → Prop) : m_X12_in N a.toInt64 lo.toInt64 hi.toInt64 u Q ↔ Q (bi (lo ≤ a ∧ a ≤ hi)) u := by
  rw [in_eq]; simp only [w_le]
theorem mPlace_eq (N : Nat) (x : Int32) (u : UU) (Q : Int32 → UU → Prop) : m_X12_isPlace N x u Q ↔ Q (bi (0 ≤ x ∧ x ≤ 63)) u := by
  unfold m_X12_isPlace
  rw [show (0 : Int64) = (0 : Int32).toInt64 from rfl, show (63 : Int64) = (63 : Int32).toInt64 from rfl, inI_eq]
  simp only [nb_bi, true_and]
theorem mKnown_eq (N : Nat) (x : Int32) (u : UU) (Q : Int32 → UU → Prop) : m_X12_isKnown N x u Q ↔ Q (bi (0 ≤ x ∧ x ≤ 1000)) u := by
  unfold m_X12_isKnown
  rw [show (0 : Int64) = (0 : Int32).toInt64 from rfl, show (1000 : Int64) = (1000 : Int32).toInt64 from rfl, inI_eq]
  simp only [nb_bi, true_and]
theorem wsub1 {k : Nat} (hk : k ≤ 300) : (nI k).toInt64 - 1 = (nI k - 1).toInt64 := by
  apply Int64.toInt_inj.mp
  rw [Int32.toInt_toInt64, Int64.toInt_sub, Int32.toInt_toInt64]
  have h1 : (nI k - 1).toInt = (k : Int) - 1 := pk_sub_toInt (a := k) (b := 1) (by omega) (by omega)
  rw [h1, nI_toInt (by omega)]
  have h2 : (1 : Int64).toInt = 1 := rfl
  rw [h2, Int.bmod_def]
  omega
theorem mBoard_eq (N : Nat) (x : Int32) (u : UU) (Q : Int32 → UU → Prop) {k : Nat} (hk : k ≤ 300) (hu : u.1 2 = nI k) : m_X12_isBoard N x u Q ↔ Q (bi (0 ≤ x ∧ x ≤ nI k - 1)) u := by
  unfold m_X12_isBoard
  rw [hu, wsub1 hk, show (0 : Int64) = (0 : Int32).toInt64 from rfl, inI_eq]
  simp only [nb_bi, true_and]
theorem told_eq (N : Nat) (x : Int32) (u : UU) (Q : Int32 → UU → Prop) : m_X12_told N x u Q ↔ Q x (sI u 1 (if x < 0 then x else 0)) := by
  unfold m_X12_told m_X12_told_10
  by_cases h : x < 0
  · rw [if_neg (by grind), if_pos h]; simp only [forall_eq]
  · rw [if_pos (by grind), if_neg h]; simp only [forall_eq]
/-! THE RELATION of the states -/
def RB (n : Int32) (x y c : Nat → Int32) (n' : Int32) (x' y' c' : Nat → Int32) : Prop :=
  ∃ k : Nat, k ≤ 30 ∧ n = nI k ∧ n' = nI k ∧ ∀ i, i < k → x i = x' i ∧ y i = y' i ∧ (0 ≤ x i ∧ x i ≤ 63) ∧ (0 ≤ y i ∧ y i ≤ 63) ∧ ((c i = 1001 ∧ c' i = -1) ∨ (c i = c' i ∧ 0 ≤ c i ∧ c i ≤ 1000))
def RD (nb : Int32) (n : Int32) (cl hd wd kn : Nat → Int32) (n' : Int32) (pl wd' kn' : Nat → Int32) : Prop :=
  ∃ kb k : Nat, kb ≤ 30 ∧ nb = nI kb ∧ k ≤ 300 ∧ n = nI k ∧ n' = nI k ∧ ∀ i, i < k → ∃ a b : Nat, a < 10 * kb ∧ b < 8 ∧ cl i = nI a ∧ hd i = nI b ∧ pl i = nI (8 * a + b) ∧ wd i = wd' i ∧ kn i = kn' i ∧ 1 ≤ wd i ∧ wd i ≤ 400 ∧ 0 ≤ kn i ∧ kn i ≤ 1000
def RT (tw ts tw' ts' : Nat → Int32) : Prop := ∀ i, i < 8 → tw i = tw' i ∧ ts i = ts' i ∧ (0 ≤ tw i ∧ tw i ≤ 400) ∧ 0 ≤ ts i ∧ ts i ≤ 100
def RK (nb w lo ot w' a b : Int32) : Prop := w = w' ∧ lo = a ∧ ot = b ∧ (0 ≤ w ∧ w ≤ 20) ∧ ((lo = -1 ∧ ot = -1) ∨ ∃ kb i j : Nat, kb ≤ 30 ∧ nb = nI kb ∧ i < kb ∧ j < kb ∧ lo = nI i ∧ ot = nI j)
def RR (ab ra : Nat → Int32) : Prop := ∀ i k, i < 8 → k < 8 → ab (8 * i + k) = ra (8 * k + i) + 1 ∧ -1 ≤ ra (8 * k + i) ∧ ra (8 * k + i) ≤ 100
def RP (n : Int32) (b : Nat → Int32) (n' : Int32) (b' : Nat → Int32) : Prop := ∃ k : Nat, k ≤ 200 ∧ n = nI k ∧ n' = nI k ∧ ∀ i, i < k → b i = b' i ∧ 0 ≤ b i ∧ b i ≤ 255
def RC (n : Int32) (x y w s : Nat → Int32) (n' : Int32) (x' y' w' s' : Nat → Int32) : Prop :=
  ∃ k : Nat, k ≤ 40 ∧ n = nI k ∧ n' = nI k ∧ ∀ i, i < k → x i = x' i ∧ y i = y' i ∧ w i = w' i ∧ s i = s' i ∧ ((0 ≤ x i ∧ x i ≤ 63) ∧ 0 ≤ y i ∧ y i ≤ 63) ∧ (0 ≤ w i ∧ w i ≤ 100000) ∧ 0 ≤ s i ∧ s i ≤ 100
/-- the losses, the last radar, the last bear among the first k rules -/
def lossL (rS rA rB rC : Nat → Int32) : Nat → List (Int32 × Int32 × Int32)
  | 0 => []
  | k + 1 => if rS k = 0 then lossL rS rA rB rC k ++ [(rA k, rB k, rC k)] else lossL rS rA rB rC k
def radarL (rS rA : Nat → Int32) : Nat → Int32
  | 0 => -1
  | k + 1 => if rS k = 1 then rA k else radarL rS rA k
def bearL (rS rA : Nat → Int32) : Nat → Int32
  | 0 => 0
  | k + 1 => if rS k = 0 ∨ rS k = 1 then bearL rS rA k else rA k
def RU (ls ro be tl : Int32) (lo fr su : Nat → Int32) (n : Int32) (rS rA rB rC : Nat → Int32) : Prop :=
  ∃ k : Nat, k ≤ 20 ∧ tl = nI k ∧ n = nI k ∧ (∀ i, i < k → (0 ≤ rS i ∧ rS i ≤ 2) ∧ (0 ≤ rA i ∧ rA i ≤ 100) ∧ (0 ≤ rB i ∧ rB i ≤ 100) ∧ 0 ≤ rC i ∧ rC i ≤ 100) ∧ ls = nI (lossL rS rA rB rC k).length ∧ ro = radarL rS rA k ∧ be = bearL rS rA k ∧ ∀ i (h : i < (lossL rS rA rB rC k).length), (lo i, fr i, su i) = (lossL rS rA rB rC k)[i]
/-- the widths as known in an hour, by their places 8 * cell + hand -/
def wdF (h : Int32) (cl hd wd kn : Nat → Int32) : Nat → Nat → Int32
  | 0 => fun _ => 0
  | k + 1 => if kn k ≤ h then upd (wdF h cl hd wd kn k) (8 * (cl k).toNatClampNeg + (hd k).toNatClampNeg) (wd k) else wdF h cl hd wd kn k
/-- sorted by insertion, as both sides do it; the middle one -/
def ins (x : Int32) : List Int32 → List Int32
  | [] => [x]
  | y :: l => if x < y then x :: y :: l else y :: ins x l
def isort (l : List Int32) : List Int32 := l.foldl (fun acc x => ins x acc) []
def mid (l : List Int32) : Int32 := (isort l).getD ((l.length - 1) / 2) 0
/-- the widths of a dent, by its hands -/
def wsOf (W : Nat → Int32) (c : Nat) : List Int32 := ((List.range 8).map (fun h => W (8 * c + h))).filter (fun w => decide (0 < w))
def rawF (W : Nat → Int32) (c : Nat) : Int32 := mid (wsOf W c)
def leanL (W : Nat → Int32) (h : Nat) : List Int32 := ((List.range 300).filter (fun c => decide (0 < W (8 * c + h)) && decide (1 < (wsOf W c).length))).map (fun c => W (8 * c + h) - rawF W c)
def leanF (W : Nat → Int32) (h : Nat) : Int32 := if (leanL W h).length = 0 then 0 else mid (leanL W h)
def RV (wo n : Int32) (cl hd wd kn ws hs rw ln : Nat → Int32) : Prop :=
  wo = -1 ∨ ((0 ≤ wo ∧ wo ≤ 1000) ∧ ∃ k : Nat, k ≤ 300 ∧ n = nI k ∧ (∀ p, p < 2400 → ws p = wdF wo cl hd wd kn k p) ∧ (∀ c, c < 300 → hs c = nI (wsOf (wdF wo cl hd wd kn k) c).length ∧ ((wsOf (wdF wo cl hd wd kn k) c).length ≠ 0 → rw c = rawF (wdF wo cl hd wd kn k) c)) ∧ ∀ h, h < 8 → ln h = leanF (wdF wo cl hd wd kn k) h)
def Rel (u v : UU) : Prop :=
  RB (u.1 2) (u.2.1 0) (u.2.1 1) (u.2.1 2) (v.1 2) (v.2.1 0) (v.2.1 1) (v.2.1 2) ∧
  RD (u.1 2) (u.1 3) (u.2.1 3) (u.2.1 4) (u.2.1 5) (u.2.1 6) (v.1 3) (v.2.1 3) (v.2.1 4) (v.2.1 5) ∧
  RT (u.2.1 7) (u.2.1 8) (v.2.1 6) (v.2.1 7) ∧
  RV (u.1 5) (u.1 3) (u.2.1 3) (u.2.1 4) (u.2.1 5) (u.2.1 6) (u.2.1 9) (u.2.1 10) (u.2.1 11) (u.2.1 12) ∧
  RK (u.1 2) (u.1 6) (u.1 7) (u.1 8) (v.1 7) (v.1 5) (v.1 6) ∧
  RR (u.2.1 18) (v.2.1 18) ∧
  RP (u.1 10) (u.2.1 19) (v.1 12) (v.2.1 24) ∧
  RU (u.1 15) (u.1 16) (u.1 17) (u.1 18) (u.2.1 24) (u.2.1 25) (u.2.1 26) (v.1 10) (v.2.1 19) (v.2.1 20) (v.2.1 21) (v.2.1 22) ∧
  RC (u.1 14) (u.2.1 20) (u.2.1 21) (u.2.1 22) (u.2.1 23) (v.1 18) (v.2.1 25) (v.2.1 26) (v.2.1 27) (v.2.1 28) ∧
  u.1 0 = v.1 16 ∧ u.1 1 = v.1 1
theorem rel_0 : Rel u0H u0M := by
  refine ⟨⟨0, by omega, rfl, rfl, fun i h => by omega⟩, ⟨0, 0, by omega, rfl, by omega, rfl, rfl, fun i h => by omega⟩, ?_, Or.inl rfl, ⟨rfl, rfl, rfl, by decide, Or.inl ⟨rfl, rfl⟩⟩, ?_, ⟨0, by omega, rfl, rfl, fun i h => by omega⟩, ⟨0, by omega, rfl, rfl, fun i h => by omega, rfl, rfl, rfl, fun i h => by simp [lossL] at h⟩, ⟨0, by omega, rfl, rfl, fun i h => by omega⟩, rfl, rfl⟩
  · intro i hi; exact ⟨rfl, rfl, (by decide : (0 : Int32) ≤ 0 ∧ (0 : Int32) ≤ 400), (by decide : (0 : Int32) ≤ 0 ∧ (0 : Int32) ≤ 100)⟩
  · have key : ∀ i, i < 8 → ∀ k, k < 8 → (u0H.2.1 18 (8 * i + k) = u0M.2.1 18 (8 * k + i) + 1 ∧ -1 ≤ u0M.2.1 18 (8 * k + i) ∧ u0M.2.1 18 (8 * k + i) ≤ 100) := by decide +kernel
    exact fun i k hi hk => key i hi k hk
