/-! sorting by insertion, on lists and in the rows of both sides -/
def srt (l : List Int32) : Prop := l.Pairwise (fun a b => a ≤ b)
theorem mem_ins {x y : Int32} : ∀ {l : List Int32}, y ∈ ins x l ↔ y = x ∨ y ∈ l
  | [] => by simp [ins]
  | z :: l => by
    unfold ins
    by_cases h : x < z
    · rw [if_pos h]; simp [List.mem_cons]
    · rw [if_neg h]; simp only [List.mem_cons, mem_ins (l := l)]
      constructor
      · rintro (a | a | a)
        · exact Or.inr (Or.inl a)
        · exact Or.inl a
        · exact Or.inr (Or.inr a)
      · rintro (a | a | a)
        · exact Or.inr (Or.inl a)
        · exact Or.inl a
        · exact Or.inr (Or.inr a)
theorem ins_len {x : Int32} : ∀ {l : List Int32}, (ins x l).length = l.length + 1
  | [] => rfl
  | z :: l => by
    unfold ins
    by_cases h : x < z
    · rw [if_pos h]; rfl
    · rw [if_neg h]; simp only [List.length_cons, ins_len (l := l)]
theorem srt_ins {x : Int32} : ∀ {l : List Int32}, srt l → srt (ins x l)
  | [], _ => by simp [ins, srt]
  | z :: l, h => by
    unfold ins
    obtain ⟨h1, h2⟩ := List.pairwise_cons.mp h
    by_cases hx : x < z
    · rw [if_pos hx]
      refine List.pairwise_cons.mpr ⟨fun y hy => ?_, h⟩
      rcases List.mem_cons.mp hy with rfl | hy
      · grind
      · have := h1 y hy; grind
    · rw [if_neg hx]
      refine List.pairwise_cons.mpr ⟨fun y hy => ?_, srt_ins h2⟩
      rcases mem_ins.mp hy with rfl | hy
      · grind
      · exact h1 y hy
theorem ins_split {x : Int32} {B : List Int32} (hB : ∀ b ∈ B, x < b) : ∀ {A : List Int32}, (∀ a ∈ A, a ≤ x) → ins x (A ++ B) = A ++ x :: B
  | [], _ => by
    cases B with
    | nil => rfl
    | cons b B => simp only [List.nil_append]; unfold ins; rw [if_pos (hB b List.mem_cons_self)]
  | a :: A, hA => by
    simp only [List.cons_append]
    rw [ins, if_neg (by have := hA a List.mem_cons_self; grind), ins_split hB (fun z hz => hA z (List.mem_cons_of_mem _ hz))]
theorem isort_snoc (l : List Int32) (x : Int32) : isort (l ++ [x]) = ins x (isort l) := by
  unfold isort; rw [List.foldl_append]; rfl
theorem snoc_ind {P : List Int32 → Prop} (h0 : P []) (hs : ∀ l x, P l → P (l ++ [x])) (l : List Int32) : P l := by
  have key : ∀ l : List Int32, P l.reverse := by
    intro l
    induction l with
    | nil => exact h0
    | cons x l ih => rw [List.reverse_cons]; exact hs _ _ ih
  have := key l.reverse
  rwa [List.reverse_reverse] at this
theorem isort_srt (l : List Int32) : srt (isort l) :=
  snoc_ind (P := fun l => srt (isort l)) List.Pairwise.nil (fun l x h => by rw [isort_snoc]; exact srt_ins h) l
theorem isort_len (l : List Int32) : (isort l).length = l.length :=
  snoc_ind (P := fun l => (isort l).length = l.length) rfl (fun l x h => by rw [isort_snoc, ins_len, h, List.length_append]; rfl) l
theorem mem_isort (l : List Int32) (y : Int32) : y ∈ isort l ↔ y ∈ l :=
  snoc_ind (P := fun l => y ∈ isort l ↔ y ∈ l) Iff.rfl (fun l x h => by rw [isort_snoc, mem_ins, h, List.mem_append, List.mem_singleton]; exact ⟨fun q => q.symm, fun q => q.symm⟩) l
theorem ins_low {x : Int32} : ∀ {l : List Int32}, (∀ z ∈ l, x ≤ z) → ins x l = x :: l
  | [], _ => rfl
  | z :: l, h => by
    unfold ins
    by_cases hx : x < z
    · rw [if_pos hx]
    · have : z = x := by have := h z List.mem_cons_self; grind
      subst this
      rw [if_neg hx, ins_low (fun y hy => h y (List.mem_cons_of_mem _ hy))]
theorem ins_map {f : Int32 → Int32} (hf : ∀ a b, a ≤ b → f a ≤ f b) {x : Int32} : ∀ {l : List Int32}, srt l → ins (f x) (l.map f) = (ins x l).map f
  | [], _ => rfl
  | z :: l, h => by
    obtain ⟨h1, h2⟩ := List.pairwise_cons.mp h
    simp only [List.map_cons]
    by_cases hx : x < z
    · rw [show ins x (z :: l) = x :: z :: l by unfold ins; rw [if_pos hx]]
      have e := ins_low (x := f x) (l := f z :: l.map f) (fun y hy => by
        rcases List.mem_cons.mp hy with rfl | hy
        · exact hf _ _ (by grind)
        · obtain ⟨w, hw, rfl⟩ := List.mem_map.mp hy
          exact hf _ _ (by have := h1 w hw; grind))
      rw [e]; rfl
    · rw [show ins x (z :: l) = z :: ins x l by conv => lhs; unfold ins; rw [if_neg hx]]
      have : f z ≤ f x := hf _ _ (by grind)
      conv => lhs; unfold ins; rw [if_neg (show ¬ f x < f z by grind)]
      rw [ins_map hf h2]; rfl
theorem isort_map {f : Int32 → Int32} (hf : ∀ a b, a ≤ b → f a ≤ f b) (l : List Int32) : isort (l.map f) = (isort l).map f :=
  snoc_ind (P := fun l => isort (l.map f) = (isort l).map f) rfl (fun l x h => by rw [List.map_append, List.map_singleton, isort_snoc, isort_snoc, h, ins_map hf (isort_srt l)]) l
theorem mid_map {f : Int32 → Int32} (hf : ∀ a b, a ≤ b → f a ≤ f b) {l : List Int32} (hl : l.length ≠ 0) : mid (l.map f) = f (mid l) := by
  unfold mid
  rw [isort_map hf, List.length_map]
  have h : (l.length - 1) / 2 < (isort l).length := by rw [isort_len]; omega
  rw [List.getD_eq_getElem?_getD, List.getD_eq_getElem?_getD, List.getElem?_map, List.getElem?_eq_getElem h]
  rfl
theorem mid_mem {l : List Int32} (hl : l.length ≠ 0) : mid l ∈ l := by
  unfold mid
  have h : (l.length - 1) / 2 < (isort l).length := by rw [isort_len]; omega
  rw [List.getD_eq_getElem?_getD, List.getElem?_eq_getElem h]
  exact (mem_isort l _).mp (List.getElem_mem h)
/-! rows -/
def rowL (f : Nat → Int32) (n : Nat) : List Int32 := (List.range n).map f
theorem rowL_len (f : Nat → Int32) (n : Nat) : (rowL f n).length = n := by simp [rowL]
theorem rowL_succ (f : Nat → Int32) (n : Nat) : rowL f (n + 1) = rowL f n ++ [f n] := by simp [rowL, List.range_succ]
theorem rowL_cons (f : Nat → Int32) (n : Nat) : rowL f (n + 1) = f 0 :: rowL (fun i => f (i + 1)) n := by
  unfold rowL; rw [List.range_succ_eq_map]; simp [List.map_map, Function.comp_def]
theorem rowL_get (f : Nat → Int32) {n i : Nat} (h : i < n) : (rowL f n).getD i 0 = f i := by
  simp [rowL, List.getD_eq_getElem?_getD, h]
theorem rowL_congr {f g : Nat → Int32} : ∀ {n : Nat}, (∀ i, i < n → f i = g i) → rowL f n = rowL g n
  | 0, _ => rfl
  | n + 1, h => by rw [rowL_succ, rowL_succ, rowL_congr (fun i hi => h i (by omega)), h n (by omega)]
theorem rowL_split (f : Nat → Int32) : ∀ (j m : Nat), rowL f (j + m) = rowL f j ++ rowL (fun i => f (j + i)) m
  | j, 0 => by simp [rowL]
  | j, m + 1 => by rw [← Nat.add_assoc, rowL_succ, rowL_split f j m, rowL_succ, List.append_assoc]
theorem mem_rowL {f : Nat → Int32} {n : Nat} {y : Int32} : y ∈ rowL f n ↔ ∃ i, i < n ∧ f i = y := by simp [rowL]
theorem srt_le {f : Nat → Int32} {n : Nat} (h : srt (rowL f n)) : ∀ i j, i < j → j < n → f i ≤ f j := by
  intro i j hij hj
  have := List.pairwise_iff_getElem.mp h i j (by rw [rowL_len]; omega) (by rw [rowL_len]; omega) hij
  simpa [rowL] using this
theorem row_ins {o r : Nat → Int32} {x : Int32} {j k : Nat} (hj : j ≤ k) (h1 : ∀ i, i < j → r i = o i) (h2 : r j = x) (h3 : ∀ i, j ≤ i → i < k → r (i + 1) = o i) (hA : ∀ i, i < j → o i ≤ x) (hB : ∀ i, j ≤ i → i < k → x < o i) : rowL r (k + 1) = ins x (rowL o k) := by
  obtain ⟨m, rfl⟩ : ∃ m, k = j + m := ⟨k - j, by omega⟩
  rw [rowL_split o j m, ins_split (fun b hb => by obtain ⟨i, hi, rfl⟩ := mem_rowL.mp hb; exact hB _ (by omega) (by omega)) (fun a ha => by obtain ⟨i, hi, rfl⟩ := mem_rowL.mp ha; exact hA i hi)]
  rw [Nat.add_assoc, rowL_split r j (m + 1), rowL_cons]
  have e1 : rowL r j = rowL o j := rowL_congr h1
  have e2 : rowL (fun i => r (j + (i + 1))) m = rowL (fun i => o (j + i)) m := rowL_congr (fun i hi => h3 (j + i) (by omega) (by omega))
  rw [e1, e2]
  show _ = _ ++ x :: _
  rw [Nat.add_zero, h2]
theorem sA_sA (u : UU) (k : Nat) (f g : Nat → Int32) : sA (sA u k f) k g = sA u k g := by
  unfold sA
  have : va_up (va_up u.2.1 k f) k g = va_up u.2.1 k g := by funext j; unfold va_up; split <;> rfl
  simp only [this]
theorem sA_self (u : UU) (k : Nat) : sA u k (u.2.1 k) = u := by
  unfold sA
  have : va_up u.2.1 k (u.2.1 k) = u.2.1 := by funext j; unfold va_up; split
                                               · rename_i h; rw [h]
                                               · rfl
  rw [this]
/-! the class's row -/
theorem inner_ok (N : Nat) (Q : Int32 → UU → Prop) (k15 : Int32 → Int32 → UU → Prop) (n k : Nat) (hk : k < 300) (o : Nat → Int32) (x : Int32) (hs : srt (rowL o k)) :
    ∀ (f j : Nat) (u : UU), j ≤ k → j < f → (∀ i, i < j → u.2.1 13 i = o i) → (∀ i, j ≤ i → i < k → u.2.1 13 (i + 1) = o i) → (∀ i, k < i → u.2.1 13 i = o i) → (∀ i, j ≤ i → i < k → x < o i) →
      (∀ r, rowL r (k + 1) = ins x (rowL o k) → (∀ i, k < i → r i = o i) → k15 (nI n) (nI (k + 1)) (sA u 13 r)) → m_X10_middleOfRow_30 N k15 Q f (nI n) (nI k) x (nI j) u := by
  intro f
  induction f with
  | zero => intro j u _ h; omega
  | succ f ih =>
    intro j u hj hf h1 h2 h3 h4 hK
    have fin : (∀ i, i < j → o i ≤ x) → m_X10_middleOfRow_70 N k15 (nI n) (nI k) x (nI j) u Q := by
      intro hA
      unfold m_X10_middleOfRow_70
      refine ⟨vp_in_nI (by omega) (by omega), fun u1 e1 z2 e2 => ?_⟩
      rw [e2, e1, nI_1, cl_nI (by omega)]
      refine hK _ (row_ins hj (fun i hi => ?_) (by simp [upd_at]) (fun i a b => ?_) hA h4) (fun i hi => ?_)
      · simp only [upd_at, if_neg (show ¬ i = j by omega)]; exact h1 i hi
      · simp only [upd_at, if_neg (show ¬ i + 1 = j by omega)]; exact h2 i a b
      · simp only [upd_at, if_neg (show ¬ i = j by omega)]; exact h3 i hi
    rw [m_X10_middleOfRow_30]
    by_cases hj0 : j = 0
    · rw [if_pos (by rw [hj0]; decide)]; exact fin (fun i hi => by omega)
    · obtain ⟨j', rfl⟩ : ∃ j', j = j' + 1 := ⟨j - 1, by omega⟩
      rw [if_neg (nI_nle (by omega) (by omega))]
      have hin : vp_in (nI (j' + 1) - 1) 300 := by rw [nI_sub1]; exact vp_in_nI (by omega) (by omega)
      refine ⟨hin, ?_⟩
      rw [nI_sub1, cl_nI (show j' < 2 ^ 31 by omega), h1 j' (by omega)]
      by_cases hc : o j' ≤ x
      · rw [if_pos hc]
        refine fin (fun i hi => ?_)
        by_cases e : i = j'
        · rw [e]; exact hc
        · have := srt_le hs i j' (by omega) (by omega); grind
      · rw [if_neg hc]
        refine ⟨by rw [← nI_sub1]; exact hin, vp_in_nI (by omega) (by omega), fun u1 e1 z2 e2 => ?_⟩
        rw [e2, pk_m1]
        subst e1
        rw [cl_nI (by omega)]
        refine ih j' _ (by omega) (by omega) (fun i hi => ?_) (fun i a b => ?_) (fun i hi => ?_) (fun i a b => ?_) (fun r a b => ?_)
        · simp only [sA_21, if_true, upd_at, if_neg (show ¬ i = j' + 1 by omega)]; exact h1 i (by omega)
        · by_cases e : i = j'
          · subst e; simp [sA_21, upd_at]
          · simp only [sA_21, if_true, upd_at, if_neg (show ¬ i + 1 = j' + 1 by omega)]; exact h2 i (by omega) b
        · simp only [sA_21, if_true, upd_at, if_neg (show ¬ i = j' + 1 by omega)]; exact h3 i hi
        · by_cases e : i = j'
          · rw [e]; grind
          · exact h4 i (by omega) b
        · rw [sA_sA]; exact hK r a b
theorem outer_ok (N : Nat) (hN : 4000 ≤ N) (Q : Int32 → UU → Prop) (n : Nat) (hn : 0 < n) (hn2 : n ≤ 300) (o : Nat → Int32) :
    ∀ (f k : Nat) (u : UU), 0 < k → k ≤ n → n < k + f → rowL (u.2.1 13) k = isort (rowL o k) → (∀ i, k ≤ i → u.2.1 13 i = o i) →
      (∀ r, Q (mid (rowL o n)) (sA u 13 r)) → m_X10_middleOfRow_15 N Q f (nI n) (nI k) u := by
  intro f
  induction f with
  | zero => intro k u h0 h1 h2; omega
  | succ f ih =>
    intro k u h0 h1 h2 h3 h4 hQ
    rw [m_X10_middleOfRow_15]
    by_cases hk : k = n
    · subst hk
      rw [if_pos (nI_le (Nat.le_refl _) (by omega))]
      obtain ⟨k', rfl⟩ : ∃ k', k = k' + 1 := ⟨k - 1, by omega⟩
      have e : (nI (k' + 1) - 1) / 2 = nI (k' / 2) := by rw [nI_sub1, show (2 : Int32) = nI 2 from rfl, pk_div (by omega) (by omega) (by omega)]
      rw [e]
      refine ⟨by decide, vp_in_nI (by omega) (by omega), ?_⟩
      have h := hQ (u.2.1 13)
      rw [sA_self] at h
      have e2 : mid (rowL o (k' + 1)) = u.2.1 13 (nI (k' / 2)).toNatClampNeg := by
        unfold mid
        rw [rowL_len, ← h3, cl_nI (by omega), rowL_get _ (by omega)]
        rfl
      rw [← e2]; exact h
    · rw [if_neg (nI_ge (by omega) (by omega))]
      refine ⟨vp_in_nI (by omega) (by omega), fun z1 e1 => ?_⟩
      rw [e1, cl_nI (by omega), h4 k (Nat.le_refl _)]
      refine inner_ok N Q _ n k (by omega) (u.2.1 13) (o k) (by rw [h3]; exact isort_srt _) N k u (Nat.le_refl _) (by omega) (fun i hi => rfl) (fun i a b => by omega) (fun i hi => rfl) (fun i a b => by omega) (fun r hr1 hr2 => ?_)
      refine ih (k + 1) _ (by omega) (by omega) (by omega) ?_ (fun i hi => ?_) (fun r2 => by rw [sA_sA]; exact hQ r2)
      · simp only [sA_21, if_true]
        rw [hr1, h3, rowL_succ o k, isort_snoc]
      · simp only [sA_21, if_true]
        rw [hr2 i (by omega)]; exact h4 i (by omega)
theorem middleRow_ok (N : Nat) (hN : 4000 ≤ N) (Q : Int32 → UU → Prop) (n : Nat) (hn2 : n ≤ 300) (u : UU) (hQ : ∀ r, Q (if n = 0 then 0 else mid (rowL (u.2.1 13) n)) (sA u 13 r)) : m_X10_middleOfRow N (nI n) u Q := by
  unfold m_X10_middleOfRow
  rw [isIn_eq]
  by_cases h0 : n = 0
  · subst h0
    rw [if_pos (bi_f (by decide))]
    have h := hQ (u.2.1 13)
    rw [sA_self] at h
    exact h
  · have hp : (1 : Int32) ≤ nI n ∧ nI n ≤ 300 := ⟨nI_le (a := 1) (by omega) (by omega), nI_le (b := 300) hn2 (by omega)⟩
    rw [bi_t hp, if_neg (by decide)]
    refine outer_ok N hN Q n (by omega) hn2 (u.2.1 13) N 1 u (by omega) (by omega) (by omega) (by rfl) (fun i hi => rfl) (fun r => ?_)
    have h := hQ r
    rw [if_neg h0] at h
    exact h
/-! the reference's row -/
theorem addIn_ok (N : Nat) (Q : UU → Prop) (k : Nat) (hk : k < 300) (o : Nat → Int32) (x : Int32) (hs : srt (rowL o k)) :
    ∀ (f j : Nat) (u : UU), u.1 4 = nI k → j ≤ k → j < f → (∀ i, i < j → u.2.1 13 i = o i) → (∀ i, j ≤ i → i < k → u.2.1 13 (i + 1) = o i) → (∀ i, j ≤ i → i < k → x < o i) →
      (∀ r, rowL r (k + 1) = ins x (rowL o k) → Q (sI (sA u 13 r) 4 (nI (k + 1)))) → m_X12_add_5 N Q f x (nI j) u := by
  intro f
  induction f with
  | zero => intro j u _ _ h; omega
  | succ f ih =>
    intro j u hu hj hf h1 h2 h4 hK
    have fin : (∀ i, i < j → o i ≤ x) → m_X12_add_41 N x (nI j) u Q := by
      intro hA
      unfold m_X12_add_41
      refine ⟨vp_in_nI (by omega) (by omega), fun u1 e1 u2 e2 => ?_⟩
      rw [e2, e1, sA_1, hu, nI_1, cl_nI (by omega)]
      refine hK _ (row_ins hj (fun i hi => ?_) (by simp [upd_at]) (fun i a b => ?_) hA h4)
      · simp only [upd_at, if_neg (show ¬ i = j by omega)]; exact h1 i hi
      · simp only [upd_at, if_neg (show ¬ i + 1 = j by omega)]; exact h2 i a b
    rw [m_X12_add_5]
    by_cases hj0 : j = 0
    · rw [if_pos (by rw [hj0]; decide)]; exact fin (fun i hi => by omega)
    · obtain ⟨j', rfl⟩ : ∃ j', j = j' + 1 := ⟨j - 1, by omega⟩
      rw [if_neg (nI_nle (by omega) (by omega))]
      have hin : vp_in (nI (j' + 1) - 1) 300 := by rw [nI_sub1]; exact vp_in_nI (by omega) (by omega)
      refine ⟨hin, ?_⟩
      rw [nI_sub1, cl_nI (show j' < 2 ^ 31 by omega), h1 j' (by omega)]
      by_cases hc : o j' ≤ x
      · rw [if_pos hc]
        refine fin (fun i hi => ?_)
        by_cases e : i = j'
        · rw [e]; exact hc
        · have := srt_le hs i j' (by omega) (by omega); grind
      · rw [if_neg hc]
        refine ⟨by rw [← nI_sub1]; exact hin, vp_in_nI (by omega) (by omega), fun u1 e1 z2 e2 => ?_⟩
        rw [e2, pk_m1]
        subst e1
        rw [cl_nI (by omega)]
        refine ih j' _ (by rw [sA_1]; exact hu) (by omega) (by omega) (fun i hi => ?_) (fun i a b => ?_) (fun i a b => ?_) (fun r a => ?_)
        · simp only [sA_21, if_true, upd_at, if_neg (show ¬ i = j' + 1 by omega)]; exact h1 i (by omega)
        · by_cases e : i = j'
          · subst e; simp [sA_21, upd_at]
          · simp only [sA_21, if_true, upd_at, if_neg (show ¬ i + 1 = j' + 1 by omega)]; exact h2 i (by omega) b
        · by_cases e : i = j'
          · rw [e]; grind
          · exact h4 i (by omega) b
        · rw [sA_sA]; exact hK r a
theorem add_ok (N : Nat) (hN : 4000 ≤ N) (Q : UU → Prop) (l : List Int32) (hk : l.length < 300) (x : Int32) (u : UU) (hu : u.1 4 = nI l.length) (hr : rowL (u.2.1 13) l.length = isort l)
    (hQ : ∀ r, rowL r (l.length + 1) = isort (l ++ [x]) → Q (sI (sA u 13 r) 4 (nI (l.length + 1)))) : m_X12_add N x u Q := by
  unfold m_X12_add
  intro z1 e1
  rw [e1, hu]
  refine addIn_ok N Q l.length hk (u.2.1 13) x (by rw [hr]; exact isort_srt _) N l.length u hu (Nat.le_refl _) (by omega) (fun i hi => rfl) (fun i a b => by omega) (fun i a b => by omega) (fun r a => ?_)
  exact hQ r (by rw [a, hr, isort_snoc])
theorem middle_ok (N : Nat) (Q : Int32 → UU → Prop) (l : List Int32) (hk : l.length ≤ 300) (h0 : l.length ≠ 0) (u : UU) (hu : u.1 4 = nI l.length) (hr : rowL (u.2.1 13) l.length = isort l) (hQ : Q (mid l) u) : m_X12_middle N u Q := by
  unfold m_X12_middle
  obtain ⟨k', ek⟩ : ∃ k', l.length = k' + 1 := ⟨l.length - 1, by omega⟩
  have e : (u.1 4 - 1) / 2 = nI (k' / 2) := by rw [hu, ek, nI_sub1, show (2 : Int32) = nI 2 from rfl, pk_div (by omega) (by omega) (by omega)]
  rw [e]
  refine ⟨by decide, vp_in_nI (by omega) (by omega), ?_⟩
  have e2 : mid l = u.2.1 13 (nI (k' / 2)).toNatClampNeg := by
    unfold mid
    rw [← hr, cl_nI (by omega), rowL_get _ (by omega), ek]
    rfl
  rw [← e2]; exact hQ
