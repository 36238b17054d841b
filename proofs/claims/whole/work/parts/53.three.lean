/-! the boards by their distance from a place, nearest first, of alike ones the lower number first -/
def ltD (d : Nat → Int32) (a b : Nat) : Prop := d a < d b ∨ (d a = d b ∧ a < b)
theorem ltD_ir {d : Nat → Int32} {a : Nat} : ¬ ltD d a a := by
  rintro (h | ⟨-, h⟩)
  · grind
  · omega
theorem ltD_as {d : Nat → Int32} {a b : Nat} (h1 : ltD d a b) (h2 : ltD d b a) : False := by
  rcases h1 with h | ⟨e, h⟩ <;> rcases h2 with g | ⟨e', g⟩
  · grind
  · grind
  · grind
  · omega
def insD (d : Nat → Int32) (b : Nat) : List Nat → List Nat
  | [] => [b]
  | a :: l => if d a ≤ d b then a :: insD d b l else b :: a :: l
def fullC (S : Nat → Bool) (d : Nat → Int32) : Nat → List Nat
  | 0 => []
  | n + 1 => if S n then insD d n (fullC S d n) else fullC S d n
theorem mem_insD {d : Nat → Int32} {b x : Nat} : ∀ {l : List Nat}, x ∈ insD d b l ↔ x = b ∨ x ∈ l
  | [] => by simp [insD]
  | a :: l => by
    unfold insD
    by_cases h : d a ≤ d b
    · rw [if_pos h]; simp only [List.mem_cons, mem_insD (l := l)]
      constructor
      · rintro (a | a | a)
        · exact Or.inr (Or.inl a)
        · exact Or.inl a
        · exact Or.inr (Or.inr a)
      · rintro (a | a | a)
        · exact Or.inr (Or.inl a)
        · exact Or.inl a
        · exact Or.inr (Or.inr a)
    · rw [if_neg h]; simp [List.mem_cons]
theorem full_mem {S : Nat → Bool} {d : Nat → Int32} {b : Nat} : ∀ {n : Nat}, b ∈ fullC S d n ↔ b < n ∧ S b = true
  | 0 => by simp [fullC]
  | n + 1 => by
    unfold fullC
    by_cases h : S n = true
    · rw [if_pos h, mem_insD, full_mem (n := n)]
      constructor
      · rintro (rfl | ⟨q, r⟩)
        · exact ⟨by omega, h⟩
        · exact ⟨by omega, r⟩
      · rintro ⟨q, r⟩
        by_cases e : b = n
        · exact Or.inl e
        · exact Or.inr ⟨by omega, r⟩
    · rw [if_neg h, full_mem (n := n)]
      constructor
      · rintro ⟨q, r⟩; exact ⟨by omega, r⟩
      · rintro ⟨q, r⟩
        by_cases e : b = n
        · subst e; exact absurd r h
        · exact ⟨by omega, r⟩
theorem insD_srt {d : Nat → Int32} {b : Nat} : ∀ {l : List Nat}, (∀ a ∈ l, a < b) → l.Pairwise (ltD d) → (insD d b l).Pairwise (ltD d)
  | [], _, _ => by simp [insD]
  | a :: l, hb, h => by
    unfold insD
    obtain ⟨h1, h2⟩ := List.pairwise_cons.mp h
    have hab := hb a List.mem_cons_self
    by_cases hx : d a ≤ d b
    · rw [if_pos hx]
      refine List.pairwise_cons.mpr ⟨fun y hy => ?_, insD_srt (fun z hz => hb z (List.mem_cons_of_mem _ hz)) h2⟩
      rcases mem_insD.mp hy with rfl | hy
      · by_cases e : d a = d y
        · exact Or.inr ⟨e, hab⟩
        · exact Or.inl (by grind)
      · exact h1 y hy
    · rw [if_neg hx]
      refine List.pairwise_cons.mpr ⟨fun y hy => ?_, h⟩
      rcases List.mem_cons.mp hy with rfl | hy
      · exact Or.inl (by grind)
      · rcases h1 y hy with q | ⟨q, -⟩
        · exact Or.inl (by grind)
        · exact Or.inl (by grind)
theorem full_srt {S : Nat → Bool} {d : Nat → Int32} : ∀ n : Nat, (fullC S d n).Pairwise (ltD d)
  | 0 => List.Pairwise.nil
  | n + 1 => by
    unfold fullC
    split
    · exact insD_srt (fun a ha => (full_mem.mp ha).1) (full_srt n)
    · exact full_srt n
theorem take_ins {d : Nat → Int32} {b : Nat} : ∀ (l : List Nat) (k : Nat), (insD d b (l.take k)).take k = (insD d b l).take k
  | l, 0 => by simp
  | [], k + 1 => by simp [insD]
  | a :: l, k + 1 => by
    rw [List.take_succ_cons]
    unfold insD
    by_cases h : d a ≤ d b
    · rw [if_pos h, if_pos h, List.take_succ_cons, List.take_succ_cons, take_ins l k]
    · rw [if_neg h, if_neg h, List.take_succ_cons, List.take_succ_cons]
      cases k with
      | zero => simp
      | succ k => rw [List.take_succ_cons, List.take_succ_cons, List.take_take]; simp
/-- the first of the nearest that are not taken -/
def bestM (T : Nat → Bool) (d : Nat → Int32) : Nat → Option Nat
  | 0 => none
  | i + 1 => if T i then bestM T d i else match bestM T d i with
    | none => some i
    | some j => if d j ≤ d i then some j else some i
theorem bestM_none {T : Nat → Bool} {d : Nat → Int32} : ∀ {n : Nat}, bestM T d n = none → ∀ b, b < n → T b = true
  | 0, _, b, hb => by omega
  | n + 1, h, b, hb => by
    unfold bestM at h
    by_cases hT : T n = true
    · rw [if_pos hT] at h
      by_cases e : b = n
      · subst e; exact hT
      · exact bestM_none h b (by omega)
    · rw [if_neg hT] at h
      cases e : bestM T d n with
      | none => rw [e] at h; simp at h
      | some j => rw [e] at h; simp only at h; split at h <;> simp at h
theorem bestM_some {T : Nat → Bool} {d : Nat → Int32} : ∀ {n m : Nat}, bestM T d n = some m → m < n ∧ T m = false ∧ ∀ b, b < n → T b = false → b ≠ m → ltD d m b
  | 0, m, h => by simp [bestM] at h
  | n + 1, m, h => by
    unfold bestM at h
    by_cases hT : T n = true
    · rw [if_pos hT] at h
      obtain ⟨a, b, c⟩ := bestM_some h
      refine ⟨by omega, b, fun y hy hty hne => c y ?_ hty hne⟩
      by_cases e : y = n
      · subst e; rw [hT] at hty; simp at hty
      · omega
    · rw [if_neg hT] at h
      have hT' : T n = false := by simpa using hT
      cases e : bestM T d n with
      | none =>
        rw [e] at h; simp only [Option.some.injEq] at h; subst h
        refine ⟨by omega, hT', fun y hy hty hne => ?_⟩
        have := bestM_none e y (by omega)
        rw [this] at hty; simp at hty
      | some j =>
        rw [e] at h; simp only at h
        obtain ⟨a, b, c⟩ := bestM_some e
        by_cases hd : d j ≤ d n
        · rw [if_pos hd] at h; simp only [Option.some.injEq] at h; subst h
          refine ⟨by omega, b, fun y hy hty hne => ?_⟩
          by_cases e : y = n
          · subst e
            by_cases e2 : d j = d y
            · exact Or.inr ⟨e2, a⟩
            · exact Or.inl (by grind)
          · exact c y (by omega) hty hne
        · rw [if_neg hd] at h; simp only [Option.some.injEq] at h; subst h
          refine ⟨by omega, hT', fun y hy hty hne => ?_⟩
          by_cases e3 : y = j
          · subst e3; exact Or.inl (by grind)
          · rcases c y (by omega) hty e3 with q | ⟨q, -⟩
            · exact Or.inl (by grind)
            · exact Or.inl (by grind)
theorem sel {T : Nat → Bool} {d : Nat → Int32} {n k : Nat} {l : List Nat} (hl : l.Pairwise (ltD d)) (hn : ∀ b ∈ l, b < n) (hT : ∀ b, b < n → (T b = false ↔ b ∈ l ∧ b ∉ l.take k)) : bestM T d n = l[k]? := by
  have fr : ∀ h : k < l.length, T l[k] = false := by
    intro h
    refine (hT _ (hn _ (List.getElem_mem h))).mpr ⟨List.getElem_mem h, fun q => ?_⟩
    obtain ⟨i, hi, e⟩ := List.mem_take_iff_getElem.mp q
    have := List.pairwise_iff_getElem.mp hl i k (by omega) h (by omega)
    rw [e] at this; exact ltD_ir this
  cases hb : bestM T d n with
  | none =>
    by_cases h : k < l.length
    · have := bestM_none hb _ (hn _ (List.getElem_mem h))
      rw [fr h] at this; simp at this
    · rw [List.getElem?_eq_none (by omega)]
  | some m =>
    obtain ⟨a, b, c⟩ := bestM_some hb
    obtain ⟨q1, q2⟩ := (hT m a).mp b
    obtain ⟨j, hj, e⟩ := List.mem_iff_getElem.mp q1
    have hkj : ¬ j < k := fun q => q2 (List.mem_take_iff_getElem.mpr ⟨j, by omega, e⟩)
    have h : k < l.length := by omega
    rw [List.getElem?_eq_getElem h]
    by_cases ejk : j = k
    · subst ejk; rw [e]
    · have g := List.pairwise_iff_getElem.mp hl k j h hj (by omega)
      rw [e] at g
      have := c _ (hn _ (List.getElem_mem h)) (fr h) (fun q => by rw [q] at g; exact ltD_ir g)
      exact (ltD_as g this).elim
