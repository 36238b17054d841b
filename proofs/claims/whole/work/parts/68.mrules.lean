/-! the reference's rules() -/
def EndP (res : Option Nat × List (Nat × Nat × Nat × Nat)) (w : UU) : Prop := match res.1 with
  | none => w.1 17 = 0 ∧ w.1 16 = -1 ∧ MA res.2 w
  | some p => w.1 17 = 1 ∧ w.1 16 = nI p
def afterF (B : Nat → Int32) (T n s : Nat) (acc : List (Nat × Nat × Nat × Nat)) : Option Nat × List (Nat × Nat × Nat × Nat) := if s < T then (if isWb B T 6 s = true then rdAll B T n (nx B T s) acc else (some s, acc)) else (none, acc)
theorem rdAll_succ (B : Nat → Int32) (T n st : Nat) (acc : List (Nat × Nat × Nat × Nat)) : rdAll B T (n + 1) st acc = match rdRule B T st with
    | .inl p => (some p, acc)
    | .inr (r, s) => afterF B T n s (acc ++ [r]) := rfl
theorem r77_bad (N : Nat) (Q : Int32 → UU → Prop) (w : UU) (e17 : w.1 17 = 1) (h : m_X12_rules_96 N w Q) : m_X12_rules_77 N w Q := by
  unfold m_X12_rules_77; rw [if_neg (by rw [e17]; decide)]; exact h
theorem r40_bad (N : Nat) (Q : Int32 → UU → Prop) (f : Nat) (w : UU) (e17 : w.1 17 = 1) (h : m_X12_rules_96 N w Q) : m_X12_rules_40 N Q (f + 1) w := by
  rw [m_X12_rules_40, if_neg (by rw [e17]; decide)]; exact r77_bad N Q w e17 h
theorem r40 (N : Nat) (hN : 4000 ≤ N) (Q : Int32 → UU → Prop) (B : Nat → Int32) (T : Nat) : ∀ (f n s : Nat) (acc : List (Nat × Nat × Nat × Nat)) (w : UU), acc.length + n = 20 → n + 1 < f → TM w B T → MS B T s w → w.1 17 = 0 → w.1 16 = -1 → MA acc w → (∀ y, frY w y → EndP (afterF B T n s acc) y → m_X12_rules_96 N y Q) → m_X12_rules_40 N Q f w := by
  intro f
  induction f with
  | zero => intro n s acc w h1 h2; omega
  | succ f ih =>
    intro n s acc w h1 h2 tm ms e17 e16 ma hQ
    obtain ⟨f', rfl⟩ : ∃ f', f = f' + 1 := ⟨f - 1, by omega⟩
    rw [m_X12_rules_40, if_pos e17, ms.2.2.2.1, ms.2.2.2.2]
    have key := semi_iff (B := B) ms.1
    rw [← isWb_iff] at key
    by_cases hs : s < T
    · by_cases h6 : isWb B T 6 s = true
      · obtain ⟨k1, k2⟩ := key.mpr h6
        rw [if_pos k1, if_pos (by rw [cmp_eq]; exact k2)]
        unfold afterF at hQ
        rw [if_pos hs, if_pos h6] at hQ
        refine nextT N hN _ B T s w tm ms (fun w1 f1 m1 => ?_)
        have g17 : w1.1 17 = 0 := (f1.1 17 (by omega)).trans e17
        have g16 : w1.1 16 = -1 := (f1.1 16 (by omega)).trans e16
        refine mreadRule_ok N hN _ B T _ acc (by omega) w1 (frN_TM f1 tm) m1 g17 (MA_N f1 ma) (fun hl y fy y17 y16 => ?_) (fun hl p ep y fy y17 y16 => ?_) (fun hl r s' ep y fy y17 y16 my may => ?_)
        · have : n = 0 := by omega
          subst this
          exact r40_bad N Q f' y y17 (hQ y (frY_tr (frY_N f1) fy) ⟨y17, y16⟩)
        · obtain ⟨n', rfl⟩ : ∃ n', n = n' + 1 := ⟨n - 1, by omega⟩
          rw [rdAll_succ, ep] at hQ
          exact r40_bad N Q f' y y17 (hQ y (frY_tr (frY_N f1) fy) ⟨y17, y16⟩)
        · obtain ⟨n', rfl⟩ : ∃ n', n = n' + 1 := ⟨n - 1, by omega⟩
          rw [rdAll_succ, ep] at hQ
          have fwy := frY_tr (frY_N f1) fy
          exact ih n' s' (acc ++ [r]) y (by simp only [List.length_append, List.length_cons, List.length_nil]; omega) (by omega) (frY_TM fwy tm) my y17 (y16.trans g16) may (fun y2 f2 h2 => hQ y2 (frY_tr fwy f2) h2)
      · have h6' : isWb B T 6 s = false := by simpa using h6
        unfold afterF at hQ
        rw [if_pos hs, if_neg h6] at hQ
        have go : m_X12_rules_77 N w Q := by
          unfold m_X12_rules_77
          rw [if_pos e17, ms.2.2.2.1]
          have hso : ¬ soF B T s = 0 := by
            unfold soF; rw [if_neg (by omega)]
            rcases kd_123 (B s) with q | q | q <;> rw [q] <;> decide
          rw [if_neg hso]
          exact must_ok N hN _ B T s w tm ms e17 false (fun q => absurd q (by decide)) (fun _ => hQ (bd w s) (frY_bd w s) ⟨bd_17 w s, bd_16 w s⟩)
        by_cases k1 : soF B T s = 3
        · rw [if_pos k1, if_neg (by rw [cmp_eq]; exact fun k2 => h6 (key.mp ⟨k1, k2⟩))]; exact go
        · rw [if_neg k1]; exact go
    · have so0 : soF B T s = 0 := by unfold soF; rw [if_pos (by omega)]
      unfold afterF at hQ
      rw [if_neg hs] at hQ
      rw [so0, if_neg (by decide)]
      unfold m_X12_rules_77
      rw [if_pos e17, ms.2.2.2.1, if_pos so0]
      exact hQ w (frY_rf w) ⟨e17, e16, ma⟩
/-! the rules written down -/
def frZ (u w : UU) : Prop := (∀ j, w.1 j = u.1 j) ∧ ∀ j, ¬ (19 ≤ j ∧ j ≤ 22) → w.2.1 j = u.2.1 j
theorem frZ_rf (u : UU) : frZ u u := ⟨fun _ => rfl, fun _ _ => rfl⟩
theorem frZ_tr {a b c : UU} (h1 : frZ a b) (h2 : frZ b c) : frZ a c := ⟨fun j => (h2.1 j).trans (h1.1 j), fun j p => (h2.2 j p).trans (h1.2 j p)⟩
def ruA (acc : List (Nat × Nat × Nat × Nat)) (v : UU) (k : Nat) : Prop := v.2.1 19 k = nI (acc.getD k (0, 0, 0, 0)).1 ∧ v.2.1 20 k = nI (acc.getD k (0, 0, 0, 0)).2.1 ∧ v.2.1 21 k = nI (acc.getD k (0, 0, 0, 0)).2.2.1 ∧ v.2.1 22 k = nI (acc.getD k (0, 0, 0, 0)).2.2.2
theorem copy_loop (N : Nat) (Q : Int32 → UU → Prop) (acc : List (Nat × Nat × Nat × Nat)) (ha : acc.length ≤ 20) : ∀ (f k : Nat) (u : UU), k ≤ acc.length → acc.length < k + f → u.1 10 = nI acc.length → MA acc u → (∀ j, j < k → ruA acc u j) → (∀ w, frZ u w → (∀ j, j < acc.length → ruA acc w j) → Q (nI acc.length) (sI w 1 0)) → m_X12_rules_125 N Q f (nI k) u := by
  intro f
  induction f with
  | zero => intro k u h1 h2; omega
  | succ f ih =>
    intro k u h1 h2 e10 ma hk hQ
    rw [m_X12_rules_125, e10]
    by_cases e : k = acc.length
    · subst e
      rw [if_pos (nI_le (Nat.le_refl _) (by omega)), told_eq, if_neg (nI_pos (by omega))]
      exact hQ u (frZ_rf u) hk
    · have e4 : (4 : Int32) * nI k = nI (4 * k) := by rw [show (4 : Int32) = nI 4 from rfl, pk_mul]
      have e41 : nI (4 * k) + 1 = nI (4 * k + 1) := nI_1 _
      have e42 : nI (4 * k) + 2 = nI (4 * k + 2) := nI_add _ 2
      have e43 : nI (4 * k) + 3 = nI (4 * k + 3) := nI_add _ 3
      have hin : vp_in (nI k) 20 := vp_in_nI (by omega) (by omega)
      rw [if_neg (nI_ge (by omega) (by omega)), e4, e41, e42, e43]
      obtain ⟨a0, a1, a2, a3⟩ := ma.2 k (by omega)
      refine ⟨vp_in_nI (by omega) (by omega), hin, fun u3 q3 => ⟨vp_in_nI (by omega) (by omega), hin, fun u4 q4 => ⟨vp_in_nI (by omega) (by omega), hin, fun u5 q5 => ⟨vp_in_nI (by omega) (by omega), hin, fun u6 q6 z ez => ?_⟩⟩⟩⟩
      rw [cl_nI (by omega), cl_nI (by omega)] at q3 q4 q5 q6
      have g4 : u3.2.1 23 = u.2.1 23 := by rw [q3]; rfl
      have g5 : u4.2.1 23 = u.2.1 23 := by rw [q4, q3]; rfl
      have g6 : u5.2.1 23 = u.2.1 23 := by rw [q5, q4, q3]; rfl
      rw [g4, a1] at q4
      rw [g5, a2] at q5
      rw [g6, a3] at q6
      rw [a0] at q3
      have fz : frZ u u6 := by
        refine ⟨fun j => by rw [q6, q5, q4, q3]; rfl, fun j p => ?_⟩
        rw [q6, sA_21, if_neg (by omega), q5, sA_21, if_neg (by omega), q4, sA_21, if_neg (by omega), q3, sA_21, if_neg (by omega)]
      rw [ez, nI_1]
      refine ih (k + 1) u6 (by omega) (by omega) ((fz.1 10).trans e10) (by unfold MA; rw [fz.1 11, fz.2 23 (by omega)]; exact ma) (fun j hj => ?_) (fun w hw => hQ w (frZ_tr fz hw))
      have h19 : u6.2.1 19 j = if j = k then nI (acc.getD k (0, 0, 0, 0)).1 else u.2.1 19 j := by rw [q6, q5, q4, q3]; rfl
      have h20 : u6.2.1 20 j = if j = k then nI (acc.getD k (0, 0, 0, 0)).2.1 else u.2.1 20 j := by rw [q6, q5, q4, q3]; rfl
      have h21 : u6.2.1 21 j = if j = k then nI (acc.getD k (0, 0, 0, 0)).2.2.1 else u.2.1 21 j := by rw [q6, q5, q4, q3]; rfl
      have h22 : u6.2.1 22 j = if j = k then nI (acc.getD k (0, 0, 0, 0)).2.2.2 else u.2.1 22 j := by rw [q6, q5, q4, q3]; rfl
      unfold ruA
      rw [h19, h20, h21, h22]
      by_cases ej : j = k
      · subst ej; rw [if_pos rfl, if_pos rfl, if_pos rfl, if_pos rfl]; exact ⟨rfl, rfl, rfl, rfl⟩
      · rw [if_neg ej, if_neg ej, if_neg ej, if_neg ej]; exact hk j (by omega)
/-! bounds -/
def ROK (r : Nat × Nat × Nat × Nat) : Prop := r.1 ≤ 2 ∧ r.2.1 ≤ 100 ∧ r.2.2.1 ≤ 100 ∧ r.2.2.2 ≤ 100
def okR (T : Nat) (x : Nat ⊕ ((Nat × Nat × Nat × Nat) × Nat)) : Prop := match x with
  | .inl p => p ≤ T
  | .inr q => q.2 ≤ T ∧ ROK q.1
theorem rdNum_ok {B : Nat → Int32} {T s : Nat} (hs : s ≤ T) {K : Nat → Nat → Nat ⊕ ((Nat × Nat × Nat × Nat) × Nat)} (hK : ∀ a, a ≤ 100 → okR T (K a (nx B T s))) : okR T (rdNum B T s K) := by
  unfold rdNum
  cases e : num B T s with
  | none => exact hs
  | some a => exact hK a (num_le e)
theorem rdWord_ok {B : Nat → Int32} {T i s : Nat} (hs : s ≤ T) {K : Nat → Nat ⊕ ((Nat × Nat × Nat × Nat) × Nat)} (hK : okR T (K (nx B T s))) : okR T (rdWord B T i s K) := by
  unfold rdWord; split
  · exact hK
  · exact hs
theorem rdRule_ok (B : Nat → Int32) (T st : Nat) (h : st ≤ T) : okR T (rdRule B T st) := by
  have n1 := nx_le B T st h
  have n2 := nx_le B T _ n1
  have n3 := nx_le B T _ n2
  have n4 := nx_le B T _ n3
  have n5 := nx_le B T _ n4
  have n6 := nx_le B T _ n5
  unfold rdRule
  split
  · refine rdNum_ok n1 (fun a ha => rdWord_ok n2 (rdNum_ok n3 (fun b hb => ?_)))
    split
    · exact rdNum_ok n5 (fun c hc => ⟨n6, by show (0 : Nat) ≤ 2; omega, ha, hb, hc⟩)
    · exact ⟨n4, by show (0 : Nat) ≤ 2; omega, ha, hb, by show (0 : Nat) ≤ 100; omega⟩
  · split
    · exact rdWord_ok n1 (rdNum_ok n2 (fun a ha => ⟨n3, by show (1 : Nat) ≤ 2; omega, ha, by show (0 : Nat) ≤ 100; omega, by show (0 : Nat) ≤ 100; omega⟩))
    · split
      · exact rdNum_ok n1 (fun a ha => ⟨n2, by show (2 : Nat) ≤ 2; omega, ha, by show (0 : Nat) ≤ 100; omega, by show (0 : Nat) ≤ 100; omega⟩)
      · exact h
def okA (T : Nat) (m : Nat) (x : Option Nat × List (Nat × Nat × Nat × Nat)) : Prop := (∀ p, x.1 = some p → p ≤ T) ∧ (∀ r ∈ x.2, ROK r) ∧ x.2.length ≤ m
theorem rdAll_ok (B : Nat → Int32) (T : Nat) : ∀ (n st : Nat) (acc : List (Nat × Nat × Nat × Nat)), st ≤ T → (∀ r ∈ acc, ROK r) → okA T (acc.length + n) (rdAll B T n st acc)
  | 0, st, acc, h, ha => ⟨fun p e => by simp only [rdAll, Option.some.injEq] at e; omega, ha, by simp [rdAll]⟩
  | n + 1, st, acc, h, ha => by
    have hr := rdRule_ok B T st h
    rw [rdAll_succ]
    cases e : rdRule B T st with
    | inl p =>
      rw [e] at hr
      exact ⟨fun q eq => by simp only [Option.some.injEq] at eq; have : p ≤ T := hr; omega, ha, by show acc.length ≤ _; omega⟩
    | inr q =>
      obtain ⟨r, s⟩ := q
      rw [e] at hr
      have hs : s ≤ T := hr.1
      have ha2 : ∀ x ∈ acc ++ [r], ROK x := by
        intro x hx
        rcases List.mem_append.mp hx with q | q
        · exact ha x q
        · rw [List.mem_singleton.mp q]; exact hr.2
      have el : (acc ++ [r]).length = acc.length + 1 := by simp
      show okA T _ (afterF B T n s (acc ++ [r]))
      unfold afterF
      split
      · split
        · have := rdAll_ok B T n (nx B T s) (acc ++ [r]) (nx_le B T s hs) ha2
          rw [el] at this
          rw [show acc.length + (n + 1) = acc.length + 1 + n by omega]; exact this
        · exact ⟨fun p e => by simp only [Option.some.injEq] at e; omega, ha2, by rw [el]; omega⟩
      · exact ⟨fun p e => by simp at e, ha2, by rw [el]; omega⟩
theorem rdTop_ok (B : Nat → Int32) (T : Nat) : okA T 20 (rdTop B T) := by
  unfold rdTop
  split
  · have := rdAll_ok B T 20 (skp B T 0) [] (by omega) (fun r hr => by simp at hr)
    simpa using this
  · exact ⟨fun p e => by simp at e, fun r hr => by simp at hr, by simp⟩
