/-! words as numbers to the base 32 -/
def valr : List Nat → Nat
  | [] => 0
  | c :: l => valr l * 32 + c
theorem valr_inj : ∀ {l l' : List Nat}, (∀ c ∈ l, 1 ≤ c ∧ c ≤ 31) → (∀ c ∈ l', 1 ≤ c ∧ c ≤ 31) → valr l = valr l' → l = l'
  | [], [], _, _, _ => rfl
  | [], c :: l', _, h', e => by
    have := h' c List.mem_cons_self
    simp only [valr] at e; omega
  | c :: l, [], h, _, e => by
    have := h c List.mem_cons_self
    simp only [valr] at e; omega
  | c :: l, c' :: l', h, h', e => by
    have a := h c List.mem_cons_self
    have b := h' c' List.mem_cons_self
    simp only [valr] at e
    have e1 : c = c' := by omega
    have e2 : valr l = valr l' := by omega
    rw [e1, valr_inj (fun x hx => h x (List.mem_cons_of_mem _ hx)) (fun x hx => h' x (List.mem_cons_of_mem _ hx)) e2]
def ltr (x : Int32) : Nat := (x - 96).toNatClampNeg
theorem ltr_ok {x : Int32} (h : kd x = 1) : x = nI (96 + ltr x) ∧ 1 ≤ ltr x ∧ ltr x ≤ 26 := by
  obtain ⟨a, b⟩ := (kd_1 x).mp h
  obtain ⟨m, hm, rfl⟩ := nat_of (n := 122) (by omega) (by grind) b
  have h97 : 97 ≤ m := (nI_leI (a := 97) (by omega) (by omega)).mp a
  unfold ltr
  rw [show (96 : Int32) = nI 96 from rfl, pk_sub (by omega), cl_nI (by omega)]
  exact ⟨by congr 1; omega, by omega, by omega⟩
def rl (B : Nat → Int32) (st : Nat) : Nat → List Nat
  | 0 => []
  | n + 1 => ltr (B (st + n)) :: rl B st n
theorem rl_len (B : Nat → Int32) (st : Nat) : ∀ n, (rl B st n).length = n
  | 0 => rfl
  | n + 1 => by unfold rl; rw [List.length_cons, rl_len B st n]
theorem rl_get (B : Nat → Int32) (st : Nat) : ∀ n j, j < n → (rl B st n).getD j 0 = ltr (B (st + (n - 1 - j)))
  | 0, j, h => by omega
  | n + 1, 0, h => by unfold rl; simp
  | n + 1, j + 1, h => by
    unfold rl
    rw [List.getD_cons_succ, rl_get B st n j (by omega)]
    congr 2; omega
theorem rl_rng (B : Nat → Int32) (st : Nat) : ∀ n, (∀ j, j < n → kd (B (st + j)) = 1) → ∀ c ∈ rl B st n, 1 ≤ c ∧ c ≤ 26
  | 0, _, c, hc => by simp [rl] at hc
  | n + 1, h, c, hc => by
    unfold rl at hc
    rcases List.mem_cons.mp hc with rfl | hc
    · exact (ltr_ok (h n (by omega))).2
    · exact rl_rng B st n (fun j hj => h j (by omega)) c hc
theorem valr_lt : ∀ (l : List Nat), (∀ c ∈ l, c ≤ 26) → valr l < 32 ^ l.length
  | [], _ => by simp [valr]
  | c :: l, h => by
    have := valr_lt l (fun x hx => h x (List.mem_cons_of_mem _ hx))
    have := h c List.mem_cons_self
    simp only [valr, List.length_cons, Nat.pow_succ]; omega
theorem wW_val (B : Nat → Int32) (st : Nat) : ∀ n, n ≤ 6 → (∀ j, j < n → kd (B (st + j)) = 1) → wW B st n = lN (valr (rl B st n))
  | 0, _, _ => rfl
  | n + 1, hn, h => by
    have ih := wW_val B st n (by omega) (fun j hj => h j (by omega))
    obtain ⟨l1, l2, l3⟩ := ltr_ok (h n (by omega))
    unfold wW rl valr
    rw [if_pos (by omega), ih]
    conv => lhs; rw [l1]
    rw [nI_l (by omega), show (32 : Int64) = lN 32 from rfl, show (96 : Int64) = lN 96 from rfl, lN_mul, lN_add, lN_sub (by omega)]
    congr 1; omega
theorem wW_big (B : Nat → Int32) (st : Nat) : ∀ n, 6 < n → wW B st n = -1
  | 0, h => by omega
  | n + 1, h => by unfold wW; rw [if_neg (by omega)]
/-- the six words, their letters backwards -/
def rwT : List (List Nat) := [[19, 19, 15, 12], [13, 15, 18, 6], [5, 18, 21, 19], [18, 1, 4, 1, 18], [6, 6, 15], [18, 1, 5, 2]]
def rw6 (i : Nat) : List Nat := rwT.getD i []
theorem rw6_ok : ∀ i, i < 6 → (rw6 i).length = sLen i ∧ (∀ c ∈ rw6 i, 1 ≤ c ∧ c ≤ 26) ∧ ∀ k, k < sLen i → sCh i (nI k) = nI (96 + (rw6 i).getD (sLen i - 1 - k) 0) := by decide +kernel
theorem getD_ext {l l' : List Nat} (h : l.length = l'.length) (e : ∀ j, j < l.length → l.getD j 0 = l'.getD j 0) : l = l' := by
  refine List.ext_getElem h (fun j h1 h2 => ?_)
  have := e j h1
  rw [List.getD_eq_getElem?_getD, List.getD_eq_getElem?_getD, List.getElem?_eq_getElem h1, List.getElem?_eq_getElem h2] at this
  exact this
theorem so_1 {B : Nat → Int32} {T st : Nat} (h : soF B T st = 1) : st < T ∧ kd (B st) = 1 := by
  unfold soF at h
  by_cases a : T ≤ st
  · rw [if_pos a] at h; exact absurd h (by decide)
  · rw [if_neg a] at h; exact ⟨by omega, h⟩
theorem word_iff {B : Nat → Int32} {T st i : Nat} (hT : T ≤ 200) (hi : i < 6) : (soF B T st = 1 ∧ wth B T st = lN (valr (rw6 i))) ↔ isW B T i st := by
  obtain ⟨r1, r2, r3⟩ := rw6_ok i hi
  have s5 := sLen_lt i (by omega)
  have hK : valr (rw6 i) < 2 ^ 31 := by
    have := valr_lt (rw6 i) (fun c hc => (r2 c hc).2)
    have h2 : 32 ^ (rw6 i).length ≤ 32 ^ 5 := Nat.pow_le_pow_right (by omega) (by omega)
    omega
  constructor
  · rintro ⟨so, hw⟩
    obtain ⟨hlt, k1⟩ := so_1 so
    have tl := tkE_le B T st (by omega)
    have all : ∀ j, j < tkE B T st - st → kd (B (st + j)) = 1 := fun j hj => (tkE_mem B T st (st + j) (by omega) (by omega)).trans k1
    unfold wth at hw
    rw [if_neg (by omega), if_neg (by rw [k1]; decide), if_pos k1] at hw
    by_cases h6 : tkE B T st - st ≤ 6
    · rw [wW_val B st _ h6 all] at hw
      have hL : valr (rl B st (tkE B T st - st)) < 2 ^ 31 := by
        have := valr_lt (rl B st (tkE B T st - st)) (fun c hc => (rl_rng B st _ all c hc).2)
        rw [rl_len] at this
        have h2 : 32 ^ (tkE B T st - st) ≤ 32 ^ 6 := Nat.pow_le_pow_right (by omega) h6
        omega
      have e := (lN_eq hL hK).mp hw
      have el := valr_inj (fun c hc => by have := rl_rng B st _ all c hc; omega) (fun c hc => by have := r2 c hc; omega) e
      have en : tkE B T st - st = sLen i := by
        have := congrArg List.length el
        rw [rl_len, r1] at this; exact this
      refine ⟨by omega, fun k hk => ?_⟩
      rw [r3 k hk, (ltr_ok (all k (by omega))).1]
      congr 2
      have := rl_get B st (tkE B T st - st) (sLen i - 1 - k) (by omega)
      rw [el] at this
      rw [this]; congr 2; omega
    · rw [wW_big B st _ (by omega)] at hw
      have : (-1 : Int64).toInt = (lN (valr (rw6 i))).toInt := by rw [hw]
      rw [lN_toInt hK] at this
      have h1 : (-1 : Int64).toInt = -1 := by decide
      omega
  · rintro ⟨hl, hb⟩
    have s0 : 0 < sLen i := by
      have : ∀ i, i < 6 → 0 < sLen i := by decide +kernel
      exact this i hi
    have hlt : st < T := by
      by_cases a : T ≤ st
      · exfalso
        unfold tkE at hl; rw [if_pos a] at hl; omega
      · omega
    have tl := tkE_le B T st (by omega)
    have lt1 : ∀ k, k < sLen i → kd (B (st + k)) = 1 := by
      intro k hk
      rw [hb k hk, r3 k hk, kd_1]
      have hm : (rw6 i).getD (sLen i - 1 - k) 0 ∈ rw6 i := by
        rw [List.getD_eq_getElem?_getD, List.getElem?_eq_getElem (by omega)]; exact List.getElem_mem _
      have := r2 _ hm
      exact ⟨nI_le (a := 97) (by omega) (by omega), nI_le (b := 122) (by omega) (by omega)⟩
    have k1 : kd (B st) = 1 := by have := lt1 0 s0; rwa [Nat.add_zero] at this
    refine ⟨by unfold soF; rw [if_neg (by omega), k1], ?_⟩
    unfold wth
    rw [if_neg (by omega), if_neg (by rw [k1]; decide), if_pos k1, hl, show st + sLen i - st = sLen i by omega, wW_val B st _ (by omega) lt1]
    congr 2
    refine getD_ext (by rw [rl_len, r1]) (fun j hj => ?_)
    rw [rl_len] at hj
    rw [rl_get B st _ j hj]
    have hbb := hb (sLen i - 1 - j) (by omega)
    rw [r3 _ (by omega)] at hbb
    unfold ltr
    have e2 : sLen i - 1 - (sLen i - 1 - j) = j := by omega
    rw [e2] at hbb
    have hm : (rw6 i).getD j 0 ∈ rw6 i := by
      rw [List.getD_eq_getElem?_getD, List.getElem?_eq_getElem (by omega)]; exact List.getElem_mem _
    have hr := r2 _ hm
    rw [hbb, show (96 : Int32) = nI 96 from rfl, pk_sub (by omega), cl_nI (by omega)]
    omega
theorem semi_iff {B : Nat → Int32} {T st : Nat} (hst : st ≤ T) : (soF B T st = 3 ∧ wth B T st = 59) ↔ isW B T 6 st := by
  have e6 : sLen 6 = 1 := by decide +kernel
  have c6 : sCh 6 (nI 0) = 59 := by decide +kernel
  have h3 : kd 59 = 3 := by decide
  constructor
  · rintro ⟨so, hw⟩
    have a : ¬ T ≤ st := by
      intro a; unfold soF at so; rw [if_pos a] at so; exact absurd so (by decide)
    unfold soF at so; rw [if_neg a] at so
    unfold wth at hw; rw [if_neg a, if_pos so] at hw
    refine ⟨by unfold tkE; rw [if_neg a, if_pos so, e6], fun k hk => ?_⟩
    have : k = 0 := by omega
    subst this
    rw [c6, Nat.add_zero]
    have h59 : (59 : Int64).toInt = (59 : Int32).toInt := by decide
    have := congrArg Int64.toInt hw
    rw [Int32.toInt_toInt64, h59] at this
    exact Int32.toInt_inj.mp this
  · rintro ⟨hl, hb⟩
    rw [e6] at hl
    have a : ¬ T ≤ st := by
      intro a; unfold tkE at hl; rw [if_pos a] at hl; omega
    have b := hb 0 (by omega)
    rw [c6, Nat.add_zero] at b
    refine ⟨by unfold soF; rw [if_neg a, b, h3], ?_⟩
    unfold wth; rw [if_neg a, b, if_pos h3]; rfl
