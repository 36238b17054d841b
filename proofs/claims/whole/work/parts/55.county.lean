/-! the class's map: size and sureness -/
def dF (X Y : Nat → Int32) (a b : Int32) (n : Nat) : Int32 := (X n - a) * (X n - a) + (Y n - b) * (Y n - b)
theorem sub63 {x a : Int32} (hx : 0 ≤ x ∧ x ≤ 63) (ha : 0 ≤ a ∧ a ≤ 63) : sm (x - a) 63 := by
  obtain ⟨p, hp, rfl⟩ := nat_of (n := 63) (by omega) hx.1 hx.2
  obtain ⟨q, hq, rfl⟩ := nat_of (n := 63) (by omega) ha.1 ha.2
  unfold sm
  rw [pk_sub_toInt (by omega) (by omega)]; omega
theorem sq_nn (t : Int) : 0 ≤ t * t := by
  rcases Int.le_total 0 t with h | h
  · exact Int.mul_nonneg h h
  · exact Int.mul_nonneg_of_nonpos_of_nonpos h h
theorem dF_rng {X Y : Nat → Int32} {a b : Int32} {n : Nat} (h1 : 0 ≤ X n ∧ X n ≤ 63) (h2 : 0 ≤ Y n ∧ Y n ≤ 63) (ha : 0 ≤ a ∧ a ≤ 63) (hb : 0 ≤ b ∧ b ≤ 63) : ∃ m : Nat, m ≤ 7938 ∧ dF X Y a b n = nI m := by
  have s1 := sub63 h1 ha
  have s2 := sub63 h2 hb
  obtain ⟨e3, s3⟩ := sm_mul s1 s1 (by omega)
  obtain ⟨e4, s4⟩ := sm_mul s2 s2 (by omega)
  obtain ⟨e5, s5⟩ := sm_add s3 s4 (by omega)
  unfold dF
  have n3 : 0 ≤ ((X n - a) * (X n - a)).toInt := by rw [e3]; exact sq_nn _
  have n4 : 0 ≤ ((Y n - b) * (Y n - b)).toInt := by rw [e4]; exact sq_nn _
  obtain ⟨m, hm, e⟩ := nI_of (x := (X n - a) * (X n - a) + (Y n - b) * (Y n - b)) (by rw [i_lt, e5]; show ¬ _ < (0 : Int); omega)
  refine ⟨m, ?_, e⟩
  rw [e] at s5
  unfold sm at s5
  rw [nI_toInt hm] at s5
  omega
theorem look_loop (N : Nat) (hN : 4000 ≤ N) (Q : Int32 → UU → Prop) (W X Y cl : Nat → Int32) (h x1 x2 : Int32) (kb : Nat) (hkb : kb ≤ 30) :
    ∀ (f i : Nat) (u : UU), i ≤ kb → kb < i + f → u.1 2 = nI kb → u.1 4 = h → Shw W u → u.2.1 2 = cl → u.2.1 0 = X → u.2.1 1 = Y → NL u (dF X Y x1 x2) ((fullC (fun b => seenF W h (cl b) b) (dF X Y x1 x2) i).take 3) →
      (∀ w, frC u w → NL w (dF X Y x1 x2) ((fullC (fun b => seenF W h (cl b) b) (dF X Y x1 x2) kb).take 3) → m_X2_look_79 N Q N 0 w) → m_X2_look_7 N Q f x1 x2 (nI i) u := by
  intro f
  induction f with
  | zero => intro i u h1 h2; omega
  | succ f ih =>
    intro i u h1 h2 e2 e4 hS ec eX eY hL hQ
    rw [m_X2_look_7, e2]
    by_cases hi : i = kb
    · subst hi; rw [if_pos (nI_le (Nat.le_refl _) (by omega))]; exact hQ u (frC_rf u) hL
    · rw [if_neg (nI_ge (by omega) (by omega))]
      refine isSeen_ok N hN _ W u hS kb i hkb (by omega) e2 ?_
      rw [e4, ec]
      simp only [m_X2_look_71, forall_eq, nI_1]
      by_cases hs : seenF W h (cl i) i = true
      · rw [if_pos hs, if_neg (by decide)]
        refine ⟨vp_in_nI (by omega) (by omega), vp_in_nI (by omega) (by omega), ?_⟩
        rw [cl_nI (by omega), eX, eY]
        refine insert_ok N hN _ (dF X Y x1 x2) i _ (List.Pairwise.sublist (List.take_sublist _ _) (full_srt i)) u hL (fun w fw hw => ?_)
        rw [take_ins] at hw
        refine ih (i + 1) w (by omega) (by omega) ((fw.1 2 (by omega)).trans e2) ((fw.1 4 (by omega)).trans e4) (frC_shw fw hS) ((fw.2 2 (by omega) (by omega)).trans ec) ((fw.2 0 (by omega) (by omega)).trans eX) ((fw.2 1 (by omega) (by omega)).trans eY) ?_ (fun w2 hw2 => hQ w2 (frC_tr fw hw2))
        unfold fullC; rw [if_pos hs]; exact hw
      · rw [if_neg hs, if_pos rfl]
        refine ih (i + 1) u (by omega) (by omega) e2 e4 hS ec eX eY ?_ hQ
        unfold fullC; rw [if_neg hs]; exact hL
theorem NL_gen {u : UU} {d : Nat → Int32} {L : List Nat} (h : NL u d L) : u.1 9 = nI L.length ∧ L.length ≤ 3 ∧ ∀ j, j < L.length → u.2.1 15 j = nI (L.getD j 0) ∧ u.2.1 16 j = d (L.getD j 0) := by
  match L, h with
  | [], h => exact ⟨h, by simp, fun j hj => by simp at hj⟩
  | [a], ⟨h9, ha⟩ => exact ⟨h9, by simp, fun j hj => match j, hj with
    | 0, _ => ha⟩
  | [a, b], ⟨h9, ha, hb⟩ => exact ⟨h9, by simp, fun j hj => match j, hj with
    | 0, _ => ha
    | 1, _ => hb⟩
  | [a, b, c], ⟨h9, ha, hb, hc⟩ => exact ⟨h9, by simp, fun j hj => match j, hj with
    | 0, _ => ha
    | 1, _ => hb
    | 2, _ => hc⟩
  | _ :: _ :: _ :: _ :: _, h => exact h.elim
theorem stones_loop (N : Nat) (hN : 4000 ≤ N) (Q : Int32 → UU → Prop) (W tw ts : Nat → Int32) (g : Nat → Nat) (n : Nat) (hn : n ≤ 3) :
    ∀ (f k : Nat) (u : UU), k ≤ n → n < k + f → u.1 9 = nI n → Shw W u → u.2.1 7 = tw → u.2.1 8 = ts → (∀ j, j < n → u.2.1 15 j = nI (g j) ∧ g j < 30) → (∀ j, j < k → u.2.1 17 j = bsz W tw ts (g j) 10) →
      (∀ w, frC u w → w.1 9 = u.1 9 → w.2.1 15 = u.2.1 15 → w.2.1 16 = u.2.1 16 → (∀ j, j < n → w.2.1 17 j = bsz W tw ts (g j) 10) → Q (if n = 0 then 0 else 1) w) → m_X2_look_79 N Q f (nI k) u := by
  intro f
  induction f with
  | zero => intro k u h1 h2; omega
  | succ f ih =>
    intro k u h1 h2 e9 hS et es hg hz hQ
    rw [m_X2_look_79, e9]
    by_cases hk : k = n
    · subst hk
      rw [if_pos (nI_le (Nat.le_refl _) (by omega))]
      have := hQ u (frC_rf u) rfl rfl rfl hz
      by_cases h0 : k = 0
      · subst h0; rw [if_pos (by decide)]; exact ⟨nb_0, this⟩
      · rw [if_neg h0] at this
        rw [if_neg (nI_nle (by omega) (by omega))]; exact ⟨nb_1, this⟩
    · rw [if_neg (nI_ge (by omega) (by omega))]
      refine ⟨vp_in_nI (by omega) (by omega), ?_⟩
      rw [cl_nI (by omega), (hg k (by omega)).1]
      refine boardSize_ok N hN _ W (g k) (hg k (by omega)).2 u hS (fun r => ⟨vp_in_nI (by omega) (by omega), fun u3 e3 z ez => ?_⟩)
      rw [ez, nI_1]
      rw [et, es] at e3
      have f3 : frC u u3 := by rw [e3]; exact frC_tr (frC_sA u 13 r (by omega)) (frC_sA _ 17 _ (by omega))
      have g15 : u3.2.1 15 = u.2.1 15 := by rw [e3]; rfl
      have g16 : u3.2.1 16 = u.2.1 16 := by rw [e3]; rfl
      refine ih (k + 1) u3 (by omega) (by omega) (by rw [e3]; exact e9) (frC_shw f3 hS) ((f3.2 7 (by omega) (by omega)).trans et) ((f3.2 8 (by omega) (by omega)).trans es) (by rw [g15]; exact hg) (fun j hj => ?_) (fun w hw a b c => hQ w (frC_tr f3 hw) (a.trans (by rw [e3]; rfl)) (b.trans g15) (c.trans g16))
      rw [e3]
      show upd (u.2.1 17) k _ j = _
      rw [upd_at]
      by_cases hjk : j = k
      · rw [if_pos hjk, hjk]
      · rw [if_neg hjk]; exact hz j (by omega)
theorem look_ok (N : Nat) (hN : 4000 ≤ N) (Q : Int32 → UU → Prop) (W : Nat → Int32) (u : UU) (x1 x2 : Int32) (kb : Nat) (hkb : kb ≤ 30) (e2 : u.1 2 = nI kb) (hS : Shw W u)
    (hQ : ∀ (w : UU) (L : List Nat), L = (fullC (fun b => seenF W (u.1 4) (u.2.1 2 b) b) (dF (u.2.1 0) (u.2.1 1) x1 x2) kb).take 3 → frC u w → w.1 9 = nI L.length → (∀ j, j < L.length → w.2.1 16 j = dF (u.2.1 0) (u.2.1 1) x1 x2 (L.getD j 0) ∧ w.2.1 17 j = bsz W (u.2.1 7) (u.2.1 8) (L.getD j 0) 10) → Q (if L.length = 0 then 0 else 1) w) : m_X2_look N x1 x2 u Q := by
  unfold m_X2_look
  intro u1 e1
  have f1 : frC u u1 := by rw [e1]; exact frC_sI u _
  refine look_loop N hN Q W (u.2.1 0) (u.2.1 1) (u.2.1 2) (u.1 4) x1 x2 kb hkb N 0 u1 (by omega) (by omega) (by rw [e1]; exact e2) (by rw [e1]; rfl) (frC_shw f1 hS) (by rw [e1]; rfl) (by rw [e1]; rfl) (by rw [e1]; rfl) (by rw [e1]; exact rfl) (fun w fw hL => ?_)
  obtain ⟨a, b, c⟩ := NL_gen hL
  have fw1 := frC_tr f1 fw
  generalize eL : (fullC (fun b => seenF W (u.1 4) (u.2.1 2 b) b) (dF (u.2.1 0) (u.2.1 1) x1 x2) kb).take 3 = L at a b c
  refine stones_loop N hN Q W (u.2.1 7) (u.2.1 8) (fun j => L.getD j 0) L.length b N 0 w (by omega) (by omega) a (frC_shw fw1 hS) (fw1.2 7 (by omega) (by omega)) (fw1.2 8 (by omega) (by omega)) (fun j hj => ⟨(c j hj).1, ?_⟩) (fun j hj => by omega) (fun w2 f2 q9 q15 q16 q17 => ?_)
  · have hm : L.getD j 0 ∈ L := by
      rw [List.getD_eq_getElem?_getD, List.getElem?_eq_getElem hj]; exact List.getElem_mem hj
    generalize L.getD j 0 = y at hm
    rw [← eL] at hm
    have := full_mem.mp (List.mem_of_mem_take hm)
    omega
  · exact hQ w2 L eL.symm (frC_tr fw1 f2) (q9.trans a) (fun j hj => ⟨by rw [q16]; exact (c j hj).2, q17 j hj⟩)
/-! the sums, the roots, the least and the greatest -/
def wtN (dn : Nat → Nat) (g : Nat → Nat) (j : Nat) : Nat := 10000 / (1 + dn (g j))
def wS (dn : Nat → Nat) (g : Nat → Nat) : Nat → Nat
  | 0 => 0
  | i + 1 => wS dn g i + wtN dn g i
def sS (dn zn : Nat → Nat) (g : Nat → Nat) : Nat → Nat
  | 0 => 0
  | i + 1 => sS dn zn g i + wtN dn g i * zn (g i)
theorem wt_le (dn : Nat → Nat) (g : Nat → Nat) (j : Nat) : wtN dn g j ≤ 10000 := Nat.div_le_self _ _
theorem wS_le (dn : Nat → Nat) (g : Nat → Nat) : ∀ i, wS dn g i ≤ 10000 * i
  | 0 => by simp [wS]
  | i + 1 => by have := wS_le dn g i; have := wt_le dn g i; unfold wS; omega
theorem sS_le (dn zn : Nat → Nat) (g : Nat → Nat) (hz : ∀ b, zn b ≤ 100) : ∀ i, sS dn zn g i ≤ 1000000 * i
  | 0 => by simp [sS]
  | i + 1 => by
    have := sS_le dn zn g hz i
    have : wtN dn g i * zn (g i) ≤ 10000 * 100 := Nat.mul_le_mul (wt_le dn g i) (hz _)
    unfold sS; omega
def loN (z : Nat → Int32) (g : Nat → Nat) : Nat → Int32
  | 0 => 0
  | i + 1 => if i = 0 then z (g 0) else if z (g i) < loN z g i then z (g i) else loN z g i
def hiN (z : Nat → Int32) (g : Nat → Nat) : Nat → Int32
  | 0 => 0
  | i + 1 => if i = 0 then z (g 0) else if hiN z g i < z (g i) then z (g i) else hiN z g i
def rt (m : Nat) : Nat → Nat → Nat
  | 0, r => r
  | f + 1, r => if m < (r + 1) * (r + 1) then r else rt m f (r + 1)
def mSz (dn zn : Nat → Nat) (z : Nat → Int32) (g : Nat → Nat) (n : Nat) : Int32 := if wS dn g n = 0 then z (g 0) else nI (sS dn zn g n / wS dn g n)
def mSuR (dn : Nat → Nat) (z : Nat → Int32) (g : Nat → Nat) (n : Nat) : Int32 := 100 - 4 * nI (rt (dn (g 0)) 120 0) - 10 * (3 - nI n) - (hiN z g n - loN z g n)
def mSu (dn : Nat → Nat) (z : Nat → Int32) (g : Nat → Nat) (n : Nat) : Int32 := if 0 < mSuR dn z g n then mSuR dn z g n else 0
theorem wdiv (m : Nat) (hm : m ≤ 7938) : (10000 : Int32) / (1 + nI m) = nI (10000 / (1 + m)) := by
  rw [show (1 : Int32) = nI 1 from rfl, nI_add, show (10000 : Int32) = nI 10000 from rfl, pk_div (by omega) (by omega) (by omega)]
theorem size_loop (N : Nat) (Q : Int32 → UU → Prop) (dn zn : Nat → Nat) (z : Nat → Int32) (g : Nat → Nat) (n : Nat) (hn : n ≤ 3) (hn0 : n ≠ 0) (u : UU) (e9 : u.1 9 = nI n) (hd : ∀ j, j < n → u.2.1 16 j = nI (dn (g j)) ∧ dn (g j) ≤ 7938) (hz : ∀ j, j < n → u.2.1 17 j = z (g j)) (hzn : ∀ b, z b = nI (zn b) ∧ zn b ≤ 100) (hQ : Q (mSz dn zn z g n) u) :
    ∀ (f i : Nat), i ≤ n → n < i + f → m_X2_size_6 N Q f (nI (wS dn g i)) (nI (sS dn zn g i)) (nI i) u
  | 0, i, h1, h2 => by omega
  | f + 1, i, h1, h2 => by
    rw [m_X2_size_6, e9]
    have hw := wS_le dn g i
    by_cases hi : i = n
    · subst hi
      rw [if_pos (nI_le (Nat.le_refl _) (by omega))]
      unfold mSz at hQ
      by_cases h0 : wS dn g i = 0
      · rw [if_pos h0] at hQ
        rw [if_pos (by rw [h0]; rfl)]
        refine ⟨vp_in_nI (n := 0) (by omega) (by omega), ?_⟩
        rw [show (0 : Int32).toNatClampNeg = 0 from rfl, hz 0 (by omega)]; exact hQ
      · rw [if_neg h0] at hQ
        have hs := sS_le dn zn g (fun b => (hzn b).2) i
        rw [if_neg (nI_ne0 (by omega) (by omega))]
        refine ⟨nI_ne0 (by omega) (by omega), ?_⟩
        rw [pk_div (by omega) (by omega) (by omega)]; exact hQ
    · rw [if_neg (nI_ge (by omega) (by omega))]
      obtain ⟨d1, d2⟩ := hd i (by omega)
      rw [cl_nI (by omega), d1, hz i (by omega), (hzn (g i)).1]
      have em : (if (1 : Int32) < 1 + nI (dn (g i)) then 1 + nI (dn (g i)) else 1) = 1 + nI (dn (g i)) := by
        by_cases q : (1 : Int32) < 1 + nI (dn (g i))
        · rw [if_pos q]
        · rw [if_neg q]
          rw [show (1 : Int32) = nI 1 from rfl, nI_add, nI_ltI (by omega) (by omega)] at q
          rw [show (1 : Int32) = nI 1 from rfl, nI_add, show 1 + dn (g i) = 1 by omega]
      rw [em, wdiv _ d2]
      refine ⟨vp_in_nI (by omega) (by omega), by rw [show (1 : Int32) = nI 1 from rfl, nI_add]; exact nI_ne0 (by omega) (by omega), ?_⟩
      intro z1 q1 z2 q2
      refine ⟨vp_in_nI (by omega) (by omega), fun z3 q3 z4 q4 => ?_⟩
      rw [q4, q3, q2, q1, nI_1, nI_add, pk_mul, nI_add]
      exact size_loop N Q dn zn z g n hn hn0 u e9 hd hz hzn hQ f (i + 1) (by omega) (by omega)
theorem sq_lt {m r : Nat} (hm : m ≤ 7938) (hr : 120 ≤ r) : m < (r + 1) * (r + 1) := by
  have : 121 * 121 ≤ (r + 1) * (r + 1) := Nat.mul_le_mul (by omega) (by omega)
  omega
theorem root_loop (N : Nat) (Q : Int32 → UU → Prop) (m : Nat) (hm : m ≤ 7938) (u : UU) : ∀ (f k r : Nat), r + k = 120 → k < f → Q (nI (rt m k r)) u → m_X2_root_2 N Q f (nI m) (nI r) u
  | 0, k, r, h1, h2, _ => by omega
  | f + 1, k, r, h1, h2, hQ => by
    rw [m_X2_root_2, if_neg (show ¬ (128 : Int32) ≤ nI r from nI_ge (b := 128) (by omega) (by omega)), nI_1, pk_mul]
    have hr : (r + 1) * (r + 1) ≤ 121 * 121 := Nat.mul_le_mul (by omega) (by omega)
    match k, h1, h2, hQ with
    | 0, h1, h2, hQ =>
      rw [if_pos (nI_lt (sq_lt hm (by omega)) (by omega))]; exact hQ
    | k + 1, h1, h2, hQ =>
      unfold rt at hQ
      by_cases hc : m < (r + 1) * (r + 1)
      · rw [if_pos hc] at hQ; rw [if_pos (nI_lt hc (by omega))]; exact hQ
      · rw [if_neg hc] at hQ; rw [if_neg (nI_nlt (by omega) (by omega))]
        intro z ez; rw [ez]
        exact root_loop N Q m hm u f k (r + 1) (by omega) (by omega) hQ
theorem sure_loop (N : Nat) (hN : 4000 ≤ N) (Q : Int32 → UU → Prop) (dn : Nat → Nat) (z : Nat → Int32) (g : Nat → Nat) (n : Nat) (hn : n ≤ 3) (hn0 : n ≠ 0) (u : UU) (e9 : u.1 9 = nI n) (hd : ∀ j, j < n → u.2.1 16 j = nI (dn (g j)) ∧ dn (g j) ≤ 7938) (hz : ∀ j, j < n → u.2.1 17 j = z (g j)) (hQ : Q (mSu dn z g n) u) :
    ∀ (f i : Nat), 0 < i → i ≤ n → n < i + f → m_X2_sure_16 N Q f (loN z g i) (hiN z g i) (nI i) u
  | 0, i, h0, h1, h2 => by omega
  | f + 1, i, h0, h1, h2 => by
    rw [m_X2_sure_16, e9]
    by_cases hi : i = n
    · subst hi
      rw [if_pos (nI_le (Nat.le_refl _) (by omega))]
      refine ⟨vp_in_nI (n := 0) (by omega) (by omega), ?_⟩
      rw [show (0 : Int32).toNatClampNeg = 0 from rfl, (hd 0 (by omega)).1]
      unfold m_X2_root
      refine root_loop N _ _ (hd 0 (by omega)).2 u N 120 0 (by omega) (by omega) ?_
      intro z3 e3
      rw [e9] at e3
      rw [e3]; exact hQ
    · rw [if_neg (nI_ge (by omega) (by omega))]
      rw [cl_nI (by omega), hz i (by omega)]
      refine ⟨vp_in_nI (by omega) (by omega), fun z4 e4 => ⟨vp_in_nI (by omega) (by omega), fun z5 e5 z6 e6 => ?_⟩⟩
      have ih := sure_loop N hN Q dn z g n hn hn0 u e9 hd hz hQ f (i + 1) (by omega) (by omega) (by omega)
      unfold loN hiN at ih
      rw [if_neg (show ¬ i = 0 by omega), if_neg (show ¬ i = 0 by omega)] at ih
      rw [e6, e5, e4, nI_1]; exact ih
theorem size_ok (N : Nat) (hN : 4000 ≤ N) (Q : Int32 → UU → Prop) (dn zn : Nat → Nat) (z : Nat → Int32) (g : Nat → Nat) (n : Nat) (hn : n ≤ 3) (hn0 : n ≠ 0) (u : UU) (e9 : u.1 9 = nI n) (hd : ∀ j, j < n → u.2.1 16 j = nI (dn (g j)) ∧ dn (g j) ≤ 7938) (hz : ∀ j, j < n → u.2.1 17 j = z (g j)) (hzn : ∀ b, z b = nI (zn b) ∧ zn b ≤ 100) (hQ : Q (mSz dn zn z g n) u) : m_X2_size N u Q :=
  size_loop N Q dn zn z g n hn hn0 u e9 hd hz hzn hQ N 0 (by omega) (by omega)
theorem sure_ok (N : Nat) (hN : 4000 ≤ N) (Q : Int32 → UU → Prop) (dn : Nat → Nat) (z : Nat → Int32) (g : Nat → Nat) (n : Nat) (hn : n ≤ 3) (hn0 : n ≠ 0) (u : UU) (e9 : u.1 9 = nI n) (hd : ∀ j, j < n → u.2.1 16 j = nI (dn (g j)) ∧ dn (g j) ≤ 7938) (hz : ∀ j, j < n → u.2.1 17 j = z (g j)) (hQ : Q (mSu dn z g n) u) : m_X2_sure N u Q := by
  unfold m_X2_sure
  refine ⟨vp_in_nI (n := 0) (by omega) (by omega), fun z1 e1 => ⟨vp_in_nI (n := 0) (by omega) (by omega), fun z2 e2 => ?_⟩⟩
  rw [show (0 : Int32).toNatClampNeg = 0 from rfl, hz 0 (by omega)] at e1 e2
  rw [e1, e2]
  exact sure_loop N hN Q dn z g n hn hn0 u e9 hd hz hQ N 1 (by omega) (by omega) (by omega)
