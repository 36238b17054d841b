/-! the reference's three rounds -/
theorem l0 : (0 : Int64) = lN 0 := rfl
theorem rounds (N : Nat) (hN : 4000 ≤ N) (Q : Int32 → UU → Prop) (S : Nat → Bool) (d z : Nat → Int32) (dn zn : Nat → Nat) (x1 x2 : Int32) (kb : Nat) (hkb : kb ≤ 30) (hd : ∀ b, b < kb → d b = nI (dn b) ∧ dn b ≤ 7938) (hz : ∀ b, z b = nI (zn b) ∧ zn b ≤ 100) (l L : List Nat) (el : l = fullC S d kb) (eL : L = l.take 3) (g : Nat → Nat) (eg : g = fun j => L.getD j 0) :
    ∀ (f k : Nat) (u : UU), k ≤ 3 → 3 < k + f → u.1 2 = nI kb → (∀ b, b < kb → u.2.1 14 b = z b) → (∀ b, b < kb → d b = dF (u.2.1 0) (u.2.1 1) x1 x2 b) → (∀ b, b < kb → u.2.1 17 b = iB (tkF S l k b)) →
      (∀ w, frF u w → (L.length ≠ 0 → w.1 8 = mSz dn zn z g L.length ∧ w.1 9 = mSu dn z g L.length) → Q (if L.length = 0 then 0 else 1) w) →
      m_X12_findMap_56 N Q f x1 x2 (nI (min k L.length)) (loN z g (min k L.length)) (hiN z g (min k L.length)) (if min k L.length = 0 then -1 else nI (g 0)) (lN (wS dn g (min k L.length))) (lN (sS dn zn g (min k L.length))) (nI k) u := by
  intro f
  have hL3 : L.length = min 3 l.length := by rw [eL, List.length_take]
  have gl : ∀ j (h : j < l.length), j < 3 → g j = l[j] := by
    intro j h h3
    rw [eg]; simp only [eL]
    rw [List.getD_eq_getElem?_getD, List.getElem?_take, if_pos h3, List.getElem?_eq_getElem h]; rfl
  have gm : ∀ j, j < L.length → g j < kb := by
    intro j hj
    rw [gl j (by omega) (by omega)]
    have hm : l[j]'(by omega) ∈ l := List.getElem_mem _
    generalize l[j]'(by omega) = y at hm
    rw [el] at hm
    exact (full_mem.mp hm).1
  induction f with
  | zero => intro k u h1 h2; omega
  | succ f ih =>
    intro k u h1 h2 e2 h14 hdu h17 hQ
    rw [m_X12_findMap_56]
    by_cases hk : k = 3
    · subst hk
      rw [if_pos (show (3 : Int32) ≤ nI 3 by decide)]
      have em : min 3 L.length = L.length := by omega
      rw [em]
      by_cases hn : L.length = 0
      · rw [if_pos (by rw [hn]; rfl)]
        have := hQ u (frF_rf u) (fun q => absurd hn q)
        rw [if_pos hn] at this
        exact ⟨nb_0, this⟩
      · rw [if_neg (nI_ne0 (by omega) (by omega)), if_neg hn]
        have g0 := gm 0 (by omega)
        obtain ⟨d1, d2⟩ := hd (g 0) g0
        have hw := wS_le dn g L.length
        have hs := sS_le dn zn g (fun b => (hz b).2) L.length
        have fin : ∀ y, y = mSz dn zn z g L.length → m_X12_findMap_295 N x1 x2 (nI L.length) (loN z g L.length) (hiN z g L.length) (nI (g 0)) y u Q := by
          intro y hy
          unfold m_X12_findMap_295
          intro u1 a1
          refine mroot_loop N Q (dn (g 0)) (g 0) (by omega) d2 x1 x2 _ _ _ u1 ?_ N 120 0 (by omega) (by omega) (fun s es => ?_)
          · rw [a1]; show dF (u.2.1 0) (u.2.1 1) x1 x2 (g 0) = _
            rw [← hdu _ g0]; exact d1
          · have := hQ (sI u1 9 (if 0 < s then s else 0)) (by rw [a1]; exact frF_tr (frF_sI u 8 (by omega) _) (frF_sI _ 9 (by omega) _)) (fun _ => ⟨by rw [a1]; show y = _; exact hy, by rw [es]; rfl⟩)
            rw [if_neg hn] at this; exact this
        by_cases hw0 : wS dn g L.length = 0
        · rw [if_pos (by rw [cmp_eq, hw0]; rfl)]
          refine ⟨vp_in_nI (by omega) (by omega), ?_⟩
          rw [cl_nI (by omega), h14 _ g0]
          exact fin _ (by unfold mSz; rw [if_pos hw0])
        · have hne : ¬ lN (wS dn g L.length) = 0 := fun q => hw0 ((lN_eq (b := 0) (by omega) (by omega)).mp q)
          rw [if_neg (by rw [cmp_eq]; exact hne)]
          refine ⟨hne, ?_⟩
          rw [pk_lDiv (by omega) (by omega) (by omega), lN_i]
          exact fin _ (by unfold mSz; rw [if_neg hw0])
    · rw [if_neg (show ¬ (3 : Int32) ≤ nI k from nI_ge (b := 3) (by omega) (by omega))]
      refine round_loop N Q _ (tkF S l k) d x1 x2 _ _ _ _ _ _ k u kb hkb e2 h17 hdu (fun b hb => ⟨dn b, (hd b hb).2, (hd b hb).1⟩) ?_ N 0 (by omega) (by omega)
      have es : bestM (tkF S l k) d kb = l[k]? := by rw [el]; exact tk_sel
      rw [es]
      by_cases hkl : k < l.length
      · rw [List.getElem?_eq_getElem hkl]
        have m1 : min k L.length = k := by omega
        have m2 : min (k + 1) L.length = k + 1 := by omega
        have egk := gl k hkl (by omega)
        have hgk := gm k (by omega)
        rw [← egk]
        simp only [rndQ]
        have ih' := ih (k + 1) (sA u 17 (upd (u.2.1 17) (g k) 1)) (by omega) (by omega) e2 h14 hdu (fun b hb => ?_) (fun w hw => hQ w (frF_tr (frF_sA u _) hw))
        · rw [m2] at ih'
          rw [m1, h14 _ hgk, (hd _ hgk).1, wdiv _ (hd _ hgk).2]
          have wl := wt_le dn g k
          unfold wtN at wl
          rw [nI_l (by omega), (hz (g k)).1, nI_l (by have := (hz (g k)).2; omega), lN_mul, lN_add, lN_add, nI_1]
          unfold loN hiN wS sS wtN at ih'
          by_cases k0 : k = 0
          · subst k0
            rw [if_pos (show nI 0 = 0 from rfl), if_pos (show nI 0 = 0 from rfl), if_pos (show nI 0 = 0 from rfl)]
            rw [if_pos rfl, if_pos rfl, if_neg (show ¬ 0 + 1 = 0 by omega), (hz (g 0)).1] at ih'
            exact ih'
          · have n0 := nI_ne0 (n := k) (by omega) (by omega)
            rw [if_neg n0, if_neg n0, if_neg n0, if_neg k0]
            rw [if_neg k0, if_neg k0, if_neg (show ¬ k + 1 = 0 by omega), (hz (g k)).1] at ih'
            exact ih'
        · show upd (u.2.1 17) (g k) 1 b = _
          rw [upd_at]
          by_cases hbk : b = g k
          · rw [if_pos hbk]
            have : b ∈ l.take (k + 1) := List.mem_take_iff_getElem.mpr ⟨k, by omega, by rw [hbk, egk]⟩
            unfold tkF; simp [this, iB]
          · rw [if_neg hbk, h17 b hb]
            have : b ∈ l.take (k + 1) ↔ b ∈ l.take k := by
              constructor
              · intro q
                obtain ⟨i, hi, e⟩ := List.mem_take_iff_getElem.mp q
                by_cases hik : i = k
                · subst hik; exact absurd (e.symm.trans egk.symm) hbk
                · exact List.mem_take_iff_getElem.mpr ⟨i, by omega, e⟩
              · intro q
                obtain ⟨i, hi, e⟩ := List.mem_take_iff_getElem.mp q
                exact List.mem_take_iff_getElem.mpr ⟨i, by omega, e⟩
            unfold tkF; simp only [this]
      · rw [List.getElem?_eq_none (by omega)]
        simp only [rndQ]
        have ih' := ih (k + 1) u (by omega) (by omega) e2 h14 hdu (fun b hb => by
          rw [h17 b hb]; unfold tkF; rw [List.take_of_length_le (by omega), List.take_of_length_le (by omega)]) hQ
        rw [show min (k + 1) L.length = min k L.length by omega] at ih'
        exact ih'
theorem findMap_ok (N : Nat) (hN : 4000 ≤ N) (Q : Int32 → UU → Prop) (S : Nat → Bool) (d z : Nat → Int32) (dn zn : Nat → Nat) (x1 x2 : Int32) (kb : Nat) (hkb : kb ≤ 30) (hd : ∀ b, b < kb → d b = nI (dn b) ∧ dn b ≤ 7938) (hz : ∀ b, z b = nI (zn b) ∧ zn b ≤ 100) (L : List Nat) (eL : L = (fullC S d kb).take 3) (u : UU) (e2 : u.1 2 = nI kb) (h14 : ∀ b, b < kb → u.2.1 14 b = z b) (hdu : ∀ b, b < kb → d b = dF (u.2.1 0) (u.2.1 1) x1 x2 b) (h16 : ∀ b, b < kb → u.2.1 16 b = iB (S b))
    (hQ : ∀ w, frF u w → (L.length ≠ 0 → w.1 8 = mSz dn zn z (fun j => L.getD j 0) L.length ∧ w.1 9 = mSu dn z (fun j => L.getD j 0) L.length) → Q (if L.length = 0 then 0 else 1) w) : m_X12_findMap N x1 x2 u Q := by
  unfold m_X12_findMap
  refine taken_loop N Q S x1 x2 kb hkb N 0 u (by omega) (by omega) e2 h16 (fun b hb => by omega) (fun w fw hT => ?_)
  have := rounds N hN Q S d z dn zn x1 x2 kb hkb hd hz _ L rfl eL _ rfl N 0 w (by omega) (by omega) ((fw.1 2 (by omega) (by omega)).trans e2) (by rw [fw.2 14 (by omega)]; exact h14) (by rw [fw.2 0 (by omega), fw.2 1 (by omega)]; exact hdu) (fun b hb => by rw [hT b hb]; unfold tkF; simp) (fun w2 f2 h => hQ w2 (frF_tr fw f2) h)
  rw [Nat.zero_min] at this
  exact this
