/-! the track: pairs of boards in their order -/
def nearD (x y : Nat → Int32) (w : Int32) (i j c : Nat) : Bool :=
  decide ((((x j).toInt - (x i).toInt) * ((y c).toInt - (y i).toInt) - ((y j).toInt - (y i).toInt) * ((x c).toInt - (x i).toInt)) * (((x j).toInt - (x i).toInt) * ((y c).toInt - (y i).toInt) - ((y j).toInt - (y i).toInt) * ((x c).toInt - (x i).toInt)) ≤ w.toInt * w.toInt * (((x j).toInt - (x i).toInt) * ((x j).toInt - (x i).toInt) + ((y j).toInt - (y i).toInt) * ((y j).toInt - (y i).toInt)))
theorem nearD_iff (x y : Nat → Int32) (w : Int32) (i j c : Nat) : nearD x y w i j c = true ↔ nearB x y w i j c := by
  unfold nearD nearB nearZ; exact decide_eq_true_iff
def hitsF (H : Nat → Bool) (nr : Nat → Nat → Nat → Bool) (ap : Nat → Nat → Bool) (kb i j : Nat) : Nat :=
  if (H i && H j && ap i j) = true then cntR (fun c => (H c && nr i j c) = true) kb else 0
def stp (hf : Nat → Nat → Nat) (i j : Nat) (s : Nat × Int32 × Int32) : Nat × Int32 × Int32 := if hf i j ≤ s.1 then s else (hf i j, nI i, nI j)
def rowG (hf : Nat → Nat → Nat) (i : Nat) : Nat → Nat → Nat × Int32 × Int32 → Nat × Int32 × Int32
  | 0, _, s => s
  | n + 1, j, s => rowG hf i n (j + 1) (stp hf i j s)
def outG (hf : Nat → Nat → Nat) (kb : Nat) : Nat → Nat → Nat × Int32 × Int32 → Nat × Int32 × Int32
  | 0, _, s => s
  | n + 1, i, s => outG hf kb n (i + 1) (rowG hf i (kb - (i + 1)) (i + 1) s)
def TOK (kb : Nat) (s : Nat × Int32 × Int32) : Prop := s.1 ≤ 30 ∧ ((s.2.1 = -1 ∧ s.2.2 = -1) ∨ ∃ i j : Nat, i < kb ∧ j < kb ∧ s.2.1 = nI i ∧ s.2.2 = nI j)
theorem stp_ok {hf : Nat → Nat → Nat} {kb : Nat} (hh : ∀ i j, hf i j ≤ 30) {i j : Nat} (hi : i < kb) (hj : j < kb) {s : Nat × Int32 × Int32} (h : TOK kb s) : TOK kb (stp hf i j s) := by
  unfold stp; split
  · exact h
  · exact ⟨hh i j, Or.inr ⟨i, j, hi, hj, rfl, rfl⟩⟩
theorem rowG_ok {hf : Nat → Nat → Nat} {kb : Nat} (hh : ∀ i j, hf i j ≤ 30) {i : Nat} (hi : i < kb) : ∀ (n j : Nat) (s : Nat × Int32 × Int32), j + n ≤ kb → TOK kb s → TOK kb (rowG hf i n j s)
  | 0, _, _, _, h => h
  | n + 1, j, s, hj, h => rowG_ok hh hi n (j + 1) _ (by omega) (stp_ok hh hi (by omega) h)
theorem outG_ok {hf : Nat → Nat → Nat} {kb : Nat} (hh : ∀ i j, hf i j ≤ 30) : ∀ (n i : Nat) (s : Nat × Int32 × Int32), i + n ≤ kb → TOK kb s → TOK kb (outG hf kb n i s)
  | 0, _, _, _, h => h
  | n + 1, i, s, hi, h => outG_ok hh n (i + 1) _ (by omega) (rowG_ok hh (by omega) _ _ _ (by omega) h)
theorem hitsF_le (H : Nat → Bool) (nr : Nat → Nat → Nat → Bool) (ap : Nat → Nat → Bool) {kb : Nat} (hkb : kb ≤ 30) (i j : Nat) : hitsF H nr ap kb i j ≤ 30 := by
  unfold hitsF; split
  · have := cntR_le (fun c => (H c && nr i j c) = true) kb; omega
  · omega
theorem sI_tw (u : UU) (a b : Nat) (x y z w : Int32) : sI (sI (sI (sI u a x) b y) a z) b w = sI (sI u a z) b w := by
  have : (fun j => if j = b then w else if j = a then z else if j = b then y else if j = a then x else u.1 j) = (fun j => if j = b then w else if j = a then z else u.1 j) := by
    funext j; by_cases h1 : j = b
    · simp [h1]
    · by_cases h2 : j = a
      · simp [h1, h2]
      · simp [h1, h2]
  show ((fun j => if j = b then w else if j = a then z else if j = b then y else if j = a then x else u.1 j), u.2) = ((fun j => if j = b then w else if j = a then z else u.1 j), u.2)
  rw [this]
def tS (u : UU) (s : Nat × Int32 × Int32) : UU := sI (sI u 7 s.2.1) 8 s.2.2
def tM (u : UU) (s : Nat × Int32 × Int32) : UU := sI (sI u 5 s.2.1) 6 s.2.2
def iB (b : Bool) : Int32 := if b then 1 else 0
theorem hits_loop (N : Nat) (Q : Int32 → UU → Prop) (u : UU) (kb i j : Nat) (H : Nat → Bool) (nr : Nat → Nat → Nat → Bool) (hkb : kb ≤ 30) (hi : i < kb) (hj : j < kb) (e2 : u.1 2 = nI kb) (h14 : ∀ c, c < kb → u.2.1 14 c = iB (H c)) (P : POK kb (u.2.1 0) (u.2.1 1)) (hw : sm (u.1 6) 20) (hn : ∀ c, nr i j c = true ↔ nearB (u.2.1 0) (u.2.1 1) (u.1 6) i j c)
    (hQ : Q (nI (cntR (fun c => (H c && nr i j c) = true) kb)) u) : ∀ (f c : Nat), c ≤ kb → kb < c + f → m_X9_hitsAlong_5 N Q f (nI i) (nI j) (nI (cntR (fun c => (H c && nr i j c) = true) c)) (nI c) u
  | 0, c, h1, h2 => by omega
  | f + 1, c, h1, h2 => by
    rw [m_X9_hitsAlong_5, e2]
    by_cases hc : c = kb
    · subst hc; rw [if_pos (nI_le (Nat.le_refl _) (by omega))]; exact hQ
    · rw [if_neg (nI_ge (by omega) (by omega))]
      refine ⟨vp_in_nI (by omega) (by omega), ?_⟩
      have ih := hits_loop N Q u kb i j H nr hkb hi hj e2 h14 P hw hn hQ f (c + 1) (by omega) (by omega)
      rw [cl_nI (by omega), h14 c (by omega)]
      simp only [m_X9_hitsAlong_41, forall_eq, nI_1]
      unfold cntR at ih
      by_cases hH : H c = true
      · rw [if_neg (by rw [hH]; decide)]
        refine nearH_ok N _ u kb i j c hkb hi hj (by omega) P hw (fun q => ?_) (fun q => ?_)
        · rw [if_neg (by decide)]
          rw [if_pos (by rw [hH, (hn c).mpr q]; rfl)] at ih; exact ih
        · rw [if_pos rfl]
          rw [if_neg (by rw [hH]; intro z; exact q ((hn c).mp (by simpa using z))), Nat.add_zero] at ih; exact ih
      · rw [if_pos (by rw [show H c = false by simpa using hH]; rfl)]
        rw [if_neg (by simp [hH]), Nat.add_zero] at ih; exact ih
theorem drawH_in (N : Nat) (hN : 4000 ≤ N) (Q : Int32 → UU → Prop) (k19 : Int32 → Int32 → UU → Prop) (u : UU) (kb i : Nat) (H : Nat → Bool) (nr : Nat → Nat → Nat → Bool) (ap : Nat → Nat → Bool) (hkb : kb ≤ 30) (hi : i < kb) (e2 : u.1 2 = nI kb) (h14 : ∀ c, c < kb → u.2.1 14 c = iB (H c)) (P : POK kb (u.2.1 0) (u.2.1 1)) (hw : sm (u.1 6) 20) (hn : ∀ i j c, nr i j c = true ↔ nearB (u.2.1 0) (u.2.1 1) (u.1 6) i j c) (hap : ∀ i j, ap i j = true ↔ ¬ (u.2.1 0 i = u.2.1 0 j ∧ u.2.1 1 i = u.2.1 1 j)) :
    ∀ (f n j : Nat) (s : Nat × Int32 × Int32), j + n = kb → n < f → TOK kb s → k19 (nI (rowG (hitsF H nr ap kb) i n j s).1) (nI (i + 1)) (tS u (rowG (hitsF H nr ap kb) i n j s)) → m_X9_draw_35 N k19 Q f (nI s.1) (nI i) (nI j) (tS u s) := by
  intro f
  induction f with
  | zero => intro n j s h1 h2; omega
  | succ f ih =>
    intro n j s h1 h2 hs hK
    rw [m_X9_draw_35]
    have g2 : (tS u s).1 2 = nI kb := e2
    have g14 : (tS u s).2.1 14 = u.2.1 14 := rfl
    rw [g2, g14]
    match n, h1, h2, hK with
    | 0, h1, h2, hK =>
      have : j = kb := by omega
      subst this
      rw [if_pos (nI_le (Nat.le_refl _) (by omega))]
      intro z hz; rw [hz, nI_1]; exact hK
    | n + 1, h1, h2, hK =>
      rw [if_neg (nI_ge (by omega) (by omega))]
      refine ⟨vp_in_nI (by omega) (by omega), ?_⟩
      rw [cl_nI (by omega), cl_nI (by omega), h14 i hi, h14 j (by omega)]
      have fin : ∀ h, h = hitsF H nr ap kb i j → m_X9_draw_87 N k19 (fun x2 x3 x4 u => m_X9_draw_35 N k19 Q f x2 x3 x4 u) (nI s.1) (nI i) (nI j) (nI h) (tS u s) Q := by
        intro h eh
        unfold m_X9_draw_87 m_X9_draw_109
        have hle := hitsF_le H nr ap hkb i j
        rw [← eh] at hle
        have hK' := ih n (j + 1) (stp (hitsF H nr ap kb) i j s) (by omega) (by omega) (stp_ok (hitsF_le H nr ap hkb) hi (by omega) hs) hK
        unfold stp at hK'
        rw [← eh] at hK'
        have hs1 := hs.1
        by_cases hc : h ≤ s.1
        · rw [if_pos hc] at hK'
          rw [if_pos (nI_le hc (by omega))]
          intro z hz; rw [hz, nI_1]; exact hK'
        · rw [if_neg hc] at hK'
          rw [if_neg (nI_ge (by omega) (by omega))]
          intro u1 a1 u2 a2 z hz
          rw [hz, nI_1, a2, a1]
          have : sI (sI (tS u s) 7 (nI i)) 8 (nI j) = tS u (h, nI i, nI j) := sI_tw u 7 8 _ _ _ _
          rw [this]; exact hK'
      have z0 : ∀ q : ¬ (H i && H j && ap i j) = true, m_X9_draw_86 N k19 (fun x2 x3 x4 u => m_X9_draw_35 N k19 Q f x2 x3 x4 u) (nI s.1) (nI i) (nI j) (tS u s) Q := by
        intro q
        unfold m_X9_draw_86
        exact fin 0 (by unfold hitsF; rw [if_neg q])
      by_cases hHi : H i = true
      case neg => rw [if_pos (by rw [show H i = false by simpa using hHi]; rfl)]; exact z0 (by simp [hHi])
      rw [if_neg (by rw [hHi]; decide)]
      refine ⟨vp_in_nI (by omega) (by omega), ?_⟩
      by_cases hHj : H j = true
      case neg => rw [if_pos (by rw [show H j = false by simpa using hHj]; rfl)]; exact z0 (by simp [hHj])
      rw [if_neg (by rw [hHj]; decide)]
      have go : ap i j = true → m_X9_hitsAlong N (nI i) (nI j) (tS u s) (fun r_5 u_4 => m_X9_draw_87 N k19 (fun x2 x3 x4 u => m_X9_draw_35 N k19 Q f x2 x3 x4 u) (nI s.1) (nI i) (nI j) r_5 u_4 Q) := by
        intro ha
        refine hits_loop N _ (tS u s) kb i j H nr hkb hi (by omega) e2 h14 P hw (fun c => hn i j c) ?_ N 0 (by omega) (by omega)
        exact fin _ (by unfold hitsF; rw [if_pos (by rw [hHi, hHj, ha]; rfl)])
      unfold m_X9_areApart m_X9_areApart_42
      refine ⟨vp_in_nI (by omega) (by omega), vp_in_nI (by omega) (by omega), ?_⟩
      rw [cl_nI (by omega), cl_nI (by omega)]
      show if u.2.1 0 i = u.2.1 0 j then _ else _
      by_cases hx : u.2.1 0 i = u.2.1 0 j
      · rw [if_pos hx]
        refine ⟨vp_in_nI (by omega) (by omega), vp_in_nI (by omega) (by omega), ?_⟩
        show if u.2.1 1 i = u.2.1 1 j then _ else _
        by_cases hy : u.2.1 1 i = u.2.1 1 j
        · rw [if_pos hy]
          refine ⟨nb_0, ?_⟩
          show if (0 : Int32) = 0 then _ else _
          rw [if_pos rfl]
          refine z0 (fun q => ?_)
          simp only [Bool.and_eq_true] at q
          exact (hap i j).mp q.2 ⟨hx, hy⟩
        · rw [if_neg hy]
          refine ⟨nb_1, ?_⟩
          show if (1 : Int32) = 0 then _ else _
          rw [if_neg (by decide)]
          exact go ((hap i j).mpr (fun q => hy q.2))
      · rw [if_neg hx]
        refine ⟨nb_1, ?_⟩
        show if (1 : Int32) = 0 then _ else _
        rw [if_neg (by decide)]
        exact go ((hap i j).mpr (fun q => hx q.1))
theorem drawH_out (N : Nat) (hN : 4000 ≤ N) (Q : Int32 → UU → Prop) (u : UU) (kb : Nat) (H : Nat → Bool) (nr : Nat → Nat → Nat → Bool) (ap : Nat → Nat → Bool) (hkb : kb ≤ 30) (e2 : u.1 2 = nI kb) (h14 : ∀ c, c < kb → u.2.1 14 c = iB (H c)) (P : POK kb (u.2.1 0) (u.2.1 1)) (hw : sm (u.1 6) 20) (hn : ∀ i j c, nr i j c = true ↔ nearB (u.2.1 0) (u.2.1 1) (u.1 6) i j c) (hap : ∀ i j, ap i j = true ↔ ¬ (u.2.1 0 i = u.2.1 0 j ∧ u.2.1 1 i = u.2.1 1 j)) :
    ∀ (f n i : Nat) (s : Nat × Int32 × Int32), i + n = kb → n < f → TOK kb s → Q (nI (outG (hitsF H nr ap kb) kb n i s).1) (tS u (outG (hitsF H nr ap kb) kb n i s)) → m_X9_draw_19 N Q f (nI s.1) (nI i) (tS u s) := by
  intro f
  induction f with
  | zero => intro n i s h1 h2; omega
  | succ f ih =>
    intro n i s h1 h2 hs hK
    rw [m_X9_draw_19]
    have g2 : (tS u s).1 2 = nI kb := e2
    rw [g2]
    match n, h1, h2, hK with
    | 0, h1, h2, hK =>
      have : i = kb := by omega
      subst this
      rw [if_pos (nI_le (Nat.le_refl _) (by omega))]; exact hK
    | n + 1, h1, h2, hK =>
      rw [if_neg (nI_ge (by omega) (by omega))]
      intro z hz; rw [hz, nI_1]
      refine drawH_in N hN Q _ u kb i H nr ap hkb (by omega) e2 h14 P hw hn hap N (kb - (i + 1)) (i + 1) s (by omega) (by omega) hs ?_
      exact ih n (i + 1) _ (by omega) (by omega) (rowG_ok (hitsF_le H nr ap hkb) (by omega) _ _ _ (by omega) hs) hK
/-! the reference's track -/
theorem nI_p0 (k : Nat) : nI k + 0 = nI k := nI_add k 0
theorem isHit_ok (N : Nat) (Q : Int32 → UU → Prop) (u : UU) (c : Nat) (x : Int32) (b : Bool) (hc : c < 30) (hb : b = true ↔ (¬ u.2.1 16 c = 0 ∧ ¬ u.2.1 14 c < x)) (h : Q (iB b) u) : m_X12_isHit N (nI c) x u Q := by
  unfold m_X12_isHit
  refine ⟨vp_in_nI hc (by omega), ?_⟩
  rw [cl_nI (by omega)]
  by_cases a : u.2.1 16 c = 0
  · rw [if_pos a]
    have : b = false := by cases b; rfl; exact absurd a (hb.mp rfl).1
    subst this; exact ⟨nb_0, h⟩
  · rw [if_neg a]
    refine ⟨vp_in_nI hc (by omega), ?_⟩
    by_cases d : u.2.1 14 c < x
    · rw [if_pos d]
      have : b = false := by cases b; rfl; exact absurd d (hb.mp rfl).2
      subst this; exact ⟨nb_0, h⟩
    · rw [if_neg d]
      have : b = true := hb.mpr ⟨a, d⟩
      subst this; exact ⟨nb_1, h⟩
theorem hitsM (N : Nat) (Q : Int32 → UU → Prop) (k64 : Int32 → Int32 → Int32 → Int32 → UU → Prop) (k79 : Int32 → Int32 → Int32 → Int32 → Int32 → UU → Prop) (u : UU) (kb i j : Nat) (x1 x2 x4 : Int32) (H : Nat → Bool) (nr : Nat → Nat → Nat → Bool) (hkb : kb ≤ 30) (hi : i < kb) (hj : j < kb) (e2 : u.1 2 = nI kb) (hH : ∀ c, c < kb → (H c = true ↔ (¬ u.2.1 16 c = 0 ∧ ¬ u.2.1 14 c < x1))) (P : POK kb (u.2.1 0) (u.2.1 1)) (hw : sm x2 20) (hn : ∀ c, c < kb → (nr i j c = true ↔ nearB (u.2.1 0) (u.2.1 1) x2 i j c))
    (hQ : m_X12_track_209 N k64 k79 x1 x2 x4 (nI i) (nI j) (nI (cntR (fun c => (H c && nr i j c) = true) kb)) u Q) : ∀ (f c : Nat), c ≤ kb → kb < c + f → m_X12_track_155 N k64 k79 Q f x1 x2 x4 (nI i) (nI j) 1 (nI (cntR (fun c => (H c && nr i j c) = true) c)) (nI c) u
  | 0, c, h1, h2 => by omega
  | f + 1, c, h1, h2 => by
    rw [m_X12_track_155, e2]
    by_cases hc : c = kb
    · subst hc; rw [if_pos (nI_le (Nat.le_refl _) (by omega))]; exact hQ
    · rw [if_neg (nI_ge (by omega) (by omega)), if_neg (by decide)]
      have ih := hitsM N Q k64 k79 u kb i j x1 x2 x4 H nr hkb hi hj e2 hH P hw hn hQ f (c + 1) (by omega) (by omega)
      unfold cntR at ih
      refine isHit_ok N _ u c x1 (H c) (by omega) (hH c (by omega)) ?_
      simp only [m_X12_track_199, m_X12_track_200, forall_eq, nI_1, nI_p0]
      by_cases hHc : H c = true
      · rw [if_neg (by rw [hHc]; decide)]
        refine nearM_ok N _ u x2 kb i j c hkb hi hj (by omega) P hw (fun q => ?_) (fun q => ?_)
        · rw [if_neg (by decide)]
          rw [if_pos (by rw [hHc, (hn c (by omega)).mpr q]; rfl)] at ih; exact ih
        · rw [if_pos rfl]
          rw [if_neg (by rw [hHc]; intro z; exact q ((hn c (by omega)).mp (by simpa using z))), Nat.add_zero] at ih; exact ih
      · rw [if_pos (by rw [show H c = false by simpa using hHc]; rfl)]
        rw [if_neg (by simp [hHc]), Nat.add_zero] at ih; exact ih
theorem trackM_in (N : Nat) (hN : 4000 ≤ N) (Q : Int32 → UU → Prop) (k64 : Int32 → Int32 → Int32 → Int32 → UU → Prop) (u : UU) (kb i : Nat) (x1 x2 : Int32) (H : Nat → Bool) (nr : Nat → Nat → Nat → Bool) (ap : Nat → Nat → Bool) (hkb : kb ≤ 30) (hi : i < kb) (e2 : u.1 2 = nI kb) (hH : ∀ c, c < kb → (H c = true ↔ (¬ u.2.1 16 c = 0 ∧ ¬ u.2.1 14 c < x1))) (P : POK kb (u.2.1 0) (u.2.1 1)) (hw : sm x2 20) (hn : ∀ i j c, i < kb → j < kb → c < kb → (nr i j c = true ↔ nearB (u.2.1 0) (u.2.1 1) x2 i j c)) (hap : ∀ i j, i < kb → j < kb → (ap i j = true ↔ ¬ (u.2.1 0 i = u.2.1 0 j ∧ u.2.1 1 i = u.2.1 1 j))) :
    ∀ (f n j : Nat) (s : Nat × Int32 × Int32), j + n = kb → n < f → TOK kb s → k64 x1 x2 (nI (rowG (hitsF H nr ap kb) i n j s).1) (nI (i + 1)) (tM u (rowG (hitsF H nr ap kb) i n j s)) → m_X12_track_79 N k64 Q f x1 x2 (nI s.1) (nI i) (nI j) (tM u s) := by
  intro f
  induction f with
  | zero => intro n j s h1 h2; omega
  | succ f ih =>
    intro n j s h1 h2 hs hK
    rw [m_X12_track_79]
    have g2 : (tM u s).1 2 = nI kb := e2
    rw [g2]
    match n, h1, h2, hK with
    | 0, h1, h2, hK =>
      have : j = kb := by omega
      subst this
      rw [if_pos (nI_le (Nat.le_refl _) (by omega))]
      intro z hz; rw [hz, nI_1]; exact hK
    | n + 1, h1, h2, hK =>
      rw [if_neg (nI_ge (by omega) (by omega))]
      have fin : ∀ h, h = hitsF H nr ap kb i j → m_X12_track_209 N k64 (fun x1 x2 x4 x5 x6 u => m_X12_track_79 N k64 Q f x1 x2 x4 x5 x6 u) x1 x2 (nI s.1) (nI i) (nI j) (nI h) (tM u s) Q := by
        intro h eh
        unfold m_X12_track_209 m_X12_track_232
        have hle := hitsF_le H nr ap hkb i j
        rw [← eh] at hle
        have hK' := ih n (j + 1) (stp (hitsF H nr ap kb) i j s) (by omega) (by omega) (stp_ok (hitsF_le H nr ap hkb) hi (by omega) hs) hK
        unfold stp at hK'
        rw [← eh] at hK'
        have hs1 := hs.1
        by_cases hc : h ≤ s.1
        · rw [if_pos hc] at hK'
          rw [if_pos (nI_le hc (by omega))]
          intro z hz; rw [hz, nI_1]; exact hK'
        · rw [if_neg hc] at hK'
          rw [if_neg (nI_ge (by omega) (by omega))]
          intro u1 a1 u2 a2 z hz
          rw [hz, nI_1, a2, a1]
          have : sI (sI (tM u s) 5 (nI i)) 6 (nI j) = tM u (h, nI i, nI j) := sI_tw u 5 6 _ _ _ _
          rw [this]; exact hK'
      have z0 : ∀ q : ¬ (H i && H j && ap i j) = true, m_X12_track_146 N k64 (fun x1 x2 x4 x5 x6 u => m_X12_track_79 N k64 Q f x1 x2 x4 x5 x6 u) x1 x2 (nI s.1) (nI i) (nI j) (tM u s) Q := by
        intro q
        unfold m_X12_track_146 m_X12_track_147
        have := fin 0 (by unfold hitsF; rw [if_neg q])
        obtain ⟨m, hm⟩ : ∃ m, N = m + 1 := ⟨N - 1, by omega⟩
        rw [show m_X12_track_155 N k64 (fun x1 x2 x4 x5 x6 u => m_X12_track_79 N k64 Q f x1 x2 x4 x5 x6 u) Q N = m_X12_track_155 N k64 (fun x1 x2 x4 x5 x6 u => m_X12_track_79 N k64 Q f x1 x2 x4 x5 x6 u) Q (m + 1) by rw [← hm], m_X12_track_155]
        by_cases hz : (tM u s).1 2 ≤ 0
        · rw [if_pos hz]; exact this
        · rw [if_neg hz, if_pos rfl]; exact this
      refine isHit_ok N _ (tM u s) i x1 (H i) (by omega) (hH i hi) ?_
      by_cases hHi : H i = true
      case neg => rw [if_pos (by rw [show H i = false by simpa using hHi]; rfl)]; exact z0 (by simp [hHi])
      rw [if_neg (by rw [hHi]; decide)]
      refine isHit_ok N _ (tM u s) j x1 (H j) (by omega) (hH j (by omega)) ?_
      by_cases hHj : H j = true
      case neg => rw [if_pos (by rw [show H j = false by simpa using hHj]; rfl)]; exact z0 (by simp [hHj])
      rw [if_neg (by rw [hHj]; decide)]
      have go : ap i j = true → m_X12_track_142 N k64 (fun x1 x2 x4 x5 x6 u => m_X12_track_79 N k64 Q f x1 x2 x4 x5 x6 u) x1 x2 (nI s.1) (nI i) (nI j) (tM u s) Q := by
        intro ha
        unfold m_X12_track_142 m_X12_track_147
        refine hitsM N Q _ _ (tM u s) kb i j x1 x2 _ H nr hkb hi (by omega) e2 hH P hw (fun c hc => hn i j c hi (by omega) hc) ?_ N 0 (by omega) (by omega)
        exact fin _ (by unfold hitsF; rw [if_pos (by rw [hHi, hHj, ha]; rfl)])
      refine ⟨vp_in_nI (by omega) (by omega), vp_in_nI (by omega) (by omega), ?_⟩
      rw [cl_nI (by omega), cl_nI (by omega)]
      show if u.2.1 0 i = u.2.1 0 j then _ else _
      by_cases hx : u.2.1 0 i = u.2.1 0 j
      · rw [if_pos hx]
        refine ⟨vp_in_nI (by omega) (by omega), vp_in_nI (by omega) (by omega), ?_⟩
        show if u.2.1 1 i = u.2.1 1 j then _ else _
        by_cases hy : u.2.1 1 i = u.2.1 1 j
        · rw [if_pos hy]
          refine z0 (fun q => ?_)
          simp only [Bool.and_eq_true] at q
          exact (hap i j hi (by omega)).mp q.2 ⟨hx, hy⟩
        · rw [if_neg hy]
          exact go ((hap i j hi (by omega)).mpr (fun q => hy q.2))
      · rw [if_neg hx]
        exact go ((hap i j hi (by omega)).mpr (fun q => hx q.1))
theorem trackM_out (N : Nat) (hN : 4000 ≤ N) (Q : Int32 → UU → Prop) (u : UU) (kb : Nat) (x1 x2 : Int32) (H : Nat → Bool) (nr : Nat → Nat → Nat → Bool) (ap : Nat → Nat → Bool) (hkb : kb ≤ 30) (e2 : u.1 2 = nI kb) (hH : ∀ c, c < kb → (H c = true ↔ (¬ u.2.1 16 c = 0 ∧ ¬ u.2.1 14 c < x1))) (P : POK kb (u.2.1 0) (u.2.1 1)) (hw : sm x2 20) (hn : ∀ i j c, i < kb → j < kb → c < kb → (nr i j c = true ↔ nearB (u.2.1 0) (u.2.1 1) x2 i j c)) (hap : ∀ i j, i < kb → j < kb → (ap i j = true ↔ ¬ (u.2.1 0 i = u.2.1 0 j ∧ u.2.1 1 i = u.2.1 1 j))) :
    ∀ (f n i : Nat) (s : Nat × Int32 × Int32), i + n = kb → n < f → TOK kb s → Q (nI (outG (hitsF H nr ap kb) kb n i s).1) (tM u (outG (hitsF H nr ap kb) kb n i s)) → m_X12_track_64 N Q f x1 x2 (nI s.1) (nI i) (tM u s) := by
  intro f
  induction f with
  | zero => intro n i s h1 h2; omega
  | succ f ih =>
    intro n i s h1 h2 hs hK
    rw [m_X12_track_64]
    have g2 : (tM u s).1 2 = nI kb := e2
    rw [g2]
    match n, h1, h2, hK with
    | 0, h1, h2, hK =>
      have : i = kb := by omega
      subst this
      rw [if_pos (nI_le (Nat.le_refl _) (by omega))]; exact hK
    | n + 1, h1, h2, hK =>
      rw [if_neg (nI_ge (by omega) (by omega))]
      intro z hz; rw [hz, nI_1]
      refine trackM_in N hN Q _ u kb i x1 x2 H nr ap hkb (by omega) e2 hH P hw hn hap N (kb - (i + 1)) (i + 1) s (by omega) (by omega) hs ?_
      exact ih n (i + 1) _ (by omega) (by omega) (rowG_ok (hitsF_le H nr ap hkb) (by omega) _ _ _ (by omega) hs) hK
