/-! THE CLAIM OUT OF ONE WALK OF THE LAW'S BODY. Your part is whole_start (and what it stands on); all else here is the same for every law, but numbers. -/
def R_law : String := "HailPadsLaw"
def lw_P (b : Addr) (xs : List Int32) (args : Array Value) (s : State) : Prop := args = #[.ref b] ∧ s.IntsAt b xs ∧ xs.length ≤ 3072 ∧ (Jvm.Cond.and given_1 narrow_1).before args s = true
def lw_Q (_ : Array Value) (s : State) (o : Outcome) (t : State) : Prop := o = .returned (some (.int 1)) ∧ Framed s o t [] 73 10636
def lw_Z (below : List Frame) (a : Array Value) (s : State) : State → Prop := fun t => ∃ o, t.status = .running ∧ Ended t below o ∧ lw_Q a s o t
/-- the law's own end, with 1 on the stack, nothing written that was there before, its room as the claim has it -/
theorem lw_ret {p : Program} {l : Launch} {e : Env} {s : State} {m : MethodId} {below : List Frame} {meth : Method} {c : Code} {b : Nat} (hx : p.tables.exec = Jvm.exec) (hb : c.code = code) (hr : meth.sig.returnType = ret) (hlocks : meth.locks = false) {pc : Nat} {H : Heap} {ls : Array Slot} (hdg : decode code pc = .ok (.ireturn, 1)) : W p l e room_1 s m #[Value.ref b] below meth c H [] 73 10636 (lw_Z below #[Value.ref b] s) (F0 m pc ls [.int 1]) := by
  intro T hT X
  obtain ⟨fs, hret, hrun, hended, hW, hframe⟩ := X.leave (v := some (.int 1)) (hlocks := hlocks) (fun h => by rw [hr] at h; cases h)
  have hmeth' : T.vm.method? m = some meth := X.method'
  refine ⟨T.setFrames fs, ?_, .returned (some (.int 1)), hrun, hended, rfl, ⟨_, rfl⟩, hW, hframe⟩
  jvm_step X.here [X.here.top, hx, hb, hdg, hmeth', hr, ret, narrow_b1]
  (try refine ⟨rfl, ?_⟩); (try refine ⟨rfl, ?_⟩)
  first | (intro acts; rw [hret _ acts rfl rfl rfl]) | rw [hret _ _ rfl rfl rfl]
  exact Steps.refl _
/-- what holds at the law's entry: the machine, the code, the tables' words (any of lw_tbl by 'hts w (by decide +kernel)'), the script of L ints xs at the cell b, what the Statement gives of the start (any of its parts by flat_of_before) -/
def lw_At (p : Program) (s : State) (m : MethodId) (meth : Method) (c : Code) (b L : Nat) (xs : Nat → Int32) : Prop :=
  p.tables.exec = Jvm.exec ∧ c.code = code ∧ meth.sig.returnType = ret ∧ c.maxLocals = 4 ∧ s.vm.findClass R_law = some m.cls ∧ (∀ w ∈ lw_tbl, w.before #[Value.ref b] s = true) ∧ va_X b L xs s s.heap ∧ b < s.heap.size ∧ meth.locks = false ∧ (Jvm.Cond.and given_1 narrow_1).before #[Value.ref b] s = true
/-- what the mathematics owes: on states that Rel relates, each call of the class and of the reference, as mirrored, comes back with one answer and related states -/
def Match (N : Nat) (Rel : UU → UU → Prop) : Prop :=
  (∀ (u v : UU) (x1 x2 : Int32), Rel u v → m_X11_board N x1 x2 u (fun r u1 => m_X12_board N x1 x2 v (fun r2 v1 => r = r2 ∧ Rel u1 v1))) ∧
  (∀ (u v : UU) (x1 x2 x3 x4 x5 : Int32), Rel u v → m_X11_dent N x1 x2 x3 x4 x5 u (fun r u1 => m_X12_dent N x1 x2 x3 x4 x5 v (fun r2 v1 => r = r2 ∧ Rel u1 v1))) ∧
  (∀ (u v : UU) (x1 x2 : Int32), Rel u v → m_X11_clear N x1 x2 u (fun r u1 => m_X12_clear N x1 x2 v (fun r2 v1 => r = r2 ∧ Rel u1 v1))) ∧
  (∀ (u v : UU) (x1 x2 x3 : Int32), Rel u v → m_X11_table N x1 x2 x3 u (fun r u1 => m_X12_table N x1 x2 x3 v (fun r2 v1 => r = r2 ∧ Rel u1 v1))) ∧
  (∀ (u v : UU) (x1 x2 x3 x4 : Int32), Rel u v → m_X11_of N x1 x2 x3 x4 u (fun r u1 => m_X12_of N x1 x2 x3 x4 v (fun r2 v1 => r = r2 ∧ Rel u1 v1))) ∧
  (∀ (u v : UU) (x1 x2 : Int32), Rel u v → m_X11_leaning N x1 x2 u (fun r u1 => m_X12_leaning N x1 x2 v (fun r2 v1 => r = r2 ∧ Rel u1 v1))) ∧
  (∀ (u v : UU) (x1 x2 x3 : Int32), Rel u v → m_X11_seen N x1 x2 x3 u (fun r u1 => m_X12_seen N x1 x2 x3 v (fun r2 v1 => r = r2 ∧ Rel u1 v1))) ∧
  (∀ (u v : UU) (x1 x2 x3 : Int32), Rel u v → m_X11_track N x1 x2 x3 u (fun r u1 => m_X12_track N x1 x2 x3 v (fun r2 v1 => r = r2 ∧ Rel u1 v1))) ∧
  (∀ (u v : UU) (x1 : Int32), Rel u v → m_X11_through N x1 u (fun r u1 => m_X12_through N x1 v (fun r2 v1 => r = r2 ∧ Rel u1 v1))) ∧
  (∀ (u v : UU) (x1 : Int32), Rel u v → m_X11_within N x1 u (fun r u1 => m_X12_within N x1 v (fun r2 v1 => r = r2 ∧ Rel u1 v1))) ∧
  (∀ (u v : UU) (x1 x2 x3 x4 : Int32), Rel u v → m_X11_map N x1 x2 x3 x4 u (fun r u1 => m_X12_map N x1 x2 x3 x4 v (fun r2 v1 => r = r2 ∧ Rel u1 v1))) ∧
  (∀ (u v : UU) (x1 x2 x3 : Int32), Rel u v → m_X11_radar N x1 x2 x3 u (fun r u1 => m_X12_radar N x1 x2 x3 v (fun r2 v1 => r = r2 ∧ Rel u1 v1))) ∧
  (∀ (u v : UU) (x1 x2 x3 : Int32), Rel u v → m_X11_off N x1 x2 x3 u (fun r u1 => m_X12_off N x1 x2 x3 v (fun r2 v1 => r = r2 ∧ Rel u1 v1))) ∧
  (∀ (u v : UU) (x1 x2 x3 x4 x5 : Int32), Rel u v → m_X11_feed N x1 x2 x3 x4 x5 u (fun r u1 => m_X12_feed N x1 x2 x3 x4 x5 v (fun r2 v1 => r = r2 ∧ Rel u1 v1))) ∧
  (∀ (u v : UU) (x1 : Int32), Rel u v → m_X11_end N x1 u (fun r u1 => m_X12_end N x1 v (fun r2 v1 => r = r2 ∧ Rel u1 v1))) ∧
  (∀ (u v : UU), Rel u v → m_X11_rules N  u (fun r _ u1 => m_X12_rules N  v (fun r2 v1 => r = r2 ∧ Rel u1 v1))) ∧
  (∀ (u v : UU), Rel u v → m_X11_fault N  u (fun r u1 => m_X12_fault N  v (fun r2 v1 => r = r2 ∧ Rel u1 v1))) ∧
  (∀ (u v : UU) (x1 x2 x3 x4 : Int32), Rel u v → m_X11_claim N x1 x2 x3 x4 u (fun r u1 => m_X12_claim N x1 x2 x3 x4 v (fun r2 v1 => r = r2 ∧ Rel u1 v1))) ∧
  (∀ (u v : UU) (x1 x2 : Int32), Rel u v → m_X11_judged N x1 x2 u (fun r u1 => m_X12_judged N x1 x2 v (fun r2 v1 => r = r2 ∧ Rel u1 v1))) ∧
  (∀ (u v : UU) (x1 x2 : Int32), Rel u v → m_X11_quarrel N x1 x2 u (fun r u1 => m_X12_quarrel N x1 x2 v (fun r2 v1 => r = r2 ∧ Rel u1 v1))) ∧
  (∀ (u v : UU) (x1 : Int32), Rel u v → m_X11_count N x1 u (fun r u1 => m_X12_count N x1 v (fun r2 v1 => r = r2 ∧ Rel u1 v1))) ∧
  (∀ (u v : UU), Rel u v → m_X11_status N  u (fun r u1 => m_X12_status N  v (fun r2 v1 => r = r2 ∧ Rel u1 v1)))
theorem ww_sld {p : Program} {l : Launch} {e : Env} {s : State} {m : MethodId} {below : List Frame} {meth : Method} {c : Code} {D : va_G} {cI cZ : ClassId} {kK kV : Nat → Nat} {b L : Nat} {xs : Nat → Int32} (C : Cx p m c cL_law 4 s #[Value.ref b] RL meth ret (fun q => s.heap.size ≤ q) D [(cI, .int), (cZ, .boolean)] (EH kK kV)) (hX : va_X b L xs s s.heap) (hbl : b < s.heap.size) {pc : Nat} {lv : List (Nat × Value)} {st : List Value} {ws : va_W} {i : Int32} (hin : vp_in i L) (hdg : decode cL_law pc = .ok (.iaload, 1)) (k : WW p l e room_1 s m #[Value.ref b] below meth c 73 10636 (lw_Z below #[Value.ref b] s) (fun q => s.heap.size ≤ q) D 4 (pc + 1) lv (.int (xs i.toNatClampNeg) :: st) (ws)) : WW p l e room_1 s m #[Value.ref b] below meth c 73 10636 (lw_Z below #[Value.ref b] s) (fun q => s.heap.size ≤ q) D 4 pc lv (.int i :: .ref b :: st) (ws) :=
  fun H locs ls hl hP hD hS => va_sld C.1.1 C.1.2.1 hX hbl (Nat.not_le.mpr hbl) hS hin hdg (k H locs ls hl hP hD hS)
theorem ww_slenL {p : Program} {l : Launch} {e : Env} {s : State} {m : MethodId} {below : List Frame} {meth : Method} {c : Code} {D : va_G} {cI cZ : ClassId} {kK kV : Nat → Nat} {b L : Nat} {xs : Nat → Int32} (C : Cx p m c cL_law 4 s #[Value.ref b] RL meth ret (fun q => s.heap.size ≤ q) D [(cI, .int), (cZ, .boolean)] (EH kK kV)) (hX : va_X b L xs s s.heap) (hbl : b < s.heap.size) {pc : Nat} {lv : List (Nat × Value)} {st : List Value} {ws : va_W} (hdg : decode cL_law pc = .ok (.arraylength, 1)) (k : WW p l e room_1 s m #[Value.ref b] below meth c 73 10636 (lw_Z below #[Value.ref b] s) (fun q => s.heap.size ≤ q) D 4 (pc + 1) lv (.int (Int32.ofNat L) :: st) (ws)) : WW p l e room_1 s m #[Value.ref b] below meth c 73 10636 (lw_Z below #[Value.ref b] s) (fun q => s.heap.size ≤ q) D 4 pc lv (.ref b :: st) (ws) :=
  fun H locs ls hl hP hD hS => va_slen C.1.1 C.1.2.1 hX hbl (Nat.not_le.mpr hbl) hS hdg (k H locs ls hl hP hD hS)
theorem ww_lret {p : Program} {l : Launch} {e : Env} {s : State} {m : MethodId} {below : List Frame} {meth : Method} {c : Code} {D : va_G} {cI cZ : ClassId} {kK kV : Nat → Nat} {b : Nat} (C : Cx p m c cL_law 4 s #[Value.ref b] RL meth ret (fun q => s.heap.size ≤ q) D [(cI, .int), (cZ, .boolean)] (EH kK kV)) {pc : Nat} {lv : List (Nat × Value)} {ws : va_W} (hdg : decode cL_law pc = .ok (.ireturn, 1)) : WW p l e room_1 s m #[Value.ref b] below meth c 73 10636 (lw_Z below #[Value.ref b] s) (fun q => s.heap.size ≤ q) D 4 pc lv [.int 1] (ws) :=
  fun H locs ls hl hP hD hS => va_forget (fun q hq => hS.2.2 q hq) (lw_ret C.1.1 C.1.2.1 C.2.1 C.2.2.1 hdg)
theorem law_in {i L : Nat} (hL : L ≤ 3072) (hi : i ≤ L + 6) (h : ¬ Int32.ofNat L - 6 < nI i) : i + 6 ≤ L := by
  rcases Nat.lt_or_ge L (i + 6) with q | q
  · refine absurd (Int32.lt_iff_toInt_lt.mpr ?_) h
    have h1 : (Int32.ofNat L - 6).toInt = (L : Int) - 6 := pk_sub_toInt (a := L) (b := 6) (by omega) (by omega)
    rw [h1, nI_toInt (by omega)]
    omega
  · exact q
theorem law_ix {i L : Nat} (hL : L ≤ 3072) (h : i + 6 ≤ L) (k : Nat) (hk : k < 6) : vp_in (nI i + nI k) L := by
  rw [nI_add]; exact vp_in_nI (by omega) (by omega)
set_option maxRecDepth 100000 in
set_option maxHeartbeats 4000000 in
/-- THE LAW'S LOOP -/
theorem law_loop {p : Program} {l : Launch} {e : Env} {s : State} {m : MethodId} {below : List Frame} {meth : Method} {c : Code} {D : va_G} {cI cZ : ClassId} {kK kV : Nat → Nat} {b L : Nat} {xs : Nat → Int32} {N : Nat} {Rel : UU → UU → Prop} (hL : L ≤ 3072) (hM : Match N Rel) (C : Cx p m c cL_law 4 s #[Value.ref b] RL meth ret (fun q => s.heap.size ≤ q) D [(cI, .int), (cZ, .boolean)] (EH kK kV)) (hX : va_X b L xs s s.heap) (hbl : b < s.heap.size) :
    ∀ (n i : Nat), i ≤ L + 6 → L + 6 ≤ i + n → ∀ (ad ad2 : Nat → Nat) (u v : UU), Rel u v → WW p l e room_1 s m #[Value.ref b] below meth c 73 10636 (lw_Z below #[Value.ref b] s) (fun q => s.heap.size ≤ q) D 4 18 [(3, .int (nI i)), (2, .ref (ad2 0)), (1, .ref (ad 0)), (0, .ref b)] [] (wH ad cI cZ u ++ wM ad2 cI cZ v) := by
  intro n
  induction n with
  | zero =>
    intro i hi hn ad ad2 u v hR
    refine ww_iload_n C dL_law_18 rfl 0 rfl ?_
    refine ww_aload_n C dL_law_19 rfl 3 rfl ?_
    refine ww_slenL C hX hbl dL_law_20 ?_
    refine ww_bipush (v := 6) C dL_law_21 (by decide) ?_
    refine ww_isub C dL_law_23 ?_
    refine ww_icmp_gt (tgt := 938) C dL_law_24 (by decide) (fun _ => ?_) (fun hc => ?_)
    · refine ww_iconst (v := 1) C dL_law_938 (by decide) ?_
      exact ww_lret C dL_law_939
    · exact absurd (law_in hL hi hc) (by omega)
  | succ n ih =>
    intro i hi hn ad ad2 u v hR
    refine ww_iload_n C dL_law_18 rfl 0 rfl ?_
    refine ww_aload_n C dL_law_19 rfl 3 rfl ?_
    refine ww_slenL C hX hbl dL_law_20 ?_
    refine ww_bipush (v := 6) C dL_law_21 (by decide) ?_
    refine ww_isub C dL_law_23 ?_
    refine ww_icmp_gt (tgt := 938) C dL_law_24 (by decide) (fun _ => ?_) (fun hc => ?_)
    · refine ww_iconst (v := 1) C dL_law_938 (by decide) ?_
      exact ww_lret C dL_law_939
    · have hlt := law_in hL hi hc
      have hin0 : vp_in (nI i) L := vp_in_nI (by omega) (by omega)
      have hin1 : vp_in (nI i + 1) L := law_ix hL hlt 1 (by omega)
      have hin2 : vp_in (nI i + 2) L := law_ix hL hlt 2 (by omega)
      have hin3 : vp_in (nI i + 3) L := law_ix hL hlt 3 (by omega)
      have hin4 : vp_in (nI i + 4) L := law_ix hL hlt 4 (by omega)
      have hin5 : vp_in (nI i + 5) L := law_ix hL hlt 5 (by omega)
      have back : ∀ (ad ad2 : Nat → Nat) (u v : UU), Rel u v → WW p l e room_1 s m #[Value.ref b] below meth c 73 10636 (lw_Z below #[Value.ref b] s) (fun q => s.heap.size ≤ q) D 4 932 [(3, .int (nI i)), (2, .ref (ad2 0)), (1, .ref (ad 0)), (0, .ref b)] [] (wH ad cI cZ u ++ wM ad2 cI cZ v) := by
        intro ad ad2 u v hR
        refine ww_iinc (i := 3) (j := 0) (v := nI (i + 6)) (lv' := [(3, .int (nI (i + 6))), (2, .ref (ad2 0)), (1, .ref (ad 0)), (0, .ref b)]) C dL_law_932 rfl (by rw [← nI_add]; rfl) (by decide) rfl ?_
        refine ww_goto (tgt := 18) C dL_law_935 (by decide) ?_
        exact ih (i + 6) (by omega) (by omega) ad ad2 u v hR
      refine ww_aload_n C dL_law_27 rfl 3 rfl ?_
      refine ww_iload_n C dL_law_28 rfl 0 rfl ?_
      refine ww_sld C hX hbl hin0 dL_law_29 ?_
      refine ww_bipush (v := 31) C dL_law_30 (by decide) ?_
      refine ww_iand C dL_law_32 ?_
      generalize hsel : xs (nI i).toNatClampNeg &&& 31 = sel
      by_cases hs0 : sel = 0
      · refine ww_tableIn (off := 103) (tgt := 136) C dL_law_33 (by rw [hs0]; decide) (by rw [hs0]; decide) (by rw [hs0]; rfl) (by decide) ?_
        refine ww_aload_n C dL_law_136 rfl 2 rfl ?_
        refine ww_aload_n C dL_law_137 rfl 3 rfl ?_
        refine ww_iload_n C dL_law_138 rfl 0 rfl ?_
        refine ww_iconst (v := 1) C dL_law_139 (by decide) ?_
        refine ww_iadd C dL_law_140 ?_
        refine ww_sld C hX hbl hin1 dL_law_141 ?_
        refine ww_aload_n C dL_law_142 rfl 3 rfl ?_
        refine ww_iload_n C dL_law_143 rfl 0 rfl ?_
        refine ww_iconst (v := 2) C dL_law_144 (by decide) ?_
        refine ww_iadd C dL_law_145 ?_
        refine ww_sld C hX hbl hin2 dL_law_146 ?_
        refine ww_swap ?_
        refine ww_callFR (As := [.int (xs (nI i + 1).toNatClampNeg), .int (xs (nI i + 2).toNatClampNeg)]) (rest := []) (wr := wM ad2 cI cZ v) (wc := wH ad cI cZ u) C (Along.of EH_ok C.2.2.2.2.1) (c_X11_board (hM.1 u v _ _ hR)) tb_2_92 tb_2_93 tb_2_94 tb_1_1 tb_2_95 rfl rfl ⟨rfl, hd_X11_board⟩ ⟨Nat.le_of_ble_eq_true rfl, Nat.le_of_ble_eq_true rfl⟩ rfl HF_0_0 rfl rfl rfl (Nat.le_of_ble_eq_true rfl) dL_law_147 ⟨Nat.le_of_ble_eq_true rfl, Nat.le_of_ble_eq_true rfl⟩ (fun r u1 h => ?_)
        refine ww_swap ?_
        refine ww_aload_n C dL_law_150 rfl 1 rfl ?_
        refine ww_aload_n C dL_law_151 rfl 3 rfl ?_
        refine ww_iload_n C dL_law_152 rfl 0 rfl ?_
        refine ww_iconst (v := 1) C dL_law_153 (by decide) ?_
        refine ww_iadd C dL_law_154 ?_
        refine ww_sld C hX hbl hin1 dL_law_155 ?_
        refine ww_aload_n C dL_law_156 rfl 3 rfl ?_
        refine ww_iload_n C dL_law_157 rfl 0 rfl ?_
        refine ww_iconst (v := 2) C dL_law_158 (by decide) ?_
        refine ww_iadd C dL_law_159 ?_
        refine ww_sld C hX hbl hin2 dL_law_160 ?_
        refine ww_callFR (As := [.int (xs (nI i + 1).toNatClampNeg), .int (xs (nI i + 2).toNatClampNeg)]) (rest := [.int r]) (wr := wH ad cI cZ u1) (wc := wM ad2 cI cZ v) C (Along.of EM_ok trivial) (c_X12_board h) tb_4_184 tb_4_185 tb_4_186 tb_1_13 tb_4_187 rfl rfl ⟨rfl, hd_X12_board⟩ ⟨Nat.le_of_ble_eq_true rfl, Nat.le_of_ble_eq_true rfl⟩ rfl MF_0_0 rfl rfl rfl (Nat.le_of_ble_eq_true rfl) dL_law_161 ⟨Nat.le_of_ble_eq_true rfl, Nat.le_of_ble_eq_true rfl⟩ (fun r2 v1 h => ?_)
        refine ww_icmp_eq (tgt := 932) C dL_law_164 (by decide) (fun _ => ?_) (fun hc => absurd h.1 hc)
        exact back ad ad2 u1 v1 h.2
      by_cases hs1 : sel = 1
      · refine ww_tableIn (off := 136) (tgt := 169) C dL_law_33 (by rw [hs1]; decide) (by rw [hs1]; decide) (by rw [hs1]; rfl) (by decide) ?_
        refine ww_aload_n C dL_law_169 rfl 2 rfl ?_
        refine ww_aload_n C dL_law_170 rfl 3 rfl ?_
        refine ww_iload_n C dL_law_171 rfl 0 rfl ?_
        refine ww_iconst (v := 1) C dL_law_172 (by decide) ?_
        refine ww_iadd C dL_law_173 ?_
        refine ww_sld C hX hbl hin1 dL_law_174 ?_
        refine ww_aload_n C dL_law_175 rfl 3 rfl ?_
        refine ww_iload_n C dL_law_176 rfl 0 rfl ?_
        refine ww_iconst (v := 2) C dL_law_177 (by decide) ?_
        refine ww_iadd C dL_law_178 ?_
        refine ww_sld C hX hbl hin2 dL_law_179 ?_
        refine ww_aload_n C dL_law_180 rfl 3 rfl ?_
        refine ww_iload_n C dL_law_181 rfl 0 rfl ?_
        refine ww_iconst (v := 3) C dL_law_182 (by decide) ?_
        refine ww_iadd C dL_law_183 ?_
        refine ww_sld C hX hbl hin3 dL_law_184 ?_
        refine ww_aload_n C dL_law_185 rfl 3 rfl ?_
        refine ww_iload_n C dL_law_186 rfl 0 rfl ?_
        refine ww_iconst (v := 4) C dL_law_187 (by decide) ?_
        refine ww_iadd C dL_law_188 ?_
        refine ww_sld C hX hbl hin4 dL_law_189 ?_
        refine ww_aload_n C dL_law_190 rfl 3 rfl ?_
        refine ww_iload_n C dL_law_191 rfl 0 rfl ?_
        refine ww_iconst (v := 5) C dL_law_192 (by decide) ?_
        refine ww_iadd C dL_law_193 ?_
        refine ww_sld C hX hbl hin5 dL_law_194 ?_
        refine ww_swap ?_
        refine ww_callFR (As := [.int (xs (nI i + 1).toNatClampNeg), .int (xs (nI i + 2).toNatClampNeg), .int (xs (nI i + 3).toNatClampNeg), .int (xs (nI i + 4).toNatClampNeg), .int (xs (nI i + 5).toNatClampNeg)]) (rest := []) (wr := wM ad2 cI cZ v) (wc := wH ad cI cZ u) C (Along.of EH_ok C.2.2.2.2.1) (c_X11_dent (hM.2.1 u v _ _ _ _ _ hR)) tb_2_114 tb_2_115 tb_2_116 tb_1_1 tb_2_117 rfl rfl ⟨rfl, hd_X11_dent⟩ ⟨Nat.le_of_ble_eq_true rfl, Nat.le_of_ble_eq_true rfl⟩ rfl HF_0_0 rfl rfl rfl (Nat.le_of_ble_eq_true rfl) dL_law_195 ⟨Nat.le_of_ble_eq_true rfl, Nat.le_of_ble_eq_true rfl⟩ (fun r u1 h => ?_)
        refine ww_swap ?_
        refine ww_aload_n C dL_law_198 rfl 1 rfl ?_
        refine ww_aload_n C dL_law_199 rfl 3 rfl ?_
        refine ww_iload_n C dL_law_200 rfl 0 rfl ?_
        refine ww_iconst (v := 1) C dL_law_201 (by decide) ?_
        refine ww_iadd C dL_law_202 ?_
        refine ww_sld C hX hbl hin1 dL_law_203 ?_
        refine ww_aload_n C dL_law_204 rfl 3 rfl ?_
        refine ww_iload_n C dL_law_205 rfl 0 rfl ?_
        refine ww_iconst (v := 2) C dL_law_206 (by decide) ?_
        refine ww_iadd C dL_law_207 ?_
        refine ww_sld C hX hbl hin2 dL_law_208 ?_
        refine ww_aload_n C dL_law_209 rfl 3 rfl ?_
        refine ww_iload_n C dL_law_210 rfl 0 rfl ?_
        refine ww_iconst (v := 3) C dL_law_211 (by decide) ?_
        refine ww_iadd C dL_law_212 ?_
        refine ww_sld C hX hbl hin3 dL_law_213 ?_
        refine ww_aload_n C dL_law_214 rfl 3 rfl ?_
        refine ww_iload_n C dL_law_215 rfl 0 rfl ?_
        refine ww_iconst (v := 4) C dL_law_216 (by decide) ?_
        refine ww_iadd C dL_law_217 ?_
        refine ww_sld C hX hbl hin4 dL_law_218 ?_
        refine ww_aload_n C dL_law_219 rfl 3 rfl ?_
        refine ww_iload_n C dL_law_220 rfl 0 rfl ?_
        refine ww_iconst (v := 5) C dL_law_221 (by decide) ?_
        refine ww_iadd C dL_law_222 ?_
        refine ww_sld C hX hbl hin5 dL_law_223 ?_
        refine ww_callFR (As := [.int (xs (nI i + 1).toNatClampNeg), .int (xs (nI i + 2).toNatClampNeg), .int (xs (nI i + 3).toNatClampNeg), .int (xs (nI i + 4).toNatClampNeg), .int (xs (nI i + 5).toNatClampNeg)]) (rest := [.int r]) (wr := wH ad cI cZ u1) (wc := wM ad2 cI cZ v) C (Along.of EM_ok trivial) (c_X12_dent h) tb_4_199 tb_4_200 tb_4_201 tb_1_13 tb_4_202 rfl rfl ⟨rfl, hd_X12_dent⟩ ⟨Nat.le_of_ble_eq_true rfl, Nat.le_of_ble_eq_true rfl⟩ rfl MF_0_0 rfl rfl rfl (Nat.le_of_ble_eq_true rfl) dL_law_224 ⟨Nat.le_of_ble_eq_true rfl, Nat.le_of_ble_eq_true rfl⟩ (fun r2 v1 h => ?_)
        refine ww_icmp_eq (tgt := 932) C dL_law_227 (by decide) (fun _ => ?_) (fun hc => absurd h.1 hc)
        exact back ad ad2 u1 v1 h.2
      by_cases hs2 : sel = 2
      · refine ww_tableIn (off := 199) (tgt := 232) C dL_law_33 (by rw [hs2]; decide) (by rw [hs2]; decide) (by rw [hs2]; rfl) (by decide) ?_
        refine ww_aload_n C dL_law_232 rfl 2 rfl ?_
        refine ww_aload_n C dL_law_233 rfl 3 rfl ?_
        refine ww_iload_n C dL_law_234 rfl 0 rfl ?_
        refine ww_iconst (v := 1) C dL_law_235 (by decide) ?_
        refine ww_iadd C dL_law_236 ?_
        refine ww_sld C hX hbl hin1 dL_law_237 ?_
        refine ww_aload_n C dL_law_238 rfl 3 rfl ?_
        refine ww_iload_n C dL_law_239 rfl 0 rfl ?_
        refine ww_iconst (v := 2) C dL_law_240 (by decide) ?_
        refine ww_iadd C dL_law_241 ?_
        refine ww_sld C hX hbl hin2 dL_law_242 ?_
        refine ww_swap ?_
        refine ww_callFR (As := [.int (xs (nI i + 1).toNatClampNeg), .int (xs (nI i + 2).toNatClampNeg)]) (rest := []) (wr := wM ad2 cI cZ v) (wc := wH ad cI cZ u) C (Along.of EH_ok C.2.2.2.2.1) (c_X11_clear (hM.2.2.1 u v _ _ hR)) tb_2_134 tb_2_135 tb_2_136 tb_1_1 tb_2_137 rfl rfl ⟨rfl, hd_X11_clear⟩ ⟨Nat.le_of_ble_eq_true rfl, Nat.le_of_ble_eq_true rfl⟩ rfl HF_0_0 rfl rfl rfl (Nat.le_of_ble_eq_true rfl) dL_law_243 ⟨Nat.le_of_ble_eq_true rfl, Nat.le_of_ble_eq_true rfl⟩ (fun r u1 h => ?_)
        refine ww_swap ?_
        refine ww_aload_n C dL_law_246 rfl 1 rfl ?_
        refine ww_aload_n C dL_law_247 rfl 3 rfl ?_
        refine ww_iload_n C dL_law_248 rfl 0 rfl ?_
        refine ww_iconst (v := 1) C dL_law_249 (by decide) ?_
        refine ww_iadd C dL_law_250 ?_
        refine ww_sld C hX hbl hin1 dL_law_251 ?_
        refine ww_aload_n C dL_law_252 rfl 3 rfl ?_
        refine ww_iload_n C dL_law_253 rfl 0 rfl ?_
        refine ww_iconst (v := 2) C dL_law_254 (by decide) ?_
        refine ww_iadd C dL_law_255 ?_
        refine ww_sld C hX hbl hin2 dL_law_256 ?_
        refine ww_callFR (As := [.int (xs (nI i + 1).toNatClampNeg), .int (xs (nI i + 2).toNatClampNeg)]) (rest := [.int r]) (wr := wH ad cI cZ u1) (wc := wM ad2 cI cZ v) C (Along.of EM_ok trivial) (c_X12_clear h) tb_4_214 tb_4_215 tb_4_216 tb_1_13 tb_4_217 rfl rfl ⟨rfl, hd_X12_clear⟩ ⟨Nat.le_of_ble_eq_true rfl, Nat.le_of_ble_eq_true rfl⟩ rfl MF_0_0 rfl rfl rfl (Nat.le_of_ble_eq_true rfl) dL_law_257 ⟨Nat.le_of_ble_eq_true rfl, Nat.le_of_ble_eq_true rfl⟩ (fun r2 v1 h => ?_)
        refine ww_icmp_eq (tgt := 932) C dL_law_260 (by decide) (fun _ => ?_) (fun hc => absurd h.1 hc)
        exact back ad ad2 u1 v1 h.2
      by_cases hs3 : sel = 3
      · refine ww_tableIn (off := 232) (tgt := 265) C dL_law_33 (by rw [hs3]; decide) (by rw [hs3]; decide) (by rw [hs3]; rfl) (by decide) ?_
        refine ww_aload_n C dL_law_265 rfl 2 rfl ?_
        refine ww_aload_n C dL_law_266 rfl 3 rfl ?_
        refine ww_iload_n C dL_law_267 rfl 0 rfl ?_
        refine ww_iconst (v := 1) C dL_law_268 (by decide) ?_
        refine ww_iadd C dL_law_269 ?_
        refine ww_sld C hX hbl hin1 dL_law_270 ?_
        refine ww_aload_n C dL_law_271 rfl 3 rfl ?_
        refine ww_iload_n C dL_law_272 rfl 0 rfl ?_
        refine ww_iconst (v := 2) C dL_law_273 (by decide) ?_
        refine ww_iadd C dL_law_274 ?_
        refine ww_sld C hX hbl hin2 dL_law_275 ?_
        refine ww_aload_n C dL_law_276 rfl 3 rfl ?_
        refine ww_iload_n C dL_law_277 rfl 0 rfl ?_
        refine ww_iconst (v := 3) C dL_law_278 (by decide) ?_
        refine ww_iadd C dL_law_279 ?_
        refine ww_sld C hX hbl hin3 dL_law_280 ?_
        refine ww_swap ?_
        refine ww_callFR (As := [.int (xs (nI i + 1).toNatClampNeg), .int (xs (nI i + 2).toNatClampNeg), .int (xs (nI i + 3).toNatClampNeg)]) (rest := []) (wr := wM ad2 cI cZ v) (wc := wH ad cI cZ u) C (Along.of EH_ok C.2.2.2.2.1) (c_X11_table (hM.2.2.2.1 u v _ _ _ hR)) tb_2_146 tb_2_147 tb_2_148 tb_1_1 tb_2_149 rfl rfl ⟨rfl, hd_X11_table⟩ ⟨Nat.le_of_ble_eq_true rfl, Nat.le_of_ble_eq_true rfl⟩ rfl HF_0_0 rfl rfl rfl (Nat.le_of_ble_eq_true rfl) dL_law_281 ⟨Nat.le_of_ble_eq_true rfl, Nat.le_of_ble_eq_true rfl⟩ (fun r u1 h => ?_)
        refine ww_swap ?_
        refine ww_aload_n C dL_law_284 rfl 1 rfl ?_
        refine ww_aload_n C dL_law_285 rfl 3 rfl ?_
        refine ww_iload_n C dL_law_286 rfl 0 rfl ?_
        refine ww_iconst (v := 1) C dL_law_287 (by decide) ?_
        refine ww_iadd C dL_law_288 ?_
        refine ww_sld C hX hbl hin1 dL_law_289 ?_
        refine ww_aload_n C dL_law_290 rfl 3 rfl ?_
        refine ww_iload_n C dL_law_291 rfl 0 rfl ?_
        refine ww_iconst (v := 2) C dL_law_292 (by decide) ?_
        refine ww_iadd C dL_law_293 ?_
        refine ww_sld C hX hbl hin2 dL_law_294 ?_
        refine ww_aload_n C dL_law_295 rfl 3 rfl ?_
        refine ww_iload_n C dL_law_296 rfl 0 rfl ?_
        refine ww_iconst (v := 3) C dL_law_297 (by decide) ?_
        refine ww_iadd C dL_law_298 ?_
        refine ww_sld C hX hbl hin3 dL_law_299 ?_
        refine ww_callFR (As := [.int (xs (nI i + 1).toNatClampNeg), .int (xs (nI i + 2).toNatClampNeg), .int (xs (nI i + 3).toNatClampNeg)]) (rest := [.int r]) (wr := wH ad cI cZ u1) (wc := wM ad2 cI cZ v) C (Along.of EM_ok trivial) (c_X12_table h) tb_4_218 tb_4_219 tb_4_220 tb_1_13 tb_4_221 rfl rfl ⟨rfl, hd_X12_table⟩ ⟨Nat.le_of_ble_eq_true rfl, Nat.le_of_ble_eq_true rfl⟩ rfl MF_0_0 rfl rfl rfl (Nat.le_of_ble_eq_true rfl) dL_law_300 ⟨Nat.le_of_ble_eq_true rfl, Nat.le_of_ble_eq_true rfl⟩ (fun r2 v1 h => ?_)
        refine ww_icmp_eq (tgt := 932) C dL_law_303 (by decide) (fun _ => ?_) (fun hc => absurd h.1 hc)
        exact back ad ad2 u1 v1 h.2
      by_cases hs4 : sel = 4
      · refine ww_tableIn (off := 275) (tgt := 308) C dL_law_33 (by rw [hs4]; decide) (by rw [hs4]; decide) (by rw [hs4]; rfl) (by decide) ?_
        refine ww_aload_n C dL_law_308 rfl 2 rfl ?_
        refine ww_aload_n C dL_law_309 rfl 3 rfl ?_
        refine ww_iload_n C dL_law_310 rfl 0 rfl ?_
        refine ww_iconst (v := 1) C dL_law_311 (by decide) ?_
        refine ww_iadd C dL_law_312 ?_
        refine ww_sld C hX hbl hin1 dL_law_313 ?_
        refine ww_aload_n C dL_law_314 rfl 3 rfl ?_
        refine ww_iload_n C dL_law_315 rfl 0 rfl ?_
        refine ww_iconst (v := 2) C dL_law_316 (by decide) ?_
        refine ww_iadd C dL_law_317 ?_
        refine ww_sld C hX hbl hin2 dL_law_318 ?_
        refine ww_aload_n C dL_law_319 rfl 3 rfl ?_
        refine ww_iload_n C dL_law_320 rfl 0 rfl ?_
        refine ww_iconst (v := 3) C dL_law_321 (by decide) ?_
        refine ww_iadd C dL_law_322 ?_
        refine ww_sld C hX hbl hin3 dL_law_323 ?_
        refine ww_aload_n C dL_law_324 rfl 3 rfl ?_
        refine ww_iload_n C dL_law_325 rfl 0 rfl ?_
        refine ww_iconst (v := 4) C dL_law_326 (by decide) ?_
        refine ww_iadd C dL_law_327 ?_
        refine ww_sld C hX hbl hin4 dL_law_328 ?_
        refine ww_swap ?_
        refine ww_callFR (As := [.int (xs (nI i + 1).toNatClampNeg), .int (xs (nI i + 2).toNatClampNeg), .int (xs (nI i + 3).toNatClampNeg), .int (xs (nI i + 4).toNatClampNeg)]) (rest := []) (wr := wM ad2 cI cZ v) (wc := wH ad cI cZ u) C (Along.of EH_ok C.2.2.2.2.1) (c_X11_of (hM.2.2.2.2.1 u v _ _ _ _ hR)) tb_2_158 tb_2_159 tb_2_160 tb_1_1 tb_2_161 rfl rfl ⟨rfl, hd_X11_of⟩ ⟨Nat.le_of_ble_eq_true rfl, Nat.le_of_ble_eq_true rfl⟩ rfl HF_0_0 rfl rfl rfl (Nat.le_of_ble_eq_true rfl) dL_law_329 ⟨Nat.le_of_ble_eq_true rfl, Nat.le_of_ble_eq_true rfl⟩ (fun r u1 h => ?_)
        refine ww_swap ?_
        refine ww_aload_n C dL_law_332 rfl 1 rfl ?_
        refine ww_aload_n C dL_law_333 rfl 3 rfl ?_
        refine ww_iload_n C dL_law_334 rfl 0 rfl ?_
        refine ww_iconst (v := 1) C dL_law_335 (by decide) ?_
        refine ww_iadd C dL_law_336 ?_
        refine ww_sld C hX hbl hin1 dL_law_337 ?_
        refine ww_aload_n C dL_law_338 rfl 3 rfl ?_
        refine ww_iload_n C dL_law_339 rfl 0 rfl ?_
        refine ww_iconst (v := 2) C dL_law_340 (by decide) ?_
        refine ww_iadd C dL_law_341 ?_
        refine ww_sld C hX hbl hin2 dL_law_342 ?_
        refine ww_aload_n C dL_law_343 rfl 3 rfl ?_
        refine ww_iload_n C dL_law_344 rfl 0 rfl ?_
        refine ww_iconst (v := 3) C dL_law_345 (by decide) ?_
        refine ww_iadd C dL_law_346 ?_
        refine ww_sld C hX hbl hin3 dL_law_347 ?_
        refine ww_aload_n C dL_law_348 rfl 3 rfl ?_
        refine ww_iload_n C dL_law_349 rfl 0 rfl ?_
        refine ww_iconst (v := 4) C dL_law_350 (by decide) ?_
        refine ww_iadd C dL_law_351 ?_
        refine ww_sld C hX hbl hin4 dL_law_352 ?_
        refine ww_callFR (As := [.int (xs (nI i + 1).toNatClampNeg), .int (xs (nI i + 2).toNatClampNeg), .int (xs (nI i + 3).toNatClampNeg), .int (xs (nI i + 4).toNatClampNeg)]) (rest := [.int r]) (wr := wH ad cI cZ u1) (wc := wM ad2 cI cZ v) C (Along.of EM_ok trivial) (c_X12_of h) tb_4_223 tb_4_224 tb_4_225 tb_1_13 tb_4_226 rfl rfl ⟨rfl, hd_X12_of⟩ ⟨Nat.le_of_ble_eq_true rfl, Nat.le_of_ble_eq_true rfl⟩ rfl MF_0_0 rfl rfl rfl (Nat.le_of_ble_eq_true rfl) dL_law_353 ⟨Nat.le_of_ble_eq_true rfl, Nat.le_of_ble_eq_true rfl⟩ (fun r2 v1 h => ?_)
        refine ww_icmp_eq (tgt := 932) C dL_law_356 (by decide) (fun _ => ?_) (fun hc => absurd h.1 hc)
        exact back ad ad2 u1 v1 h.2
      by_cases hs5 : sel = 5
      · refine ww_tableIn (off := 328) (tgt := 361) C dL_law_33 (by rw [hs5]; decide) (by rw [hs5]; decide) (by rw [hs5]; rfl) (by decide) ?_
        refine ww_aload_n C dL_law_361 rfl 2 rfl ?_
        refine ww_aload_n C dL_law_362 rfl 3 rfl ?_
        refine ww_iload_n C dL_law_363 rfl 0 rfl ?_
        refine ww_iconst (v := 1) C dL_law_364 (by decide) ?_
        refine ww_iadd C dL_law_365 ?_
        refine ww_sld C hX hbl hin1 dL_law_366 ?_
        refine ww_aload_n C dL_law_367 rfl 3 rfl ?_
        refine ww_iload_n C dL_law_368 rfl 0 rfl ?_
        refine ww_iconst (v := 2) C dL_law_369 (by decide) ?_
        refine ww_iadd C dL_law_370 ?_
        refine ww_sld C hX hbl hin2 dL_law_371 ?_
        refine ww_swap ?_
        refine ww_callFR (As := [.int (xs (nI i + 1).toNatClampNeg), .int (xs (nI i + 2).toNatClampNeg)]) (rest := []) (wr := wM ad2 cI cZ v) (wc := wH ad cI cZ u) C (Along.of EH_ok C.2.2.2.2.1) (c_X11_leaning (hM.2.2.2.2.2.1 u v _ _ hR)) tb_2_217 tb_2_218 tb_2_219 tb_1_1 tb_2_220 rfl rfl ⟨rfl, hd_X11_leaning⟩ ⟨Nat.le_of_ble_eq_true rfl, Nat.le_of_ble_eq_true rfl⟩ rfl HF_0_0 rfl rfl rfl (Nat.le_of_ble_eq_true rfl) dL_law_372 ⟨Nat.le_of_ble_eq_true rfl, Nat.le_of_ble_eq_true rfl⟩ (fun r u1 h => ?_)
        refine ww_swap ?_
        refine ww_aload_n C dL_law_375 rfl 1 rfl ?_
        refine ww_aload_n C dL_law_376 rfl 3 rfl ?_
        refine ww_iload_n C dL_law_377 rfl 0 rfl ?_
        refine ww_iconst (v := 1) C dL_law_378 (by decide) ?_
        refine ww_iadd C dL_law_379 ?_
        refine ww_sld C hX hbl hin1 dL_law_380 ?_
        refine ww_aload_n C dL_law_381 rfl 3 rfl ?_
        refine ww_iload_n C dL_law_382 rfl 0 rfl ?_
        refine ww_iconst (v := 2) C dL_law_383 (by decide) ?_
        refine ww_iadd C dL_law_384 ?_
        refine ww_sld C hX hbl hin2 dL_law_385 ?_
        refine ww_callFR (As := [.int (xs (nI i + 1).toNatClampNeg), .int (xs (nI i + 2).toNatClampNeg)]) (rest := [.int r]) (wr := wH ad cI cZ u1) (wc := wM ad2 cI cZ v) C (Along.of EM_ok trivial) (c_X12_leaning h) tb_5_3 tb_5_4 tb_5_5 tb_1_13 tb_5_6 rfl rfl ⟨rfl, hd_X12_leaning⟩ ⟨Nat.le_of_ble_eq_true rfl, Nat.le_of_ble_eq_true rfl⟩ rfl MF_0_0 rfl rfl rfl (Nat.le_of_ble_eq_true rfl) dL_law_386 ⟨Nat.le_of_ble_eq_true rfl, Nat.le_of_ble_eq_true rfl⟩ (fun r2 v1 h => ?_)
        refine ww_icmp_eq (tgt := 932) C dL_law_389 (by decide) (fun _ => ?_) (fun hc => absurd h.1 hc)
        exact back ad ad2 u1 v1 h.2
      by_cases hs6 : sel = 6
      · refine ww_tableIn (off := 361) (tgt := 394) C dL_law_33 (by rw [hs6]; decide) (by rw [hs6]; decide) (by rw [hs6]; rfl) (by decide) ?_
        refine ww_aload_n C dL_law_394 rfl 2 rfl ?_
        refine ww_aload_n C dL_law_395 rfl 3 rfl ?_
        refine ww_iload_n C dL_law_396 rfl 0 rfl ?_
        refine ww_iconst (v := 1) C dL_law_397 (by decide) ?_
        refine ww_iadd C dL_law_398 ?_
        refine ww_sld C hX hbl hin1 dL_law_399 ?_
        refine ww_aload_n C dL_law_400 rfl 3 rfl ?_
        refine ww_iload_n C dL_law_401 rfl 0 rfl ?_
        refine ww_iconst (v := 2) C dL_law_402 (by decide) ?_
        refine ww_iadd C dL_law_403 ?_
        refine ww_sld C hX hbl hin2 dL_law_404 ?_
        refine ww_aload_n C dL_law_405 rfl 3 rfl ?_
        refine ww_iload_n C dL_law_406 rfl 0 rfl ?_
        refine ww_iconst (v := 3) C dL_law_407 (by decide) ?_
        refine ww_iadd C dL_law_408 ?_
        refine ww_sld C hX hbl hin3 dL_law_409 ?_
        refine ww_swap ?_
        refine ww_callFR (As := [.int (xs (nI i + 1).toNatClampNeg), .int (xs (nI i + 2).toNatClampNeg), .int (xs (nI i + 3).toNatClampNeg)]) (rest := []) (wr := wM ad2 cI cZ v) (wc := wH ad cI cZ u) C (Along.of EH_ok C.2.2.2.2.1) (c_X11_seen (hM.2.2.2.2.2.2.1 u v _ _ _ hR)) tb_2_225 tb_2_226 tb_2_227 tb_1_1 tb_2_228 rfl rfl ⟨rfl, hd_X11_seen⟩ ⟨Nat.le_of_ble_eq_true rfl, Nat.le_of_ble_eq_true rfl⟩ rfl HF_0_0 rfl rfl rfl (Nat.le_of_ble_eq_true rfl) dL_law_410 ⟨Nat.le_of_ble_eq_true rfl, Nat.le_of_ble_eq_true rfl⟩ (fun r u1 h => ?_)
        refine ww_swap ?_
        refine ww_aload_n C dL_law_413 rfl 1 rfl ?_
        refine ww_aload_n C dL_law_414 rfl 3 rfl ?_
        refine ww_iload_n C dL_law_415 rfl 0 rfl ?_
        refine ww_iconst (v := 1) C dL_law_416 (by decide) ?_
        refine ww_iadd C dL_law_417 ?_
        refine ww_sld C hX hbl hin1 dL_law_418 ?_
        refine ww_aload_n C dL_law_419 rfl 3 rfl ?_
        refine ww_iload_n C dL_law_420 rfl 0 rfl ?_
        refine ww_iconst (v := 2) C dL_law_421 (by decide) ?_
        refine ww_iadd C dL_law_422 ?_
        refine ww_sld C hX hbl hin2 dL_law_423 ?_
        refine ww_aload_n C dL_law_424 rfl 3 rfl ?_
        refine ww_iload_n C dL_law_425 rfl 0 rfl ?_
        refine ww_iconst (v := 3) C dL_law_426 (by decide) ?_
        refine ww_iadd C dL_law_427 ?_
        refine ww_sld C hX hbl hin3 dL_law_428 ?_
        refine ww_callFR (As := [.int (xs (nI i + 1).toNatClampNeg), .int (xs (nI i + 2).toNatClampNeg), .int (xs (nI i + 3).toNatClampNeg)]) (rest := [.int r]) (wr := wH ad cI cZ u1) (wc := wM ad2 cI cZ v) C (Along.of EM_ok trivial) (c_X12_seen h) tb_5_7 tb_5_8 tb_5_9 tb_1_13 tb_5_10 rfl rfl ⟨rfl, hd_X12_seen⟩ ⟨Nat.le_of_ble_eq_true rfl, Nat.le_of_ble_eq_true rfl⟩ rfl MF_0_0 rfl rfl rfl (Nat.le_of_ble_eq_true rfl) dL_law_429 ⟨Nat.le_of_ble_eq_true rfl, Nat.le_of_ble_eq_true rfl⟩ (fun r2 v1 h => ?_)
        refine ww_icmp_eq (tgt := 932) C dL_law_432 (by decide) (fun _ => ?_) (fun hc => absurd h.1 hc)
        exact back ad ad2 u1 v1 h.2
      by_cases hs7 : sel = 7
      · refine ww_tableIn (off := 404) (tgt := 437) C dL_law_33 (by rw [hs7]; decide) (by rw [hs7]; decide) (by rw [hs7]; rfl) (by decide) ?_
        refine ww_aload_n C dL_law_437 rfl 2 rfl ?_
        refine ww_aload_n C dL_law_438 rfl 3 rfl ?_
        refine ww_iload_n C dL_law_439 rfl 0 rfl ?_
        refine ww_iconst (v := 1) C dL_law_440 (by decide) ?_
        refine ww_iadd C dL_law_441 ?_
        refine ww_sld C hX hbl hin1 dL_law_442 ?_
        refine ww_aload_n C dL_law_443 rfl 3 rfl ?_
        refine ww_iload_n C dL_law_444 rfl 0 rfl ?_
        refine ww_iconst (v := 2) C dL_law_445 (by decide) ?_
        refine ww_iadd C dL_law_446 ?_
        refine ww_sld C hX hbl hin2 dL_law_447 ?_
        refine ww_aload_n C dL_law_448 rfl 3 rfl ?_
        refine ww_iload_n C dL_law_449 rfl 0 rfl ?_
        refine ww_iconst (v := 3) C dL_law_450 (by decide) ?_
        refine ww_iadd C dL_law_451 ?_
        refine ww_sld C hX hbl hin3 dL_law_452 ?_
        refine ww_swap ?_
        refine ww_callFR (As := [.int (xs (nI i + 1).toNatClampNeg), .int (xs (nI i + 2).toNatClampNeg), .int (xs (nI i + 3).toNatClampNeg)]) (rest := []) (wr := wM ad2 cI cZ v) (wc := wH ad cI cZ u) C (Along.of EH_ok C.2.2.2.2.1) (c_X11_track (hM.2.2.2.2.2.2.2.1 u v _ _ _ hR)) tb_3_6 tb_3_7 tb_3_8 tb_1_1 tb_3_9 rfl rfl ⟨rfl, hd_X11_track⟩ ⟨Nat.le_of_ble_eq_true rfl, Nat.le_of_ble_eq_true rfl⟩ rfl HF_0_0 rfl rfl rfl (Nat.le_of_ble_eq_true rfl) dL_law_453 ⟨Nat.le_of_ble_eq_true rfl, Nat.le_of_ble_eq_true rfl⟩ (fun r u1 h => ?_)
        refine ww_swap ?_
        refine ww_aload_n C dL_law_456 rfl 1 rfl ?_
        refine ww_aload_n C dL_law_457 rfl 3 rfl ?_
        refine ww_iload_n C dL_law_458 rfl 0 rfl ?_
        refine ww_iconst (v := 1) C dL_law_459 (by decide) ?_
        refine ww_iadd C dL_law_460 ?_
        refine ww_sld C hX hbl hin1 dL_law_461 ?_
        refine ww_aload_n C dL_law_462 rfl 3 rfl ?_
        refine ww_iload_n C dL_law_463 rfl 0 rfl ?_
        refine ww_iconst (v := 2) C dL_law_464 (by decide) ?_
        refine ww_iadd C dL_law_465 ?_
        refine ww_sld C hX hbl hin2 dL_law_466 ?_
        refine ww_aload_n C dL_law_467 rfl 3 rfl ?_
        refine ww_iload_n C dL_law_468 rfl 0 rfl ?_
        refine ww_iconst (v := 3) C dL_law_469 (by decide) ?_
        refine ww_iadd C dL_law_470 ?_
        refine ww_sld C hX hbl hin3 dL_law_471 ?_
        refine ww_callFR (As := [.int (xs (nI i + 1).toNatClampNeg), .int (xs (nI i + 2).toNatClampNeg), .int (xs (nI i + 3).toNatClampNeg)]) (rest := [.int r]) (wr := wH ad cI cZ u1) (wc := wM ad2 cI cZ v) C (Along.of EM_ok trivial) (c_X12_track h) tb_5_11 tb_5_12 tb_5_13 tb_1_13 tb_5_14 rfl rfl ⟨rfl, hd_X12_track⟩ ⟨Nat.le_of_ble_eq_true rfl, Nat.le_of_ble_eq_true rfl⟩ rfl MF_0_0 rfl rfl rfl (Nat.le_of_ble_eq_true rfl) dL_law_472 ⟨Nat.le_of_ble_eq_true rfl, Nat.le_of_ble_eq_true rfl⟩ (fun r2 v1 h => ?_)
        refine ww_icmp_eq (tgt := 932) C dL_law_475 (by decide) (fun _ => ?_) (fun hc => absurd h.1 hc)
        exact back ad ad2 u1 v1 h.2
      by_cases hs8 : sel = 8
      · refine ww_tableIn (off := 447) (tgt := 480) C dL_law_33 (by rw [hs8]; decide) (by rw [hs8]; decide) (by rw [hs8]; rfl) (by decide) ?_
        refine ww_aload_n C dL_law_480 rfl 2 rfl ?_
        refine ww_aload_n C dL_law_481 rfl 3 rfl ?_
        refine ww_iload_n C dL_law_482 rfl 0 rfl ?_
        refine ww_iconst (v := 1) C dL_law_483 (by decide) ?_
        refine ww_iadd C dL_law_484 ?_
        refine ww_sld C hX hbl hin1 dL_law_485 ?_
        refine ww_swap ?_
        refine ww_callFR (As := [.int (xs (nI i + 1).toNatClampNeg)]) (rest := []) (wr := wM ad2 cI cZ v) (wc := wH ad cI cZ u) C (Along.of EH_ok C.2.2.2.2.1) (c_X11_through (hM.2.2.2.2.2.2.2.2.1 u v _ hR)) tb_3_31 tb_3_32 tb_3_33 tb_1_1 tb_3_34 rfl rfl ⟨rfl, hd_X11_through⟩ ⟨Nat.le_of_ble_eq_true rfl, Nat.le_of_ble_eq_true rfl⟩ rfl HF_0_0 rfl rfl rfl (Nat.le_of_ble_eq_true rfl) dL_law_486 ⟨Nat.le_of_ble_eq_true rfl, Nat.le_of_ble_eq_true rfl⟩ (fun r u1 h => ?_)
        refine ww_swap ?_
        refine ww_aload_n C dL_law_489 rfl 1 rfl ?_
        refine ww_aload_n C dL_law_490 rfl 3 rfl ?_
        refine ww_iload_n C dL_law_491 rfl 0 rfl ?_
        refine ww_iconst (v := 1) C dL_law_492 (by decide) ?_
        refine ww_iadd C dL_law_493 ?_
        refine ww_sld C hX hbl hin1 dL_law_494 ?_
        refine ww_callFR (As := [.int (xs (nI i + 1).toNatClampNeg)]) (rest := [.int r]) (wr := wH ad cI cZ u1) (wc := wM ad2 cI cZ v) C (Along.of EM_ok trivial) (c_X12_through h) tb_5_24 tb_5_25 tb_5_26 tb_1_13 tb_5_27 rfl rfl ⟨rfl, hd_X12_through⟩ ⟨Nat.le_of_ble_eq_true rfl, Nat.le_of_ble_eq_true rfl⟩ rfl MF_0_0 rfl rfl rfl (Nat.le_of_ble_eq_true rfl) dL_law_495 ⟨Nat.le_of_ble_eq_true rfl, Nat.le_of_ble_eq_true rfl⟩ (fun r2 v1 h => ?_)
        refine ww_icmp_eq (tgt := 932) C dL_law_498 (by decide) (fun _ => ?_) (fun hc => absurd h.1 hc)
        exact back ad ad2 u1 v1 h.2
      by_cases hs9 : sel = 9
      · refine ww_tableIn (off := 470) (tgt := 503) C dL_law_33 (by rw [hs9]; decide) (by rw [hs9]; decide) (by rw [hs9]; rfl) (by decide) ?_
        refine ww_aload_n C dL_law_503 rfl 2 rfl ?_
        refine ww_aload_n C dL_law_504 rfl 3 rfl ?_
        refine ww_iload_n C dL_law_505 rfl 0 rfl ?_
        refine ww_iconst (v := 1) C dL_law_506 (by decide) ?_
        refine ww_iadd C dL_law_507 ?_
        refine ww_sld C hX hbl hin1 dL_law_508 ?_
        refine ww_swap ?_
        refine ww_callFR (As := [.int (xs (nI i + 1).toNatClampNeg)]) (rest := []) (wr := wM ad2 cI cZ v) (wc := wH ad cI cZ u) C (Along.of EH_ok C.2.2.2.2.1) (c_X11_within (hM.2.2.2.2.2.2.2.2.2.1 u v _ hR)) tb_3_35 tb_3_36 tb_3_37 tb_1_1 tb_3_38 rfl rfl ⟨rfl, hd_X11_within⟩ ⟨Nat.le_of_ble_eq_true rfl, Nat.le_of_ble_eq_true rfl⟩ rfl HF_0_0 rfl rfl rfl (Nat.le_of_ble_eq_true rfl) dL_law_509 ⟨Nat.le_of_ble_eq_true rfl, Nat.le_of_ble_eq_true rfl⟩ (fun r u1 h => ?_)
        refine ww_swap ?_
        refine ww_aload_n C dL_law_512 rfl 1 rfl ?_
        refine ww_aload_n C dL_law_513 rfl 3 rfl ?_
        refine ww_iload_n C dL_law_514 rfl 0 rfl ?_
        refine ww_iconst (v := 1) C dL_law_515 (by decide) ?_
        refine ww_iadd C dL_law_516 ?_
        refine ww_sld C hX hbl hin1 dL_law_517 ?_
        refine ww_callFR (As := [.int (xs (nI i + 1).toNatClampNeg)]) (rest := [.int r]) (wr := wH ad cI cZ u1) (wc := wM ad2 cI cZ v) C (Along.of EM_ok trivial) (c_X12_within h) tb_5_28 tb_5_29 tb_5_30 tb_1_13 tb_5_31 rfl rfl ⟨rfl, hd_X12_within⟩ ⟨Nat.le_of_ble_eq_true rfl, Nat.le_of_ble_eq_true rfl⟩ rfl MF_0_0 rfl rfl rfl (Nat.le_of_ble_eq_true rfl) dL_law_518 ⟨Nat.le_of_ble_eq_true rfl, Nat.le_of_ble_eq_true rfl⟩ (fun r2 v1 h => ?_)
        refine ww_icmp_eq (tgt := 932) C dL_law_521 (by decide) (fun _ => ?_) (fun hc => absurd h.1 hc)
        exact back ad ad2 u1 v1 h.2
      by_cases hs10 : sel = 10
      · refine ww_tableIn (off := 493) (tgt := 526) C dL_law_33 (by rw [hs10]; decide) (by rw [hs10]; decide) (by rw [hs10]; rfl) (by decide) ?_
        refine ww_aload_n C dL_law_526 rfl 2 rfl ?_
        refine ww_aload_n C dL_law_527 rfl 3 rfl ?_
        refine ww_iload_n C dL_law_528 rfl 0 rfl ?_
        refine ww_iconst (v := 1) C dL_law_529 (by decide) ?_
        refine ww_iadd C dL_law_530 ?_
        refine ww_sld C hX hbl hin1 dL_law_531 ?_
        refine ww_aload_n C dL_law_532 rfl 3 rfl ?_
        refine ww_iload_n C dL_law_533 rfl 0 rfl ?_
        refine ww_iconst (v := 2) C dL_law_534 (by decide) ?_
        refine ww_iadd C dL_law_535 ?_
        refine ww_sld C hX hbl hin2 dL_law_536 ?_
        refine ww_aload_n C dL_law_537 rfl 3 rfl ?_
        refine ww_iload_n C dL_law_538 rfl 0 rfl ?_
        refine ww_iconst (v := 3) C dL_law_539 (by decide) ?_
        refine ww_iadd C dL_law_540 ?_
        refine ww_sld C hX hbl hin3 dL_law_541 ?_
        refine ww_aload_n C dL_law_542 rfl 3 rfl ?_
        refine ww_iload_n C dL_law_543 rfl 0 rfl ?_
        refine ww_iconst (v := 4) C dL_law_544 (by decide) ?_
        refine ww_iadd C dL_law_545 ?_
        refine ww_sld C hX hbl hin4 dL_law_546 ?_
        refine ww_swap ?_
        refine ww_callFR (As := [.int (xs (nI i + 1).toNatClampNeg), .int (xs (nI i + 2).toNatClampNeg), .int (xs (nI i + 3).toNatClampNeg), .int (xs (nI i + 4).toNatClampNeg)]) (rest := []) (wr := wM ad2 cI cZ v) (wc := wH ad cI cZ u) C (Along.of EH_ok C.2.2.2.2.1) (c_X11_map (hM.2.2.2.2.2.2.2.2.2.2.1 u v _ _ _ _ hR)) tb_3_48 tb_3_49 tb_3_50 tb_1_1 tb_3_51 rfl rfl ⟨rfl, hd_X11_map⟩ ⟨Nat.le_of_ble_eq_true rfl, Nat.le_of_ble_eq_true rfl⟩ rfl HF_0_0 rfl rfl rfl (Nat.le_of_ble_eq_true rfl) dL_law_547 ⟨Nat.le_of_ble_eq_true rfl, Nat.le_of_ble_eq_true rfl⟩ (fun r u1 h => ?_)
        refine ww_swap ?_
        refine ww_aload_n C dL_law_550 rfl 1 rfl ?_
        refine ww_aload_n C dL_law_551 rfl 3 rfl ?_
        refine ww_iload_n C dL_law_552 rfl 0 rfl ?_
        refine ww_iconst (v := 1) C dL_law_553 (by decide) ?_
        refine ww_iadd C dL_law_554 ?_
        refine ww_sld C hX hbl hin1 dL_law_555 ?_
        refine ww_aload_n C dL_law_556 rfl 3 rfl ?_
        refine ww_iload_n C dL_law_557 rfl 0 rfl ?_
        refine ww_iconst (v := 2) C dL_law_558 (by decide) ?_
        refine ww_iadd C dL_law_559 ?_
        refine ww_sld C hX hbl hin2 dL_law_560 ?_
        refine ww_aload_n C dL_law_561 rfl 3 rfl ?_
        refine ww_iload_n C dL_law_562 rfl 0 rfl ?_
        refine ww_iconst (v := 3) C dL_law_563 (by decide) ?_
        refine ww_iadd C dL_law_564 ?_
        refine ww_sld C hX hbl hin3 dL_law_565 ?_
        refine ww_aload_n C dL_law_566 rfl 3 rfl ?_
        refine ww_iload_n C dL_law_567 rfl 0 rfl ?_
        refine ww_iconst (v := 4) C dL_law_568 (by decide) ?_
        refine ww_iadd C dL_law_569 ?_
        refine ww_sld C hX hbl hin4 dL_law_570 ?_
        refine ww_callFR (As := [.int (xs (nI i + 1).toNatClampNeg), .int (xs (nI i + 2).toNatClampNeg), .int (xs (nI i + 3).toNatClampNeg), .int (xs (nI i + 4).toNatClampNeg)]) (rest := [.int r]) (wr := wH ad cI cZ u1) (wc := wM ad2 cI cZ v) C (Along.of EM_ok trivial) (c_X12_map h) tb_5_32 tb_5_33 tb_5_34 tb_1_13 tb_5_35 rfl rfl ⟨rfl, hd_X12_map⟩ ⟨Nat.le_of_ble_eq_true rfl, Nat.le_of_ble_eq_true rfl⟩ rfl MF_0_0 rfl rfl rfl (Nat.le_of_ble_eq_true rfl) dL_law_571 ⟨Nat.le_of_ble_eq_true rfl, Nat.le_of_ble_eq_true rfl⟩ (fun r2 v1 h => ?_)
        refine ww_icmp_eq (tgt := 932) C dL_law_574 (by decide) (fun _ => ?_) (fun hc => absurd h.1 hc)
        exact back ad ad2 u1 v1 h.2
      by_cases hs11 : sel = 11
      · refine ww_tableIn (off := 546) (tgt := 579) C dL_law_33 (by rw [hs11]; decide) (by rw [hs11]; decide) (by rw [hs11]; rfl) (by decide) ?_
        refine ww_aload_n C dL_law_579 rfl 2 rfl ?_
        refine ww_aload_n C dL_law_580 rfl 3 rfl ?_
        refine ww_iload_n C dL_law_581 rfl 0 rfl ?_
        refine ww_iconst (v := 1) C dL_law_582 (by decide) ?_
        refine ww_iadd C dL_law_583 ?_
        refine ww_sld C hX hbl hin1 dL_law_584 ?_
        refine ww_aload_n C dL_law_585 rfl 3 rfl ?_
        refine ww_iload_n C dL_law_586 rfl 0 rfl ?_
        refine ww_iconst (v := 2) C dL_law_587 (by decide) ?_
        refine ww_iadd C dL_law_588 ?_
        refine ww_sld C hX hbl hin2 dL_law_589 ?_
        refine ww_aload_n C dL_law_590 rfl 3 rfl ?_
        refine ww_iload_n C dL_law_591 rfl 0 rfl ?_
        refine ww_iconst (v := 3) C dL_law_592 (by decide) ?_
        refine ww_iadd C dL_law_593 ?_
        refine ww_sld C hX hbl hin3 dL_law_594 ?_
        refine ww_swap ?_
        refine ww_callFR (As := [.int (xs (nI i + 1).toNatClampNeg), .int (xs (nI i + 2).toNatClampNeg), .int (xs (nI i + 3).toNatClampNeg)]) (rest := []) (wr := wM ad2 cI cZ v) (wc := wH ad cI cZ u) C (Along.of EH_ok C.2.2.2.2.1) (c_X11_radar (hM.2.2.2.2.2.2.2.2.2.2.2.1 u v _ _ _ hR)) tb_3_75 tb_3_76 tb_3_77 tb_1_1 tb_3_78 rfl rfl ⟨rfl, hd_X11_radar⟩ ⟨Nat.le_of_ble_eq_true rfl, Nat.le_of_ble_eq_true rfl⟩ rfl HF_0_0 rfl rfl rfl (Nat.le_of_ble_eq_true rfl) dL_law_595 ⟨Nat.le_of_ble_eq_true rfl, Nat.le_of_ble_eq_true rfl⟩ (fun r u1 h => ?_)
        refine ww_swap ?_
        refine ww_aload_n C dL_law_598 rfl 1 rfl ?_
        refine ww_aload_n C dL_law_599 rfl 3 rfl ?_
        refine ww_iload_n C dL_law_600 rfl 0 rfl ?_
        refine ww_iconst (v := 1) C dL_law_601 (by decide) ?_
        refine ww_iadd C dL_law_602 ?_
        refine ww_sld C hX hbl hin1 dL_law_603 ?_
        refine ww_aload_n C dL_law_604 rfl 3 rfl ?_
        refine ww_iload_n C dL_law_605 rfl 0 rfl ?_
        refine ww_iconst (v := 2) C dL_law_606 (by decide) ?_
        refine ww_iadd C dL_law_607 ?_
        refine ww_sld C hX hbl hin2 dL_law_608 ?_
        refine ww_aload_n C dL_law_609 rfl 3 rfl ?_
        refine ww_iload_n C dL_law_610 rfl 0 rfl ?_
        refine ww_iconst (v := 3) C dL_law_611 (by decide) ?_
        refine ww_iadd C dL_law_612 ?_
        refine ww_sld C hX hbl hin3 dL_law_613 ?_
        refine ww_callFR (As := [.int (xs (nI i + 1).toNatClampNeg), .int (xs (nI i + 2).toNatClampNeg), .int (xs (nI i + 3).toNatClampNeg)]) (rest := [.int r]) (wr := wH ad cI cZ u1) (wc := wM ad2 cI cZ v) C (Along.of EM_ok trivial) (c_X12_radar h) tb_5_44 tb_5_45 tb_5_46 tb_1_13 tb_5_47 rfl rfl ⟨rfl, hd_X12_radar⟩ ⟨Nat.le_of_ble_eq_true rfl, Nat.le_of_ble_eq_true rfl⟩ rfl MF_0_0 rfl rfl rfl (Nat.le_of_ble_eq_true rfl) dL_law_614 ⟨Nat.le_of_ble_eq_true rfl, Nat.le_of_ble_eq_true rfl⟩ (fun r2 v1 h => ?_)
        refine ww_icmp_eq (tgt := 932) C dL_law_617 (by decide) (fun _ => ?_) (fun hc => absurd h.1 hc)
        exact back ad ad2 u1 v1 h.2
      by_cases hs12 : sel = 12
      · refine ww_tableIn (off := 589) (tgt := 622) C dL_law_33 (by rw [hs12]; decide) (by rw [hs12]; decide) (by rw [hs12]; rfl) (by decide) ?_
        refine ww_aload_n C dL_law_622 rfl 2 rfl ?_
        refine ww_aload_n C dL_law_623 rfl 3 rfl ?_
        refine ww_iload_n C dL_law_624 rfl 0 rfl ?_
        refine ww_iconst (v := 1) C dL_law_625 (by decide) ?_
        refine ww_iadd C dL_law_626 ?_
        refine ww_sld C hX hbl hin1 dL_law_627 ?_
        refine ww_aload_n C dL_law_628 rfl 3 rfl ?_
        refine ww_iload_n C dL_law_629 rfl 0 rfl ?_
        refine ww_iconst (v := 2) C dL_law_630 (by decide) ?_
        refine ww_iadd C dL_law_631 ?_
        refine ww_sld C hX hbl hin2 dL_law_632 ?_
        refine ww_aload_n C dL_law_633 rfl 3 rfl ?_
        refine ww_iload_n C dL_law_634 rfl 0 rfl ?_
        refine ww_iconst (v := 3) C dL_law_635 (by decide) ?_
        refine ww_iadd C dL_law_636 ?_
        refine ww_sld C hX hbl hin3 dL_law_637 ?_
        refine ww_swap ?_
        refine ww_callFR (As := [.int (xs (nI i + 1).toNatClampNeg), .int (xs (nI i + 2).toNatClampNeg), .int (xs (nI i + 3).toNatClampNeg)]) (rest := []) (wr := wM ad2 cI cZ v) (wc := wH ad cI cZ u) C (Along.of EH_ok C.2.2.2.2.1) (c_X11_off (hM.2.2.2.2.2.2.2.2.2.2.2.2.1 u v _ _ _ hR)) tb_3_84 tb_3_85 tb_3_86 tb_1_1 tb_3_87 rfl rfl ⟨rfl, hd_X11_off⟩ ⟨Nat.le_of_ble_eq_true rfl, Nat.le_of_ble_eq_true rfl⟩ rfl HF_0_0 rfl rfl rfl (Nat.le_of_ble_eq_true rfl) dL_law_638 ⟨Nat.le_of_ble_eq_true rfl, Nat.le_of_ble_eq_true rfl⟩ (fun r u1 h => ?_)
        refine ww_swap ?_
        refine ww_aload_n C dL_law_641 rfl 1 rfl ?_
        refine ww_aload_n C dL_law_642 rfl 3 rfl ?_
        refine ww_iload_n C dL_law_643 rfl 0 rfl ?_
        refine ww_iconst (v := 1) C dL_law_644 (by decide) ?_
        refine ww_iadd C dL_law_645 ?_
        refine ww_sld C hX hbl hin1 dL_law_646 ?_
        refine ww_aload_n C dL_law_647 rfl 3 rfl ?_
        refine ww_iload_n C dL_law_648 rfl 0 rfl ?_
        refine ww_iconst (v := 2) C dL_law_649 (by decide) ?_
        refine ww_iadd C dL_law_650 ?_
        refine ww_sld C hX hbl hin2 dL_law_651 ?_
        refine ww_aload_n C dL_law_652 rfl 3 rfl ?_
        refine ww_iload_n C dL_law_653 rfl 0 rfl ?_
        refine ww_iconst (v := 3) C dL_law_654 (by decide) ?_
        refine ww_iadd C dL_law_655 ?_
        refine ww_sld C hX hbl hin3 dL_law_656 ?_
        refine ww_callFR (As := [.int (xs (nI i + 1).toNatClampNeg), .int (xs (nI i + 2).toNatClampNeg), .int (xs (nI i + 3).toNatClampNeg)]) (rest := [.int r]) (wr := wH ad cI cZ u1) (wc := wM ad2 cI cZ v) C (Along.of EM_ok trivial) (c_X12_off h) tb_5_49 tb_5_50 tb_5_51 tb_1_13 tb_5_52 rfl rfl ⟨rfl, hd_X12_off⟩ ⟨Nat.le_of_ble_eq_true rfl, Nat.le_of_ble_eq_true rfl⟩ rfl MF_0_0 rfl rfl rfl (Nat.le_of_ble_eq_true rfl) dL_law_657 ⟨Nat.le_of_ble_eq_true rfl, Nat.le_of_ble_eq_true rfl⟩ (fun r2 v1 h => ?_)
        refine ww_icmp_eq (tgt := 932) C dL_law_660 (by decide) (fun _ => ?_) (fun hc => absurd h.1 hc)
        exact back ad ad2 u1 v1 h.2
      by_cases hs13 : sel = 13
      · refine ww_tableIn (off := 632) (tgt := 665) C dL_law_33 (by rw [hs13]; decide) (by rw [hs13]; decide) (by rw [hs13]; rfl) (by decide) ?_
        refine ww_aload_n C dL_law_665 rfl 2 rfl ?_
        refine ww_aload_n C dL_law_666 rfl 3 rfl ?_
        refine ww_iload_n C dL_law_667 rfl 0 rfl ?_
        refine ww_iconst (v := 1) C dL_law_668 (by decide) ?_
        refine ww_iadd C dL_law_669 ?_
        refine ww_sld C hX hbl hin1 dL_law_670 ?_
        refine ww_aload_n C dL_law_671 rfl 3 rfl ?_
        refine ww_iload_n C dL_law_672 rfl 0 rfl ?_
        refine ww_iconst (v := 2) C dL_law_673 (by decide) ?_
        refine ww_iadd C dL_law_674 ?_
        refine ww_sld C hX hbl hin2 dL_law_675 ?_
        refine ww_aload_n C dL_law_676 rfl 3 rfl ?_
        refine ww_iload_n C dL_law_677 rfl 0 rfl ?_
        refine ww_iconst (v := 3) C dL_law_678 (by decide) ?_
        refine ww_iadd C dL_law_679 ?_
        refine ww_sld C hX hbl hin3 dL_law_680 ?_
        refine ww_aload_n C dL_law_681 rfl 3 rfl ?_
        refine ww_iload_n C dL_law_682 rfl 0 rfl ?_
        refine ww_iconst (v := 4) C dL_law_683 (by decide) ?_
        refine ww_iadd C dL_law_684 ?_
        refine ww_sld C hX hbl hin4 dL_law_685 ?_
        refine ww_aload_n C dL_law_686 rfl 3 rfl ?_
        refine ww_iload_n C dL_law_687 rfl 0 rfl ?_
        refine ww_iconst (v := 5) C dL_law_688 (by decide) ?_
        refine ww_iadd C dL_law_689 ?_
        refine ww_sld C hX hbl hin5 dL_law_690 ?_
        refine ww_swap ?_
        refine ww_callFR (As := [.int (xs (nI i + 1).toNatClampNeg), .int (xs (nI i + 2).toNatClampNeg), .int (xs (nI i + 3).toNatClampNeg), .int (xs (nI i + 4).toNatClampNeg), .int (xs (nI i + 5).toNatClampNeg)]) (rest := []) (wr := wM ad2 cI cZ v) (wc := wH ad cI cZ u) C (Along.of EH_ok C.2.2.2.2.1) (c_X11_feed (hM.2.2.2.2.2.2.2.2.2.2.2.2.2.1 u v _ _ _ _ _ hR)) tb_3_93 tb_3_94 tb_3_95 tb_1_1 tb_3_96 rfl rfl ⟨rfl, hd_X11_feed⟩ ⟨Nat.le_of_ble_eq_true rfl, Nat.le_of_ble_eq_true rfl⟩ rfl HF_0_0 rfl rfl rfl (Nat.le_of_ble_eq_true rfl) dL_law_691 ⟨Nat.le_of_ble_eq_true rfl, Nat.le_of_ble_eq_true rfl⟩ (fun r u1 h => ?_)
        refine ww_swap ?_
        refine ww_aload_n C dL_law_694 rfl 1 rfl ?_
        refine ww_aload_n C dL_law_695 rfl 3 rfl ?_
        refine ww_iload_n C dL_law_696 rfl 0 rfl ?_
        refine ww_iconst (v := 1) C dL_law_697 (by decide) ?_
        refine ww_iadd C dL_law_698 ?_
        refine ww_sld C hX hbl hin1 dL_law_699 ?_
        refine ww_aload_n C dL_law_700 rfl 3 rfl ?_
        refine ww_iload_n C dL_law_701 rfl 0 rfl ?_
        refine ww_iconst (v := 2) C dL_law_702 (by decide) ?_
        refine ww_iadd C dL_law_703 ?_
        refine ww_sld C hX hbl hin2 dL_law_704 ?_
        refine ww_aload_n C dL_law_705 rfl 3 rfl ?_
        refine ww_iload_n C dL_law_706 rfl 0 rfl ?_
        refine ww_iconst (v := 3) C dL_law_707 (by decide) ?_
        refine ww_iadd C dL_law_708 ?_
        refine ww_sld C hX hbl hin3 dL_law_709 ?_
        refine ww_aload_n C dL_law_710 rfl 3 rfl ?_
        refine ww_iload_n C dL_law_711 rfl 0 rfl ?_
        refine ww_iconst (v := 4) C dL_law_712 (by decide) ?_
        refine ww_iadd C dL_law_713 ?_
        refine ww_sld C hX hbl hin4 dL_law_714 ?_
        refine ww_aload_n C dL_law_715 rfl 3 rfl ?_
        refine ww_iload_n C dL_law_716 rfl 0 rfl ?_
        refine ww_iconst (v := 5) C dL_law_717 (by decide) ?_
        refine ww_iadd C dL_law_718 ?_
        refine ww_sld C hX hbl hin5 dL_law_719 ?_
        refine ww_callFR (As := [.int (xs (nI i + 1).toNatClampNeg), .int (xs (nI i + 2).toNatClampNeg), .int (xs (nI i + 3).toNatClampNeg), .int (xs (nI i + 4).toNatClampNeg), .int (xs (nI i + 5).toNatClampNeg)]) (rest := [.int r]) (wr := wH ad cI cZ u1) (wc := wM ad2 cI cZ v) C (Along.of EM_ok trivial) (c_X12_feed h) tb_5_57 tb_5_58 tb_5_59 tb_1_13 tb_5_60 rfl rfl ⟨rfl, hd_X12_feed⟩ ⟨Nat.le_of_ble_eq_true rfl, Nat.le_of_ble_eq_true rfl⟩ rfl MF_0_0 rfl rfl rfl (Nat.le_of_ble_eq_true rfl) dL_law_720 ⟨Nat.le_of_ble_eq_true rfl, Nat.le_of_ble_eq_true rfl⟩ (fun r2 v1 h => ?_)
        refine ww_icmp_eq (tgt := 932) C dL_law_723 (by decide) (fun _ => ?_) (fun hc => absurd h.1 hc)
        exact back ad ad2 u1 v1 h.2
      by_cases hs14 : sel = 14
      · refine ww_tableIn (off := 695) (tgt := 728) C dL_law_33 (by rw [hs14]; decide) (by rw [hs14]; decide) (by rw [hs14]; rfl) (by decide) ?_
        refine ww_aload_n C dL_law_728 rfl 2 rfl ?_
        refine ww_aload_n C dL_law_729 rfl 3 rfl ?_
        refine ww_iload_n C dL_law_730 rfl 0 rfl ?_
        refine ww_iconst (v := 1) C dL_law_731 (by decide) ?_
        refine ww_iadd C dL_law_732 ?_
        refine ww_sld C hX hbl hin1 dL_law_733 ?_
        refine ww_swap ?_
        refine ww_callFR (As := [.int (xs (nI i + 1).toNatClampNeg)]) (rest := []) (wr := wM ad2 cI cZ v) (wc := wH ad cI cZ u) C (Along.of EH_ok C.2.2.2.2.1) (c_X11_end (hM.2.2.2.2.2.2.2.2.2.2.2.2.2.2.1 u v _ hR)) tb_3_106 tb_3_107 tb_3_108 tb_1_1 tb_3_109 rfl rfl ⟨rfl, hd_X11_end⟩ ⟨Nat.le_of_ble_eq_true rfl, Nat.le_of_ble_eq_true rfl⟩ rfl HF_0_0 rfl rfl rfl (Nat.le_of_ble_eq_true rfl) dL_law_734 ⟨Nat.le_of_ble_eq_true rfl, Nat.le_of_ble_eq_true rfl⟩ (fun r u1 h => ?_)
        refine ww_swap ?_
        refine ww_aload_n C dL_law_737 rfl 1 rfl ?_
        refine ww_aload_n C dL_law_738 rfl 3 rfl ?_
        refine ww_iload_n C dL_law_739 rfl 0 rfl ?_
        refine ww_iconst (v := 1) C dL_law_740 (by decide) ?_
        refine ww_iadd C dL_law_741 ?_
        refine ww_sld C hX hbl hin1 dL_law_742 ?_
        refine ww_callFR (As := [.int (xs (nI i + 1).toNatClampNeg)]) (rest := [.int r]) (wr := wH ad cI cZ u1) (wc := wM ad2 cI cZ v) C (Along.of EM_ok trivial) (c_X12_end h) tb_5_65 tb_5_66 tb_5_67 tb_1_13 tb_5_68 rfl rfl ⟨rfl, hd_X12_end⟩ ⟨Nat.le_of_ble_eq_true rfl, Nat.le_of_ble_eq_true rfl⟩ rfl MF_0_0 rfl rfl rfl (Nat.le_of_ble_eq_true rfl) dL_law_743 ⟨Nat.le_of_ble_eq_true rfl, Nat.le_of_ble_eq_true rfl⟩ (fun r2 v1 h => ?_)
        refine ww_icmp_eq (tgt := 932) C dL_law_746 (by decide) (fun _ => ?_) (fun hc => absurd h.1 hc)
        exact back ad ad2 u1 v1 h.2
      by_cases hs15 : sel = 15
      · refine ww_tableIn (off := 718) (tgt := 751) C dL_law_33 (by rw [hs15]; decide) (by rw [hs15]; decide) (by rw [hs15]; rfl) (by decide) ?_
        refine ww_aload_n C dL_law_751 rfl 2 rfl ?_
        refine ww_swap ?_
        refine ww_callFR (As := []) (rest := []) (wr := wM ad2 cI cZ v) (wc := wH ad cI cZ u) C (Along.of EH_ok C.2.2.2.2.1) (c_X11_rules (hM.2.2.2.2.2.2.2.2.2.2.2.2.2.2.2.1 u v  hR)) tb_3_110 tb_3_111 tb_3_112 tb_1_1 tb_3_113 rfl rfl ⟨rfl, hd_X11_rules⟩ ⟨Nat.le_of_ble_eq_true rfl, Nat.le_of_ble_eq_true rfl⟩ rfl HF_0_0 rfl rfl rfl (Nat.le_of_ble_eq_true rfl) dL_law_752 ⟨Nat.le_of_ble_eq_true rfl, Nat.le_of_ble_eq_true rfl⟩ (fun r z h => ?_)
        obtain ⟨fl, u1⟩ := z
        refine ww_ws (ws' := wM ad2 cI cZ v ++ wH (cond fl (swA ad) ad) cI cZ u1) rfl ?_
        have had : (cond fl (swA ad) ad) 0 = ad 0 := by cases fl <;> rfl
        generalize cond fl (swA ad) ad = ad at had ⊢
        rw [← had]
        refine ww_swap ?_
        refine ww_aload_n C dL_law_755 rfl 1 rfl ?_
        refine ww_callFR (As := []) (rest := [.int r]) (wr := wH ad cI cZ u1) (wc := wM ad2 cI cZ v) C (Along.of EM_ok trivial) (c_X12_rules h) tb_5_69 tb_5_70 tb_5_71 tb_1_13 tb_5_72 rfl rfl ⟨rfl, hd_X12_rules⟩ ⟨Nat.le_of_ble_eq_true rfl, Nat.le_of_ble_eq_true rfl⟩ rfl MF_0_0 rfl rfl rfl (Nat.le_of_ble_eq_true rfl) dL_law_756 ⟨Nat.le_of_ble_eq_true rfl, Nat.le_of_ble_eq_true rfl⟩ (fun r2 v1 h => ?_)
        refine ww_icmp_eq (tgt := 932) C dL_law_759 (by decide) (fun _ => ?_) (fun hc => absurd h.1 hc)
        exact back ad ad2 u1 v1 h.2
      by_cases hs16 : sel = 16
      · refine ww_tableIn (off := 731) (tgt := 764) C dL_law_33 (by rw [hs16]; decide) (by rw [hs16]; decide) (by rw [hs16]; rfl) (by decide) ?_
        refine ww_aload_n C dL_law_764 rfl 2 rfl ?_
        refine ww_swap ?_
        refine ww_callFR (As := []) (rest := []) (wr := wM ad2 cI cZ v) (wc := wH ad cI cZ u) C (Along.of EH_ok C.2.2.2.2.1) (c_X11_fault (hM.2.2.2.2.2.2.2.2.2.2.2.2.2.2.2.2.1 u v  hR)) tb_3_214 tb_3_215 tb_3_216 tb_1_1 tb_3_217 rfl rfl ⟨rfl, hd_X11_fault⟩ ⟨Nat.le_of_ble_eq_true rfl, Nat.le_of_ble_eq_true rfl⟩ rfl HF_0_0 rfl rfl rfl (Nat.le_of_ble_eq_true rfl) dL_law_765 ⟨Nat.le_of_ble_eq_true rfl, Nat.le_of_ble_eq_true rfl⟩ (fun r u1 h => ?_)
        refine ww_swap ?_
        refine ww_aload_n C dL_law_768 rfl 1 rfl ?_
        refine ww_callFR (As := []) (rest := [.int r]) (wr := wH ad cI cZ u1) (wc := wM ad2 cI cZ v) C (Along.of EM_ok trivial) (c_X12_fault h) tb_5_104 tb_5_105 tb_5_106 tb_1_13 tb_5_107 rfl rfl ⟨rfl, hd_X12_fault⟩ ⟨Nat.le_of_ble_eq_true rfl, Nat.le_of_ble_eq_true rfl⟩ rfl MF_0_0 rfl rfl rfl (Nat.le_of_ble_eq_true rfl) dL_law_769 ⟨Nat.le_of_ble_eq_true rfl, Nat.le_of_ble_eq_true rfl⟩ (fun r2 v1 h => ?_)
        refine ww_icmp_eq (tgt := 932) C dL_law_772 (by decide) (fun _ => ?_) (fun hc => absurd h.1 hc)
        exact back ad ad2 u1 v1 h.2
      by_cases hs17 : sel = 17
      · refine ww_tableIn (off := 744) (tgt := 777) C dL_law_33 (by rw [hs17]; decide) (by rw [hs17]; decide) (by rw [hs17]; rfl) (by decide) ?_
        refine ww_aload_n C dL_law_777 rfl 2 rfl ?_
        refine ww_aload_n C dL_law_778 rfl 3 rfl ?_
        refine ww_iload_n C dL_law_779 rfl 0 rfl ?_
        refine ww_iconst (v := 1) C dL_law_780 (by decide) ?_
        refine ww_iadd C dL_law_781 ?_
        refine ww_sld C hX hbl hin1 dL_law_782 ?_
        refine ww_aload_n C dL_law_783 rfl 3 rfl ?_
        refine ww_iload_n C dL_law_784 rfl 0 rfl ?_
        refine ww_iconst (v := 2) C dL_law_785 (by decide) ?_
        refine ww_iadd C dL_law_786 ?_
        refine ww_sld C hX hbl hin2 dL_law_787 ?_
        refine ww_aload_n C dL_law_788 rfl 3 rfl ?_
        refine ww_iload_n C dL_law_789 rfl 0 rfl ?_
        refine ww_iconst (v := 3) C dL_law_790 (by decide) ?_
        refine ww_iadd C dL_law_791 ?_
        refine ww_sld C hX hbl hin3 dL_law_792 ?_
        refine ww_aload_n C dL_law_793 rfl 3 rfl ?_
        refine ww_iload_n C dL_law_794 rfl 0 rfl ?_
        refine ww_iconst (v := 4) C dL_law_795 (by decide) ?_
        refine ww_iadd C dL_law_796 ?_
        refine ww_sld C hX hbl hin4 dL_law_797 ?_
        refine ww_swap ?_
        refine ww_callFR (As := [.int (xs (nI i + 1).toNatClampNeg), .int (xs (nI i + 2).toNatClampNeg), .int (xs (nI i + 3).toNatClampNeg), .int (xs (nI i + 4).toNatClampNeg)]) (rest := []) (wr := wM ad2 cI cZ v) (wc := wH ad cI cZ u) C (Along.of EH_ok C.2.2.2.2.1) (c_X11_claim (hM.2.2.2.2.2.2.2.2.2.2.2.2.2.2.2.2.2.1 u v _ _ _ _ hR)) tb_3_218 tb_3_219 tb_3_220 tb_1_1 tb_3_221 rfl rfl ⟨rfl, hd_X11_claim⟩ ⟨Nat.le_of_ble_eq_true rfl, Nat.le_of_ble_eq_true rfl⟩ rfl HF_0_0 rfl rfl rfl (Nat.le_of_ble_eq_true rfl) dL_law_798 ⟨Nat.le_of_ble_eq_true rfl, Nat.le_of_ble_eq_true rfl⟩ (fun r u1 h => ?_)
        refine ww_swap ?_
        refine ww_aload_n C dL_law_801 rfl 1 rfl ?_
        refine ww_aload_n C dL_law_802 rfl 3 rfl ?_
        refine ww_iload_n C dL_law_803 rfl 0 rfl ?_
        refine ww_iconst (v := 1) C dL_law_804 (by decide) ?_
        refine ww_iadd C dL_law_805 ?_
        refine ww_sld C hX hbl hin1 dL_law_806 ?_
        refine ww_aload_n C dL_law_807 rfl 3 rfl ?_
        refine ww_iload_n C dL_law_808 rfl 0 rfl ?_
        refine ww_iconst (v := 2) C dL_law_809 (by decide) ?_
        refine ww_iadd C dL_law_810 ?_
        refine ww_sld C hX hbl hin2 dL_law_811 ?_
        refine ww_aload_n C dL_law_812 rfl 3 rfl ?_
        refine ww_iload_n C dL_law_813 rfl 0 rfl ?_
        refine ww_iconst (v := 3) C dL_law_814 (by decide) ?_
        refine ww_iadd C dL_law_815 ?_
        refine ww_sld C hX hbl hin3 dL_law_816 ?_
        refine ww_aload_n C dL_law_817 rfl 3 rfl ?_
        refine ww_iload_n C dL_law_818 rfl 0 rfl ?_
        refine ww_iconst (v := 4) C dL_law_819 (by decide) ?_
        refine ww_iadd C dL_law_820 ?_
        refine ww_sld C hX hbl hin4 dL_law_821 ?_
        refine ww_callFR (As := [.int (xs (nI i + 1).toNatClampNeg), .int (xs (nI i + 2).toNatClampNeg), .int (xs (nI i + 3).toNatClampNeg), .int (xs (nI i + 4).toNatClampNeg)]) (rest := [.int r]) (wr := wH ad cI cZ u1) (wc := wM ad2 cI cZ v) C (Along.of EM_ok trivial) (c_X12_claim h) tb_5_108 tb_5_109 tb_5_110 tb_1_13 tb_5_111 rfl rfl ⟨rfl, hd_X12_claim⟩ ⟨Nat.le_of_ble_eq_true rfl, Nat.le_of_ble_eq_true rfl⟩ rfl MF_0_0 rfl rfl rfl (Nat.le_of_ble_eq_true rfl) dL_law_822 ⟨Nat.le_of_ble_eq_true rfl, Nat.le_of_ble_eq_true rfl⟩ (fun r2 v1 h => ?_)
        refine ww_icmp_eq (tgt := 932) C dL_law_825 (by decide) (fun _ => ?_) (fun hc => absurd h.1 hc)
        exact back ad ad2 u1 v1 h.2
      by_cases hs18 : sel = 18
      · refine ww_tableIn (off := 797) (tgt := 830) C dL_law_33 (by rw [hs18]; decide) (by rw [hs18]; decide) (by rw [hs18]; rfl) (by decide) ?_
        refine ww_aload_n C dL_law_830 rfl 2 rfl ?_
        refine ww_aload_n C dL_law_831 rfl 3 rfl ?_
        refine ww_iload_n C dL_law_832 rfl 0 rfl ?_
        refine ww_iconst (v := 1) C dL_law_833 (by decide) ?_
        refine ww_iadd C dL_law_834 ?_
        refine ww_sld C hX hbl hin1 dL_law_835 ?_
        refine ww_aload_n C dL_law_836 rfl 3 rfl ?_
        refine ww_iload_n C dL_law_837 rfl 0 rfl ?_
        refine ww_iconst (v := 2) C dL_law_838 (by decide) ?_
        refine ww_iadd C dL_law_839 ?_
        refine ww_sld C hX hbl hin2 dL_law_840 ?_
        refine ww_swap ?_
        refine ww_callFR (As := [.int (xs (nI i + 1).toNatClampNeg), .int (xs (nI i + 2).toNatClampNeg)]) (rest := []) (wr := wM ad2 cI cZ v) (wc := wH ad cI cZ u) C (Along.of EH_ok C.2.2.2.2.1) (c_X11_judged (hM.2.2.2.2.2.2.2.2.2.2.2.2.2.2.2.2.2.2.1 u v _ _ hR)) tb_3_227 tb_3_228 tb_3_229 tb_1_1 tb_3_230 rfl rfl ⟨rfl, hd_X11_judged⟩ ⟨Nat.le_of_ble_eq_true rfl, Nat.le_of_ble_eq_true rfl⟩ rfl HF_0_0 rfl rfl rfl (Nat.le_of_ble_eq_true rfl) dL_law_841 ⟨Nat.le_of_ble_eq_true rfl, Nat.le_of_ble_eq_true rfl⟩ (fun r u1 h => ?_)
        refine ww_swap ?_
        refine ww_aload_n C dL_law_844 rfl 1 rfl ?_
        refine ww_aload_n C dL_law_845 rfl 3 rfl ?_
        refine ww_iload_n C dL_law_846 rfl 0 rfl ?_
        refine ww_iconst (v := 1) C dL_law_847 (by decide) ?_
        refine ww_iadd C dL_law_848 ?_
        refine ww_sld C hX hbl hin1 dL_law_849 ?_
        refine ww_aload_n C dL_law_850 rfl 3 rfl ?_
        refine ww_iload_n C dL_law_851 rfl 0 rfl ?_
        refine ww_iconst (v := 2) C dL_law_852 (by decide) ?_
        refine ww_iadd C dL_law_853 ?_
        refine ww_sld C hX hbl hin2 dL_law_854 ?_
        refine ww_callFR (As := [.int (xs (nI i + 1).toNatClampNeg), .int (xs (nI i + 2).toNatClampNeg)]) (rest := [.int r]) (wr := wH ad cI cZ u1) (wc := wM ad2 cI cZ v) C (Along.of EM_ok trivial) (c_X12_judged h) tb_5_113 tb_5_114 tb_5_115 tb_1_13 tb_5_116 rfl rfl ⟨rfl, hd_X12_judged⟩ ⟨Nat.le_of_ble_eq_true rfl, Nat.le_of_ble_eq_true rfl⟩ rfl MF_0_0 rfl rfl rfl (Nat.le_of_ble_eq_true rfl) dL_law_855 ⟨Nat.le_of_ble_eq_true rfl, Nat.le_of_ble_eq_true rfl⟩ (fun r2 v1 h => ?_)
        refine ww_icmp_eq (tgt := 932) C dL_law_858 (by decide) (fun _ => ?_) (fun hc => absurd h.1 hc)
        exact back ad ad2 u1 v1 h.2
      by_cases hs19 : sel = 19
      · refine ww_tableIn (off := 830) (tgt := 863) C dL_law_33 (by rw [hs19]; decide) (by rw [hs19]; decide) (by rw [hs19]; rfl) (by decide) ?_
        refine ww_aload_n C dL_law_863 rfl 2 rfl ?_
        refine ww_aload_n C dL_law_864 rfl 3 rfl ?_
        refine ww_iload_n C dL_law_865 rfl 0 rfl ?_
        refine ww_iconst (v := 1) C dL_law_866 (by decide) ?_
        refine ww_iadd C dL_law_867 ?_
        refine ww_sld C hX hbl hin1 dL_law_868 ?_
        refine ww_aload_n C dL_law_869 rfl 3 rfl ?_
        refine ww_iload_n C dL_law_870 rfl 0 rfl ?_
        refine ww_iconst (v := 2) C dL_law_871 (by decide) ?_
        refine ww_iadd C dL_law_872 ?_
        refine ww_sld C hX hbl hin2 dL_law_873 ?_
        refine ww_swap ?_
        refine ww_callFR (As := [.int (xs (nI i + 1).toNatClampNeg), .int (xs (nI i + 2).toNatClampNeg)]) (rest := []) (wr := wM ad2 cI cZ v) (wc := wH ad cI cZ u) C (Along.of EH_ok C.2.2.2.2.1) (c_X11_quarrel (hM.2.2.2.2.2.2.2.2.2.2.2.2.2.2.2.2.2.2.2.1 u v _ _ hR)) tb_4_10 tb_4_11 tb_4_12 tb_1_1 tb_4_13 rfl rfl ⟨rfl, hd_X11_quarrel⟩ ⟨Nat.le_of_ble_eq_true rfl, Nat.le_of_ble_eq_true rfl⟩ rfl HF_0_0 rfl rfl rfl (Nat.le_of_ble_eq_true rfl) dL_law_874 ⟨Nat.le_of_ble_eq_true rfl, Nat.le_of_ble_eq_true rfl⟩ (fun r u1 h => ?_)
        refine ww_swap ?_
        refine ww_aload_n C dL_law_877 rfl 1 rfl ?_
        refine ww_aload_n C dL_law_878 rfl 3 rfl ?_
        refine ww_iload_n C dL_law_879 rfl 0 rfl ?_
        refine ww_iconst (v := 1) C dL_law_880 (by decide) ?_
        refine ww_iadd C dL_law_881 ?_
        refine ww_sld C hX hbl hin1 dL_law_882 ?_
        refine ww_aload_n C dL_law_883 rfl 3 rfl ?_
        refine ww_iload_n C dL_law_884 rfl 0 rfl ?_
        refine ww_iconst (v := 2) C dL_law_885 (by decide) ?_
        refine ww_iadd C dL_law_886 ?_
        refine ww_sld C hX hbl hin2 dL_law_887 ?_
        refine ww_callFR (As := [.int (xs (nI i + 1).toNatClampNeg), .int (xs (nI i + 2).toNatClampNeg)]) (rest := [.int r]) (wr := wH ad cI cZ u1) (wc := wM ad2 cI cZ v) C (Along.of EM_ok trivial) (c_X12_quarrel h) tb_5_117 tb_5_118 tb_5_119 tb_1_13 tb_5_120 rfl rfl ⟨rfl, hd_X12_quarrel⟩ ⟨Nat.le_of_ble_eq_true rfl, Nat.le_of_ble_eq_true rfl⟩ rfl MF_0_0 rfl rfl rfl (Nat.le_of_ble_eq_true rfl) dL_law_888 ⟨Nat.le_of_ble_eq_true rfl, Nat.le_of_ble_eq_true rfl⟩ (fun r2 v1 h => ?_)
        refine ww_icmp_eq (tgt := 932) C dL_law_891 (by decide) (fun _ => ?_) (fun hc => absurd h.1 hc)
        exact back ad ad2 u1 v1 h.2
      by_cases hs20 : sel = 20
      · refine ww_tableIn (off := 863) (tgt := 896) C dL_law_33 (by rw [hs20]; decide) (by rw [hs20]; decide) (by rw [hs20]; rfl) (by decide) ?_
        refine ww_aload_n C dL_law_896 rfl 2 rfl ?_
        refine ww_aload_n C dL_law_897 rfl 3 rfl ?_
        refine ww_iload_n C dL_law_898 rfl 0 rfl ?_
        refine ww_iconst (v := 1) C dL_law_899 (by decide) ?_
        refine ww_iadd C dL_law_900 ?_
        refine ww_sld C hX hbl hin1 dL_law_901 ?_
        refine ww_swap ?_
        refine ww_callFR (As := [.int (xs (nI i + 1).toNatClampNeg)]) (rest := []) (wr := wM ad2 cI cZ v) (wc := wH ad cI cZ u) C (Along.of EH_ok C.2.2.2.2.1) (c_X11_count (hM.2.2.2.2.2.2.2.2.2.2.2.2.2.2.2.2.2.2.2.2.1 u v _ hR)) tb_4_18 tb_4_19 tb_4_20 tb_1_1 tb_4_21 rfl rfl ⟨rfl, hd_X11_count⟩ ⟨Nat.le_of_ble_eq_true rfl, Nat.le_of_ble_eq_true rfl⟩ rfl HF_0_0 rfl rfl rfl (Nat.le_of_ble_eq_true rfl) dL_law_902 ⟨Nat.le_of_ble_eq_true rfl, Nat.le_of_ble_eq_true rfl⟩ (fun r u1 h => ?_)
        refine ww_swap ?_
        refine ww_aload_n C dL_law_905 rfl 1 rfl ?_
        refine ww_aload_n C dL_law_906 rfl 3 rfl ?_
        refine ww_iload_n C dL_law_907 rfl 0 rfl ?_
        refine ww_iconst (v := 1) C dL_law_908 (by decide) ?_
        refine ww_iadd C dL_law_909 ?_
        refine ww_sld C hX hbl hin1 dL_law_910 ?_
        refine ww_callFR (As := [.int (xs (nI i + 1).toNatClampNeg)]) (rest := [.int r]) (wr := wH ad cI cZ u1) (wc := wM ad2 cI cZ v) C (Along.of EM_ok trivial) (c_X12_count h) tb_5_121 tb_5_122 tb_5_123 tb_1_13 tb_5_124 rfl rfl ⟨rfl, hd_X12_count⟩ ⟨Nat.le_of_ble_eq_true rfl, Nat.le_of_ble_eq_true rfl⟩ rfl MF_0_0 rfl rfl rfl (Nat.le_of_ble_eq_true rfl) dL_law_911 ⟨Nat.le_of_ble_eq_true rfl, Nat.le_of_ble_eq_true rfl⟩ (fun r2 v1 h => ?_)
        refine ww_icmp_eq (tgt := 932) C dL_law_914 (by decide) (fun _ => ?_) (fun hc => absurd h.1 hc)
        exact back ad ad2 u1 v1 h.2
      by_cases hs21 : sel = 21
      · refine ww_tableIn (off := 886) (tgt := 919) C dL_law_33 (by rw [hs21]; decide) (by rw [hs21]; decide) (by rw [hs21]; rfl) (by decide) ?_
        refine ww_aload_n C dL_law_919 rfl 2 rfl ?_
        refine ww_swap ?_
        refine ww_callFR (As := []) (rest := []) (wr := wM ad2 cI cZ v) (wc := wH ad cI cZ u) C (Along.of EH_ok C.2.2.2.2.1) (c_X11_status (hM.2.2.2.2.2.2.2.2.2.2.2.2.2.2.2.2.2.2.2.2.2 u v  hR)) tb_4_26 tb_4_27 tb_4_28 tb_1_1 tb_4_29 rfl rfl ⟨rfl, hd_X11_status⟩ ⟨Nat.le_of_ble_eq_true rfl, Nat.le_of_ble_eq_true rfl⟩ rfl HF_0_0 rfl rfl rfl (Nat.le_of_ble_eq_true rfl) dL_law_920 ⟨Nat.le_of_ble_eq_true rfl, Nat.le_of_ble_eq_true rfl⟩ (fun r u1 h => ?_)
        refine ww_swap ?_
        refine ww_aload_n C dL_law_923 rfl 1 rfl ?_
        refine ww_callFR (As := []) (rest := [.int r]) (wr := wH ad cI cZ u1) (wc := wM ad2 cI cZ v) C (Along.of EM_ok trivial) (c_X12_status h) tb_5_125 tb_5_126 tb_5_127 tb_1_13 tb_5_128 rfl rfl ⟨rfl, hd_X12_status⟩ ⟨Nat.le_of_ble_eq_true rfl, Nat.le_of_ble_eq_true rfl⟩ rfl MF_0_0 rfl rfl rfl (Nat.le_of_ble_eq_true rfl) dL_law_924 ⟨Nat.le_of_ble_eq_true rfl, Nat.le_of_ble_eq_true rfl⟩ (fun r2 v1 h => ?_)
        refine ww_icmp_eq (tgt := 932) C dL_law_927 (by decide) (fun _ => ?_) (fun hc => absurd h.1 hc)
        exact back ad ad2 u1 v1 h.2
      refine ww_tableOut (tgt := 932) C dL_law_33 (by have a0 := sw_ne (k := 0) hs0 (by decide); have a1 := sw_ne (k := 1) hs1 (by decide); have a2 := sw_ne (k := 2) hs2 (by decide); have a3 := sw_ne (k := 3) hs3 (by decide); have a4 := sw_ne (k := 4) hs4 (by decide); have a5 := sw_ne (k := 5) hs5 (by decide); have a6 := sw_ne (k := 6) hs6 (by decide); have a7 := sw_ne (k := 7) hs7 (by decide); have a8 := sw_ne (k := 8) hs8 (by decide); have a9 := sw_ne (k := 9) hs9 (by decide); have a10 := sw_ne (k := 10) hs10 (by decide); have a11 := sw_ne (k := 11) hs11 (by decide); have a12 := sw_ne (k := 12) hs12 (by decide); have a13 := sw_ne (k := 13) hs13 (by decide); have a14 := sw_ne (k := 14) hs14 (by decide); have a15 := sw_ne (k := 15) hs15 (by decide); have a16 := sw_ne (k := 16) hs16 (by decide); have a17 := sw_ne (k := 17) hs17 (by decide); have a18 := sw_ne (k := 18) hs18 (by decide); have a19 := sw_ne (k := 19) hs19 (by decide); have a20 := sw_ne (k := 20) hs20 (by decide); have a21 := sw_ne (k := 21) hs21 (by decide); omega) (by decide) ?_
      exact back ad ad2 u v hR
theorem arr_K {args : Array Value} {s : State} {ty : FieldType} (h : (Cond.arrayClass ty).before args s = true) (hno : ∀ C0, ty ≠ .object C0) : ∃ cA : ClassId, ArrOfT s cA ty ∧ va_RA s cA ty := by
  obtain ⟨cA, kA, comp, h1, h2, h3⟩ := Cond.arrayClass_spec h
  refine ⟨cA, fun n z => ⟨fun k h => (by cases h), kA, h2, comp, h3⟩, ?_⟩
  cases ty <;> first | exact h1 | exact absurd rfl (hno _)
/-- what goes along, at the law's start -/
theorem law_E {p : Program} {s : State} {m : MethodId} {meth : Method} {c : Code} {b L : Nat} {xs : Nat → Int32} (C0 : lw_At p s m meth c b L xs) : ∃ kK kV : Nat → Nat, EH kK kV (fun q => s.heap.size ≤ q) s := by
  obtain ⟨hx, hb, hr, hml, hown, hts, hX, hbl, hlocks, hgv⟩ := C0
  have hfl := flat_of_before _ hgv
  have hA : ∀ a : Nat, a < s.heap.size → ¬ (fun q => s.heap.size ≤ q) a := fun a h => Nat.not_le.mpr h
  have hne : ∀ i j : Nat, i < 7 → j < 7 → i ≠ j → (Cond.not (Cond.eq (Term.string RX6 (idxS.getD i 0)) (Term.string RX6 (idxS.getD j 0)))).before #[Value.ref b] s = true ∨ (Cond.not (Cond.eq (Term.string RX6 (idxS.getD j 0)) (Term.string RX6 (idxS.getD i 0)))).before #[Value.ref b] s = true := by
    intro i j hi hj hij
    have key : ∀ i, i < 7 → ∀ j, j < 7 → i ≠ j → (Cond.not (Cond.eq (Term.string RX6 (idxS.getD i 0)) (Term.string RX6 (idxS.getD j 0)))) ∈ flatC (Jvm.Cond.and given_1 narrow_1) ∨ (Cond.not (Cond.eq (Term.string RX6 (idxS.getD j 0)) (Term.string RX6 (idxS.getD i 0)))) ∈ flatC (Jvm.Cond.and given_1 narrow_1) := by decide +kernel
    rcases key i hi j hj hij with h | h
    · exact Or.inl (hfl _ h)
    · exact Or.inr (hfl _ h)
  obtain ⟨kK, kV, hS, hE⟩ := vk_Sof (args := #[Value.ref b]) (s := s) (N := 7) (tm := fun i => Term.string RX6 (idxS.getD i 0)) (len := lenS) (byt := bytS) (A := fun q => s.heap.size ≤ q) (by decide) (fun i hi => hfl _ (by revert i; decide +kernel)) (fun i hi => hfl _ (by revert i; decide +kernel)) (fun i hi => hfl _ (by revert i; decide +kernel)) (fun i hi => hfl _ (by revert i; decide +kernel)) (fun i hi j hj => hfl _ (by revert j; revert i; decide +kernel)) hne hA
  refine ⟨kK, kV, fun w hw => ?_, hS, fun i hi => ?_, va_Zof (hts _ (ltT3 155 rfl)) (hts _ (ltT1 16 rfl)) (va_eqi (hfl _ (by decide +kernel))) hA, va_Zqof (hts _ (ltT3 171 rfl)) (hts _ (ltT1 18 rfl)) (hfl _ (by decide +kernel)) hA⟩
  · refine va_Nw.of ?_ (hts w ?_)
    · revert w; decide +kernel
    · revert w; decide +kernel
  · refine vk_R.of (hts _ ?_) (hE i hi)
    revert i; decide +kernel
theorem law_K {s : State} {args : Array Value} (hts : ∀ w ∈ TB, w.before args s = true) : ∃ (D : va_G) (cI cZ : ClassId), va_K D vwCl [(cI, .int), (cZ, .boolean)] s := by
  obtain ⟨c0, iS0, hKn0⟩ := u_known (C := RX0) (T := TX0) (N := 4) (n := 4) hts inX0 (hts _ tb_1_29)
  obtain ⟨c1, iS1, hKn1⟩ := u_known (C := RX1) (T := TX1) (N := 5) (n := 5) hts inX1 (hts _ tb_1_230)
  obtain ⟨c2, iS2, hKn2⟩ := u_known (C := RX2) (T := TX2) (N := 6) (n := 6) hts inX2 (hts _ tb_1_161)
  obtain ⟨c3, iS3, hKn3⟩ := u_known (C := RX3) (T := TX3) (N := 5) (n := 5) hts inX3 (hts _ tb_1_58)
  obtain ⟨c4, iS4, hKn4⟩ := u_known (C := RX4) (T := TX4) (N := 1) (n := 1) hts inX4 (hts _ tb_1_186)
  obtain ⟨c5, iS5, hKn5⟩ := u_known (C := RX5) (T := TX5) (N := 7) (n := 7) hts inX5 (hts _ tb_2_17)
  obtain ⟨c6, iS6, hKn6⟩ := u_known (C := RX6) (T := TX6) (N := 4) (n := 4) hts inX6 (hts _ tb_1_211)
  obtain ⟨c7, iS7, hKn7⟩ := u_known (C := RX7) (T := TX7) (N := 2) (n := 2) hts inX7 (hts _ tb_1_86)
  obtain ⟨c8, iS8, hKn8⟩ := u_known (C := RX8) (T := TX8) (N := 2) (n := 2) hts inX8 (hts _ tb_1_196)
  obtain ⟨c9, iS9, hKn9⟩ := u_known (C := RX9) (T := TX9) (N := 5) (n := 5) hts inX9 (hts _ tb_1_136)
  obtain ⟨c10, iS10, hKn10⟩ := u_known (C := RX10) (T := TX10) (N := 10) (n := 10) hts inX10 (hts _ tb_1_99)
  obtain ⟨c11, iS11, hKn11⟩ := u_known (C := RX11) (T := TX11) (N := 14) (n := 14) hts inX11 (hts _ tb_1_21)
  obtain ⟨c12, iS12, hKn12⟩ := u_known (C := RX12) (T := TX12) (N := 49) (n := 49) hts inX12 (hts _ tb_4_31)
  obtain ⟨cI, hI⟩ := arr_K (hts _ tb_1_56) noI
  obtain ⟨cZ, hZ⟩ := arr_K (hts _ tb_1_159) noZ
  refine ⟨(fun k => if k = 0 then c0 else if k = 1 then c1 else if k = 2 then c2 else if k = 3 then c3 else if k = 4 then c4 else if k = 5 then c5 else if k = 6 then c6 else if k = 7 then c7 else if k = 8 then c8 else if k = 9 then c9 else if k = 10 then c10 else if k = 11 then c11 else c12, fun k => if k = 0 then iS0 else if k = 1 then iS1 else if k = 2 then iS2 else if k = 3 then iS3 else if k = 4 then iS4 else if k = 5 then iS5 else if k = 6 then iS6 else if k = 7 then iS7 else if k = 8 then iS8 else if k = 9 then iS9 else if k = 10 then iS10 else if k = 11 then iS11 else iS12), cI, cZ, fun k q hq => ?_, fun k q hq => ?_⟩
  · match k, hq with
    | 0, hq => cases hq; exact hKn0
    | 1, hq => cases hq; exact hKn1
    | 2, hq => cases hq; exact hKn2
    | 3, hq => cases hq; exact hKn3
    | 4, hq => cases hq; exact hKn4
    | 5, hq => cases hq; exact hKn5
    | 6, hq => cases hq; exact hKn6
    | 7, hq => cases hq; exact hKn7
    | 8, hq => cases hq; exact hKn8
    | 9, hq => cases hq; exact hKn9
    | 10, hq => cases hq; exact hKn10
    | 11, hq => cases hq; exact hKn11
    | 12, hq => cases hq; exact hKn12
    | k + 13, hq => simp [vwCl] at hq
  · match k, hq with
    | 0, hq => cases hq; exact hI
    | 1, hq => cases hq; exact hZ
    | k + 2, hq => simp at hq
set_option maxRecDepth 100000 in
set_option maxHeartbeats 4000000 in
theorem law_start {p : Program} {e : Env} {s : State} {m : MethodId} {below : List Frame} {meth : Method} {c : Code} (l : Launch) {b L : Nat} {xs : Nat → Int32} {N : Nat} {Rel : UU → UU → Prop} (hM : Match N Rel) (hR0 : Rel u0H u0M) (hL : L ≤ 3072) (C0 : lw_At p s m meth c b L xs) : W p l e room_1 s m #[Value.ref b] below meth c s.heap [] 0 0 (lw_Z below #[Value.ref b] s) (entryFrame m ([Value.ref b] : List Value).toArray 4) := by
  obtain ⟨kK, kV, hE⟩ := law_E C0
  obtain ⟨hx, hb, hr, hml, hown, hts, hX, hbl, hlocks, hgv⟩ := C0
  have hts : ∀ w ∈ TB, w.before #[Value.ref b] s = true := fun w h => hts w (TB_tbl w h)
  obtain ⟨D, cI, cZ, hK⟩ := law_K hts
  have C : Cx p m c cL_law 4 s #[Value.ref b] RL meth ret (fun q => s.heap.size ≤ q) D [(cI, .int), (cZ, .boolean)] (EH kK kV) := ⟨⟨hx, hb, hml, hown, hts⟩, hr, hlocks, hK, hE, fun q h => h⟩
  have hl := lv_entry ([.ref b]) (n := 4) (Nat.le_of_ble_eq_true rfl)
  rw [lg_entry_eq]
  refine (?_ : WW p l e room_1 s m #[Value.ref b] below meth c 0 0 (lw_Z below #[Value.ref b] s) (fun q => s.heap.size ≤ q) D 4 0 [(0, .ref b)] [] []) s.heap [] _ hl (fun k q h => by simp at h) ⟨fun i j p q h => by simp at h, fun k q h => by simp at h⟩ va_S.rf
  refine ww_new (ci := 11) (fs := [.null, .null, .null, .null, .null, .null, .null, .null, .null, .null, .null, .null, .int 0, .int 0]) C inX11 rfl tyX11 tyX11_ok tb_1_20 tb_1_21 tb_1_1 (by decide) ⟨Nat.le_of_ble_eq_true rfl, Nat.le_of_ble_eq_true rfl⟩ dL_law_0 (fun qad => ?_)
  refine ww_dup C dL_law_3 rfl ?_
  refine ww_callI (As := []) (rest := [.ref qad]) (wr := []) C (Along.of EH_ok C.2.2.2.2.1) (c_X11_init (h0 := qad)) tb_1_22 tb_1_23 tb_1_1 tb_1_24 rfl rfl rfl hd_X11_init ⟨Nat.le_of_ble_eq_true rfl, Nat.le_of_ble_eq_true rfl⟩ rfl rfl rfl (Nat.le_of_ble_eq_true rfl) dL_law_4 ⟨Nat.le_of_ble_eq_true rfl, Nat.le_of_ble_eq_true rfl⟩ (fun ad had => ?_)
  refine ww_ws (ws' := wH ad cI cZ u0H) rfl ?_
  subst had
  refine ww_astore_n (i := 1) (lv' := [(1, .ref (ad 0)), (0, .ref b)]) C dL_law_7 rfl (by decide) rfl ?_
  refine ww_new (ci := 12) (fs := [.int 0, .int 0, .int 0, .null, .null, .null, .int 0, .null, .null, .null, .null, .null, .null, .null, .null, .null, .null, .null, .int 0, .null, .null, .null, .int 0, .int 0, .int 0, .null, .int 0, .int 0, .null, .int 0, .null, .null, .null, .null, .int 0, .null, .null, .int 0, .int 0, .int 0, .int 0, .long 0, .int 0, .int 0, .int 0, .null, .null, .null, .null]) C inX12 rfl tyX12 tyX12_ok tb_4_30 tb_4_31 tb_1_13 (by decide) ⟨Nat.le_of_ble_eq_true rfl, Nat.le_of_ble_eq_true rfl⟩ dL_law_8 (fun qad2 => ?_)
  refine ww_dup C dL_law_11 rfl ?_
  refine ww_callI (As := []) (rest := [.ref qad2]) (wr := wH ad cI cZ u0H) C (Along.of EM_ok trivial) (c_X12_init (h0 := qad2)) tb_4_32 tb_4_33 tb_1_13 tb_4_34 rfl rfl rfl hd_X12_init ⟨Nat.le_of_ble_eq_true rfl, Nat.le_of_ble_eq_true rfl⟩ rfl rfl rfl (Nat.le_of_ble_eq_true rfl) dL_law_12 ⟨Nat.le_of_ble_eq_true rfl, Nat.le_of_ble_eq_true rfl⟩ (fun ad2 had2 => ?_)
  subst had2
  refine ww_astore_n (i := 2) (lv' := [(2, .ref (ad2 0)), (1, .ref (ad 0)), (0, .ref b)]) C dL_law_15 rfl (by decide) rfl ?_
  refine ww_iconst (v := 0) C dL_law_16 (by decide) ?_
  refine ww_istore_n (i := 3) (lv' := [(3, .int 0), (2, .ref (ad2 0)), (1, .ref (ad 0)), (0, .ref b)]) C dL_law_17 rfl (by decide) rfl ?_
  refine ww_widen (cl' := 73) (sl' := 10636) (Nat.le_of_ble_eq_true rfl) (Nat.le_of_ble_eq_true rfl) ?_
  exact law_loop hL hM C hX hbl (L + 6) 0 (by omega) (by omega) ad ad2 u0H u0M hR0
