abbrev rm_X10_isSeen : Room := { frames := 4, cells := 0, slots := 0, locals := 86 }
set_option maxRecDepth 100000 in
theorem w_X10_isSeen_35 {p : Program} {l : Launch} {e : Env} {s : State} {m : MethodId} {args : Array Value} {below : List Frame} {meth : Method} {c : Code} {A : Nat → Prop} {D : va_G} {ad : Nat → Nat} {kK kV : Nat → Nat} {cI cZ : ClassId} {N : Nat} {Q : Int32 → UU → Prop} (C : Cx p m c cX10_isSeen 2 s args RX10 meth (some .boolean) A D [(cI, .int), (cZ, .boolean)] (EH kK kV)) : ∀ {u : UU}, m_X10_isSeen_35 N  u Q → WW p l e rm_X10_isSeen s m args below meth c 0 0 (MQ below (QI D A (wH ad cI cZ) Q) args s 0 0 A) A D 2 35 [] [] (wH ad cI cZ u) := by
  intro  u h
  unfold m_X10_isSeen_35 at h
  refine ww_iconst (v := 1) C dX10_isSeen_35 (by decide) ?_
  refine ww_goto (tgt := 40) C dX10_isSeen_36 (by decide) ?_
  exact ww_zret C h.1 h.2 dX10_isSeen_40
set_option maxRecDepth 100000 in
theorem w_X10_isSeen {p : Program} {l : Launch} {e : Env} {s : State} {m : MethodId} {args : Array Value} {below : List Frame} {meth : Method} {c : Code} {A : Nat → Prop} {D : va_G} {ad : Nat → Nat} {kK kV : Nat → Nat} {cI cZ : ClassId} {N : Nat} {Q : Int32 → UU → Prop} (C : Cx p m c cX10_isSeen 2 s args RX10 meth (some .boolean) A D [(cI, .int), (cZ, .boolean)] (EH kK kV)) : ∀ {x1 : Int32} {u : UU}, m_X10_isSeen N x1 u Q → WW p l e rm_X10_isSeen s m args below meth c 0 0 (MQ below (QI D A (wH ad cI cZ) Q) args s 0 0 A) A D 2 0 [(0, .ref (ad 4)), (1, .int x1)] [] (wH ad cI cZ u) := by
  intro x1 u h
  unfold m_X10_isSeen at h
  refine ww_aload_n C dX10_isSeen_0 rfl 0 rfl ?_
  refine ww_get C inX10 rfl 0 (by decide) tb_1_104 HF_4_0 dX10_isSeen_1 ?_
  refine ww_iload_n C dX10_isSeen_4 rfl 1 rfl ?_
  refine ww_callVi (As := [.int x1]) (rest := []) C EH_ok (c_X0_has h) tb_2_233 tb_2_122 tb_2_123 tb_1_2 tb_2_124 rfl rfl ⟨rfl, hd_X0_has⟩ ⟨Nat.le_of_ble_eq_true rfl, Nat.le_of_ble_eq_true rfl⟩ rfl HF_1_0 rfl rfl (Nat.le_of_ble_eq_true rfl) dX10_isSeen_5 ⟨Nat.zero_le _, Nat.zero_le _⟩ (fun r_2 u_1 h => ?_)
  refine ww_if_eq (tgt := 39) C dX10_isSeen_8 (by decide) (fun hc => ?_) (fun hc => ?_)
  · have h := ite_t h hc
    refine ww_iconst (v := 0) C dX10_isSeen_39 (by decide) ?_
    exact ww_zret C h.1 h.2 dX10_isSeen_40
  · have h := ite_f h hc
    refine ww_aload_n C dX10_isSeen_11 rfl 0 rfl ?_
    refine ww_get C inX10 rfl 0 (by decide) tb_1_104 HF_4_0 dX10_isSeen_12 ?_
    refine ww_get C inX0 rfl 2 (by decide) tb_1_41 HF_1_2 dX10_isSeen_15 ?_
    refine ww_iload_n C dX10_isSeen_18 rfl 1 rfl ?_
    obtain ⟨hin, h⟩ := h
    refine ww_iald C 0 rfl HA_15 hin dX10_isSeen_19 ?_
    refine ww_aload_n C dX10_isSeen_20 rfl 0 rfl ?_
    refine ww_get C inX10 rfl 8 (by decide) tb_1_112 HF_4_8 dX10_isSeen_21 ?_
    refine ww_icmp_le (tgt := 35) C dX10_isSeen_24 (by decide) (fun hc => ?_) (fun hc => ?_)
    · have h := ite_t h hc
      refine ww_sub [] rfl ?_
      exact w_X10_isSeen_35 C h
    · have h := ite_f h hc
      refine ww_aload_n C dX10_isSeen_27 rfl 0 rfl ?_
      refine ww_iload_n C dX10_isSeen_28 rfl 1 rfl ?_
      refine ww_callVi (As := [.int x1]) (rest := []) C EH_ok (c_X10_many h) tb_2_234 tb_2_235 tb_2_236 tb_1_5 tb_2_237 rfl rfl ⟨rfl, hd_X10_many⟩ ⟨Nat.le_of_ble_eq_true rfl, Nat.le_of_ble_eq_true rfl⟩ rfl HF_4_0 rfl rfl (Nat.le_of_ble_eq_true rfl) dX10_isSeen_29 ⟨Nat.zero_le _, Nat.zero_le _⟩ (fun r_4 u_3 h => ?_)
      refine ww_if_le (tgt := 39) C dX10_isSeen_32 (by decide) (fun hc => ?_) (fun hc => ?_)
      · have h := ite_t h hc
        refine ww_iconst (v := 0) C dX10_isSeen_39 (by decide) ?_
        exact ww_zret C h.1 h.2 dX10_isSeen_40
      · have h := ite_f h hc
        refine ww_sub [] rfl ?_
        exact w_X10_isSeen_35 C h
theorem c_X10_isSeen {l : Launch} {D : va_G} {ad : Nat → Nat} {kK kV : Nat → Nat} {cI cZ : ClassId} {N : Nat} {x1 : Int32} {u : UU} {Q : Int32 → UU → Prop} (h : m_X10_isSeen N x1 u Q) : MI l D [(cI, .int), (cZ, .boolean)] (EH kK kV) yX10_isSeen (Cond.code yX10_isSeen cX10_isSeen 2 (some .boolean)) rm_X10_isSeen [.ref (ad 4), .int x1] (wH ad cI cZ u) (wH ad cI cZ) Q :=
  MI_of (own := RX10) (by decide) rfl (Nat.le_of_ble_eq_true rfl) rfl (fun p e s m args below meth c A C => w_X10_isSeen C h)
theorem hd_X10_isSeen : yX10_isSeen.cls ≠ "java/lang/invoke/MethodHandle" ∧ yX10_isSeen.cls ≠ "java/lang/invoke/VarHandle" ∧ (parseMethodDescriptor yX10_isSeen.desc).map (fun d => d.parameters.length) = some 1 := by decide +kernel
abbrev rm_X10_boardSize : Room := { frames := 4, cells := 0, slots := 0, locals := 92 }
set_option maxRecDepth 100000 in
theorem w_X10_boardSize_45 {p : Program} {l : Launch} {e : Env} {s : State} {m : MethodId} {args : Array Value} {below : List Frame} {meth : Method} {c : Code} {A : Nat → Prop} {D : va_G} {ad : Nat → Nat} {kK kV : Nat → Nat} {cI cZ : ClassId} {N : Nat} {Q : Int32 → UU → Prop} {k4 : Int32 → Int32 → Int32 → UU → Prop} (C : Cx p m c cX10_boardSize 5 s args RX10 meth (some .int) A D [(cI, .int), (cZ, .boolean)] (EH kK kV)) (hk4 : ∀ (x1 : Int32) (x2 : Int32) (x3 : Int32) (u : UU), k4 x1 x2 x3 u → WW p l e rm_X10_boardSize s m args below meth c 0 0 (MQ below (QI D A (wH ad cI cZ) Q) args s 0 0 A) A D 5 4 [(0, .ref (ad 4)), (1, .int x1), (2, .int x2), (3, .int x3)] [] (wH ad cI cZ u)) : ∀ {x1 : Int32} {x2 : Int32} {x3 : Int32} {u : UU}, m_X10_boardSize_45 N k4 x1 x2 x3 u Q → WW p l e rm_X10_boardSize s m args below meth c 0 0 (MQ below (QI D A (wH ad cI cZ) Q) args s 0 0 A) A D 5 45 [(0, .ref (ad 4)), (1, .int x1), (2, .int x2), (3, .int x3)] [] (wH ad cI cZ u) := by
  intro x1 x2 x3 u h
  unfold m_X10_boardSize_45 at h
  obtain ⟨z_1, ez_1⟩ : ∃ z_1 : Int32, z_1 = x3 + (1 : Int32) := ⟨_, rfl⟩
  have h := h z_1 ez_1
  refine ww_iinc (i := 3) (j := 3) (v := z_1) (lv' := [(3, .int z_1), (0, .ref (ad 4)), (1, .int x1), (2, .int x2)]) C dX10_boardSize_45 rfl (by rw [ez_1]; rfl) (by decide) rfl ?_
  refine ww_goto (tgt := 4) C dX10_boardSize_48 (by decide) ?_
  refine ww_sub [1, 2, 3, 0] rfl ?_
  exact hk4 _ _ _ _ h
set_option maxRecDepth 100000 in
theorem w_X10_boardSize_4 {p : Program} {l : Launch} {e : Env} {s : State} {m : MethodId} {args : Array Value} {below : List Frame} {meth : Method} {c : Code} {A : Nat → Prop} {D : va_G} {ad : Nat → Nat} {kK kV : Nat → Nat} {cI cZ : ClassId} {N : Nat} {Q : Int32 → UU → Prop} (C : Cx p m c cX10_boardSize 5 s args RX10 meth (some .int) A D [(cI, .int), (cZ, .boolean)] (EH kK kV)) : ∀ (n : Nat) (x1 : Int32) (x2 : Int32) (x3 : Int32) (u : UU), m_X10_boardSize_4 N Q n x1 x2 x3 u → WW p l e rm_X10_boardSize s m args below meth c 0 0 (MQ below (QI D A (wH ad cI cZ) Q) args s 0 0 A) A D 5 4 [(0, .ref (ad 4)), (1, .int x1), (2, .int x2), (3, .int x3)] [] (wH ad cI cZ u) := by
  intro n
  induction n with
  | zero => intro x1 x2 x3 u h; rw [m_X10_boardSize_4] at h; exact h.elim
  | succ n ih =>
    intro x1 x2 x3 u h
    rw [m_X10_boardSize_4] at h
    refine ww_iload_n C dX10_boardSize_4 rfl 3 rfl ?_
    refine ww_bipush (v := 10) C dX10_boardSize_5 (by decide) ?_
    refine ww_icmp_ge (tgt := 51) C dX10_boardSize_7 (by decide) (fun hc => ?_) (fun hc => ?_)
    · have h := ite_t h hc
      refine ww_iload_n C dX10_boardSize_51 rfl 2 rfl ?_
      exact ww_iret C h dX10_boardSize_52
    · have h := ite_f h hc
      refine ww_iload_n C dX10_boardSize_10 rfl 1 rfl ?_
      refine ww_bipush (v := 10) C dX10_boardSize_11 (by decide) ?_
      refine ww_imul C dX10_boardSize_13 ?_
      refine ww_iload_n C dX10_boardSize_14 rfl 3 rfl ?_
      refine ww_iadd C dX10_boardSize_15 ?_
      refine ww_nI (fun z_1 ez_1 => ?_)
      have h := h z_1 ez_1
      refine ww_istore (i := 4) (lv' := [(4, .int z_1), (0, .ref (ad 4)), (1, .int x1), (2, .int x2), (3, .int x3)]) C dX10_boardSize_16 (by decide) rfl ?_
      refine ww_aload_n C dX10_boardSize_18 rfl 1 rfl ?_
      refine ww_iload C dX10_boardSize_19 0 rfl ?_
      refine ww_callVi (As := [.int z_1]) (rest := []) C EH_ok (c_X10_handsOf h) tb_2_238 tb_2_199 tb_2_200 tb_1_5 tb_2_201 rfl rfl ⟨rfl, hd_X10_handsOf⟩ ⟨Nat.le_of_ble_eq_true rfl, Nat.le_of_ble_eq_true rfl⟩ rfl HF_4_0 rfl rfl (Nat.le_of_ble_eq_true rfl) dX10_boardSize_21 ⟨Nat.zero_le _, Nat.zero_le _⟩ (fun r_3 u_2 h => ?_)
      refine ww_if_le (tgt := 45) C dX10_boardSize_24 (by decide) (fun hc => ?_) (fun hc => ?_)
      · have h := ite_t h hc
        refine ww_sub [1, 2, 3, 4] rfl ?_
        exact w_X10_boardSize_45 C ih h
      · have h := ite_f h hc
        refine ww_iload_n C dX10_boardSize_27 rfl 3 rfl ?_
        refine ww_aload_n C dX10_boardSize_28 rfl 1 rfl ?_
        refine ww_get C inX10 rfl 2 (by decide) tb_1_106 HF_4_2 dX10_boardSize_29 ?_
        refine ww_aload_n C dX10_boardSize_32 rfl 1 rfl ?_
        refine ww_iload C dX10_boardSize_33 0 rfl ?_
        refine ww_callVi (As := [.int z_1]) (rest := [.ref (ad 3), .int x2]) C EH_ok (c_X10_trueWidth h) tb_3_3 tb_2_207 tb_2_208 tb_1_5 tb_2_209 rfl rfl ⟨rfl, hd_X10_trueWidth⟩ ⟨Nat.le_of_ble_eq_true rfl, Nat.le_of_ble_eq_true rfl⟩ rfl HF_4_0 rfl rfl (Nat.le_of_ble_eq_true rfl) dX10_boardSize_35 ⟨Nat.zero_le _, Nat.zero_le _⟩ (fun r_5 u_4 h => ?_)
        refine ww_callVi (As := [.int r_5]) (rest := [.int x2]) C EH_ok (c_X7_sizeFor h) tb_3_4 tb_2_214 tb_2_215 tb_1_4 tb_2_216 rfl rfl ⟨rfl, hd_X7_sizeFor⟩ ⟨Nat.le_of_ble_eq_true rfl, Nat.le_of_ble_eq_true rfl⟩ rfl HF_3_0 rfl rfl (Nat.le_of_ble_eq_true rfl) dX10_boardSize_38 ⟨Nat.zero_le _, Nat.zero_le _⟩ (fun r_7 u_6 h => ?_)
        refine ww_mmax C tb_2_210 tb_2_211 tb_1_14 tb_2_212 ⟨Nat.le_of_ble_eq_true rfl, Nat.le_of_ble_eq_true rfl⟩ ⟨Nat.zero_le _, Nat.zero_le _⟩ dX10_boardSize_41 ?_
        refine ww_nI (fun z_8 ez_8 => ?_)
        have h := h z_8 ez_8
        refine ww_istore_n (i := 2) (lv' := [(2, .int z_8), (4, .int z_1), (0, .ref (ad 4)), (1, .int x1), (3, .int x3)]) C dX10_boardSize_44 rfl (by decide) rfl ?_
        refine ww_sub [2, 3, 0, 4] rfl ?_
        exact w_X10_boardSize_45 C ih h
set_option maxRecDepth 100000 in
theorem w_X10_boardSize {p : Program} {l : Launch} {e : Env} {s : State} {m : MethodId} {args : Array Value} {below : List Frame} {meth : Method} {c : Code} {A : Nat → Prop} {D : va_G} {ad : Nat → Nat} {kK kV : Nat → Nat} {cI cZ : ClassId} {N : Nat} {Q : Int32 → UU → Prop} (C : Cx p m c cX10_boardSize 5 s args RX10 meth (some .int) A D [(cI, .int), (cZ, .boolean)] (EH kK kV)) : ∀ {x1 : Int32} {u : UU}, m_X10_boardSize N x1 u Q → WW p l e rm_X10_boardSize s m args below meth c 0 0 (MQ below (QI D A (wH ad cI cZ) Q) args s 0 0 A) A D 5 0 [(0, .ref (ad 4)), (1, .int x1)] [] (wH ad cI cZ u) := by
  intro x1 u h
  unfold m_X10_boardSize at h
  refine ww_iconst (v := 0) C dX10_boardSize_0 (by decide) ?_
  refine ww_istore_n (i := 2) (lv' := [(2, .int (0 : Int32)), (0, .ref (ad 4)), (1, .int x1)]) C dX10_boardSize_1 rfl (by decide) rfl ?_
  refine ww_iconst (v := 0) C dX10_boardSize_2 (by decide) ?_
  refine ww_istore_n (i := 3) (lv' := [(3, .int (0 : Int32)), (2, .int (0 : Int32)), (0, .ref (ad 4)), (1, .int x1)]) C dX10_boardSize_3 rfl (by decide) rfl ?_
  refine ww_sub [2, 3, 1, 0] rfl ?_
  exact w_X10_boardSize_4 C N _ _ _ _ h
theorem c_X10_boardSize {l : Launch} {D : va_G} {ad : Nat → Nat} {kK kV : Nat → Nat} {cI cZ : ClassId} {N : Nat} {x1 : Int32} {u : UU} {Q : Int32 → UU → Prop} (h : m_X10_boardSize N x1 u Q) : MI l D [(cI, .int), (cZ, .boolean)] (EH kK kV) yX10_boardSize (Cond.code yX10_boardSize cX10_boardSize 5 (some .int)) rm_X10_boardSize [.ref (ad 4), .int x1] (wH ad cI cZ u) (wH ad cI cZ) Q :=
  MI_of (own := RX10) (by decide) rfl (Nat.le_of_ble_eq_true rfl) rfl (fun p e s m args below meth c A C => w_X10_boardSize C h)
theorem hd_X10_boardSize : yX10_boardSize.cls ≠ "java/lang/invoke/MethodHandle" ∧ yX10_boardSize.cls ≠ "java/lang/invoke/VarHandle" ∧ (parseMethodDescriptor yX10_boardSize.desc).map (fun d => d.parameters.length) = some 1 := by decide +kernel
abbrev rm_X11_seen : Room := { frames := 5, cells := 0, slots := 0, locals := 116 }
set_option maxRecDepth 100000 in
theorem w_X11_seen {p : Program} {l : Launch} {e : Env} {s : State} {m : MethodId} {args : Array Value} {below : List Frame} {meth : Method} {c : Code} {A : Nat → Prop} {D : va_G} {ad : Nat → Nat} {kK kV : Nat → Nat} {cI cZ : ClassId} {N : Nat} {Q : Int32 → UU → Prop} (C : Cx p m c cX11_seen 4 s args RX11 meth (some .int) A D [(cI, .int), (cZ, .boolean)] (EH kK kV)) : ∀ {x1 : Int32} {x2 : Int32} {x3 : Int32} {u : UU}, m_X11_seen N x1 x2 x3 u Q → WW p l e rm_X11_seen s m args below meth c 0 0 (MQ below (QI D A (wH ad cI cZ) Q) args s 0 0 A) A D 4 0 [(0, .ref (ad 0)), (1, .int x1), (2, .int x2), (3, .int x3)] [] (wH ad cI cZ u) := by
  intro x1 x2 x3 u h
  unfold m_X11_seen at h
  refine ww_aload_n C dX11_seen_0 rfl 0 rfl ?_
  refine ww_get C inX11 rfl 0 (by decide) tb_2_49 HF_0_0 dX11_seen_1 ?_
  refine ww_iload_n C dX11_seen_4 rfl 1 rfl ?_
  refine ww_callVi (As := [.int x1]) (rest := []) C EH_ok (c_X0_has h) tb_2_121 tb_2_122 tb_2_123 tb_1_2 tb_2_124 rfl rfl ⟨rfl, hd_X0_has⟩ ⟨Nat.le_of_ble_eq_true rfl, Nat.le_of_ble_eq_true rfl⟩ rfl HF_1_0 rfl rfl (Nat.le_of_ble_eq_true rfl) dX11_seen_5 ⟨Nat.zero_le _, Nat.zero_le _⟩ (fun r_2 u_1 h => ?_)
  refine ww_if_eq (tgt := 18) C dX11_seen_8 (by decide) (fun hc => ?_) (fun hc => ?_)
  · have h := ite_t h hc
    refine ww_iconst (v := (-1)) C dX11_seen_18 (by decide) ?_
    exact ww_iret C h dX11_seen_19
  · have h := ite_f h hc
    refine ww_iload_n C dX11_seen_11 rfl 2 rfl ?_
    refine ww_callSi (As := [.int x2]) (rest := []) C EH_ok (c_X11_isHour h) tb_2_118 tb_2_119 tb_1_1 tb_2_120 rfl rfl hd_X11_isHour ⟨Nat.le_of_ble_eq_true rfl, Nat.le_of_ble_eq_true rfl⟩ rfl rfl (Nat.le_of_ble_eq_true rfl) dX11_seen_12 ⟨Nat.zero_le _, Nat.zero_le _⟩ (fun r_4 u_3 h => ?_)
    refine ww_if_ne (tgt := 20) C dX11_seen_15 (by decide) (fun hc => ?_) (fun hc => ?_)
    · have h := ite_f h hc
      refine ww_aload_n C dX11_seen_20 rfl 0 rfl ?_
      refine ww_get C inX11 rfl 3 (by decide) tb_2_52 HF_0_3 dX11_seen_21 ?_
      refine ww_iload_n C dX11_seen_24 rfl 2 rfl ?_
      refine ww_callVv (As := [.int x2]) (rest := []) C EH_ok (c_X10_show h) tb_2_162 tb_2_163 tb_2_164 tb_1_5 tb_2_165 rfl rfl ⟨rfl, hd_X10_show⟩ ⟨Nat.le_of_ble_eq_true rfl, Nat.le_of_ble_eq_true rfl⟩ rfl HF_4_0 rfl rfl (Nat.le_of_ble_eq_true rfl) dX11_seen_25 ⟨Nat.zero_le _, Nat.zero_le _⟩ (fun u_5 h => ?_)
      refine ww_iload_n C dX11_seen_28 rfl 3 rfl ?_
      by_cases hs0 : x3 = 0
      · have h := ite_t h hs0
        refine ww_tableIn (off := 27) (tgt := 56) C dX11_seen_29 (by rw [hs0]; decide) (by rw [hs0]; decide) (by rw [hs0]; rfl) (by decide) ?_
        refine ww_aload_n C dX11_seen_56 rfl 0 rfl ?_
        refine ww_get C inX11 rfl 3 (by decide) tb_2_52 HF_0_3 dX11_seen_57 ?_
        refine ww_iload_n C dX11_seen_60 rfl 1 rfl ?_
        refine ww_callVi (As := [.int x1]) (rest := []) C EH_ok (c_X10_isSeen h) tb_2_229 tb_2_230 tb_2_231 tb_1_5 tb_2_232 rfl rfl ⟨rfl, hd_X10_isSeen⟩ ⟨Nat.le_of_ble_eq_true rfl, Nat.le_of_ble_eq_true rfl⟩ rfl HF_4_0 rfl rfl (Nat.le_of_ble_eq_true rfl) dX11_seen_61 ⟨Nat.zero_le _, Nat.zero_le _⟩ (fun r_8 u_7 h => ?_)
        refine ww_if_eq (tgt := 78) C dX11_seen_64 (by decide) (fun hc => ?_) (fun hc => ?_)
        · have h := ite_t h hc
          refine ww_iconst (v := (-1)) C dX11_seen_78 (by decide) ?_
          exact ww_iret C h dX11_seen_79
        · have h := ite_f h hc
          refine ww_aload_n C dX11_seen_67 rfl 0 rfl ?_
          refine ww_get C inX11 rfl 3 (by decide) tb_2_52 HF_0_3 dX11_seen_68 ?_
          refine ww_iload_n C dX11_seen_71 rfl 1 rfl ?_
          refine ww_callVi (As := [.int x1]) (rest := []) C EH_ok (c_X10_boardSize h) tb_2_239 tb_3_0 tb_3_1 tb_1_5 tb_3_2 rfl rfl ⟨rfl, hd_X10_boardSize⟩ ⟨Nat.le_of_ble_eq_true rfl, Nat.le_of_ble_eq_true rfl⟩ rfl HF_4_0 rfl rfl (Nat.le_of_ble_eq_true rfl) dX11_seen_72 ⟨Nat.zero_le _, Nat.zero_le _⟩ (fun r_10 u_9 h => ?_)
          refine ww_goto (tgt := 79) C dX11_seen_75 (by decide) ?_
          exact ww_iret C h dX11_seen_79
      have h := ite_f h hs0
      by_cases hs1 : x3 = 1
      · have h := ite_t h hs1
        refine ww_tableIn (off := 51) (tgt := 80) C dX11_seen_29 (by rw [hs1]; decide) (by rw [hs1]; decide) (by rw [hs1]; rfl) (by decide) ?_
        refine ww_aload_n C dX11_seen_80 rfl 0 rfl ?_
        refine ww_get C inX11 rfl 3 (by decide) tb_2_52 HF_0_3 dX11_seen_81 ?_
        refine ww_iload_n C dX11_seen_84 rfl 1 rfl ?_
        refine ww_callVi (As := [.int x1]) (rest := []) C EH_ok (c_X10_many h) tb_3_5 tb_2_235 tb_2_236 tb_1_5 tb_2_237 rfl rfl ⟨rfl, hd_X10_many⟩ ⟨Nat.le_of_ble_eq_true rfl, Nat.le_of_ble_eq_true rfl⟩ rfl HF_4_0 rfl rfl (Nat.le_of_ble_eq_true rfl) dX11_seen_85 ⟨Nat.zero_le _, Nat.zero_le _⟩ (fun r_12 u_11 h => ?_)
        exact ww_iret C h dX11_seen_88
      have h := ite_f h hs1
      by_cases hs2 : x3 = 2
      · have h := ite_t h hs2
        refine ww_tableIn (off := 60) (tgt := 89) C dX11_seen_29 (by rw [hs2]; decide) (by rw [hs2]; decide) (by rw [hs2]; rfl) (by decide) ?_
        refine ww_aload_n C dX11_seen_89 rfl 0 rfl ?_
        refine ww_get C inX11 rfl 3 (by decide) tb_2_52 HF_0_3 dX11_seen_90 ?_
        refine ww_iload_n C dX11_seen_93 rfl 1 rfl ?_
        refine ww_callVi (As := [.int x1]) (rest := []) C EH_ok (c_X10_isSeen h) tb_2_229 tb_2_230 tb_2_231 tb_1_5 tb_2_232 rfl rfl ⟨rfl, hd_X10_isSeen⟩ ⟨Nat.le_of_ble_eq_true rfl, Nat.le_of_ble_eq_true rfl⟩ rfl HF_4_0 rfl rfl (Nat.le_of_ble_eq_true rfl) dX11_seen_94 ⟨Nat.zero_le _, Nat.zero_le _⟩ (fun r_14 u_13 h => ?_)
        refine ww_if_eq (tgt := 104) C dX11_seen_97 (by decide) (fun hc => ?_) (fun hc => ?_)
        · have h := ite_t h hc
          refine ww_iconst (v := 0) C dX11_seen_104 (by decide) ?_
          exact ww_iret C h dX11_seen_105
        · have h := ite_f h hc
          refine ww_iconst (v := 1) C dX11_seen_100 (by decide) ?_
          refine ww_goto (tgt := 105) C dX11_seen_101 (by decide) ?_
          exact ww_iret C h dX11_seen_105
      have h := ite_f h hs2
      refine ww_tableOut (tgt := 106) C dX11_seen_29 (by have a0 := sw_ne (k := 0) hs0 (by decide); have a1 := sw_ne (k := 1) hs1 (by decide); have a2 := sw_ne (k := 2) hs2 (by decide); omega) (by decide) ?_
      refine ww_iconst (v := (-1)) C dX11_seen_106 (by decide) ?_
      exact ww_iret C h dX11_seen_107
    · have h := ite_t h hc
      refine ww_iconst (v := (-1)) C dX11_seen_18 (by decide) ?_
      exact ww_iret C h dX11_seen_19
theorem c_X11_seen {l : Launch} {D : va_G} {ad : Nat → Nat} {kK kV : Nat → Nat} {cI cZ : ClassId} {N : Nat} {x1 : Int32} {x2 : Int32} {x3 : Int32} {u : UU} {Q : Int32 → UU → Prop} (h : m_X11_seen N x1 x2 x3 u Q) : MI l D [(cI, .int), (cZ, .boolean)] (EH kK kV) yX11_seen (Cond.code yX11_seen cX11_seen 4 (some .int)) rm_X11_seen [.ref (ad 0), .int x1, .int x2, .int x3] (wH ad cI cZ u) (wH ad cI cZ) Q :=
  MI_of (own := RX11) (by decide) rfl (Nat.le_of_ble_eq_true rfl) rfl (fun p e s m args below meth c A C => w_X11_seen C h)
theorem hd_X11_seen : yX11_seen.cls ≠ "java/lang/invoke/MethodHandle" ∧ yX11_seen.cls ≠ "java/lang/invoke/VarHandle" ∧ (parseMethodDescriptor yX11_seen.desc).map (fun d => d.parameters.length) = some 3 := by decide +kernel
abbrev rm_X9_mark : Room := { frames := 1, cells := 0, slots := 0, locals := 22 }
set_option maxRecDepth 100000 in
theorem w_X9_mark {p : Program} {l : Launch} {e : Env} {s : State} {m : MethodId} {args : Array Value} {below : List Frame} {meth : Method} {c : Code} {A : Nat → Prop} {D : va_G} {ad : Nat → Nat} {kK kV : Nat → Nat} {cI cZ : ClassId} {N : Nat} {Q : UU → Prop} (C : Cx p m c cX9_mark 3 s args RX9 meth none A D [(cI, .int), (cZ, .boolean)] (EH kK kV)) : ∀ {x1 : Int32} {x2 : Int32} {u : UU}, m_X9_mark N x1 x2 u Q → WW p l e rm_X9_mark s m args below meth c 0 0 (MQ below (QV D A (wH ad cI cZ) Q) args s 0 0 A) A D 3 0 [(0, .ref (ad 5)), (1, .int x1), (2, .int x2)] [] (wH ad cI cZ u) := by
  intro x1 x2 u h
  unfold m_X9_mark at h
  refine ww_iload_n C dX9_mark_0 rfl 1 rfl ?_
  refine ww_iconst (v := 0) C dX9_mark_1 (by decide) ?_
  refine ww_bipush (v := 29) C dX9_mark_2 (by decide) ?_
  refine ww_callSNi (As := [.int x1, .int (0 : Int32), .int (29 : Int32)]) (rest := []) C EH_ok (c_X11_isIn h) (C.2.2.2.2.1.1 _ (List.mem_of_getElem? (i := 10) rfl)) tb_1_1 tb_2_100 tb_2_101 rfl rfl hd_X11_isIn ⟨Nat.le_of_ble_eq_true rfl, Nat.le_of_ble_eq_true rfl⟩ rfl rfl (Nat.le_of_ble_eq_true rfl) dX9_mark_4 ⟨Nat.zero_le _, Nat.zero_le _⟩ (fun r_2 u_1 h => ?_)
  refine ww_if_eq (tgt := 17) C dX9_mark_7 (by decide) (fun hc => ?_) (fun hc => ?_)
  · have h := ite_t h hc
    exact ww_vret C h dX9_mark_17
  · have h := ite_f h hc
    refine ww_aload_n C dX9_mark_10 rfl 0 rfl ?_
    refine ww_get C inX9 rfl 1 (by decide) tb_1_142 HF_5_1 dX9_mark_11 ?_
    refine ww_iload_n C dX9_mark_14 rfl 1 rfl ?_
    refine ww_iload_n C dX9_mark_15 rfl 2 rfl ?_
    obtain ⟨hin, h⟩ := h
    refine ww_zast C 1 rfl HU_27 hin dX9_mark_16 ?_
    refine ww_nU (wH ad cI cZ) (fun u_3 eu_3 => ?_)
    have h := h u_3 eu_3
    exact ww_vret C h dX9_mark_17
theorem c_X9_mark {l : Launch} {D : va_G} {ad : Nat → Nat} {kK kV : Nat → Nat} {cI cZ : ClassId} {N : Nat} {x1 : Int32} {x2 : Int32} {u : UU} {Q : UU → Prop} (h : m_X9_mark N x1 x2 u Q) : MV l D [(cI, .int), (cZ, .boolean)] (EH kK kV) yX9_mark (Cond.code yX9_mark cX9_mark 3 none) rm_X9_mark [.ref (ad 5), .int x1, .int x2] (wH ad cI cZ u) (wH ad cI cZ) Q 0 0 :=
  MV_of (own := RX9) (by decide) rfl (Nat.le_of_ble_eq_true rfl) rfl (fun p e s m args below meth c A C => w_X9_mark C h)
theorem hd_X9_mark : yX9_mark.cls ≠ "java/lang/invoke/MethodHandle" ∧ yX9_mark.cls ≠ "java/lang/invoke/VarHandle" ∧ (parseMethodDescriptor yX9_mark.desc).map (fun d => d.parameters.length) = some 2 := by decide +kernel
abbrev rm_X9_areApart : Room := { frames := 0, cells := 0, slots := 0, locals := 0 }
set_option maxRecDepth 100000 in
theorem w_X9_areApart_42 {p : Program} {l : Launch} {e : Env} {s : State} {m : MethodId} {args : Array Value} {below : List Frame} {meth : Method} {c : Code} {A : Nat → Prop} {D : va_G} {ad : Nat → Nat} {kK kV : Nat → Nat} {cI cZ : ClassId} {N : Nat} {Q : Int32 → UU → Prop} (C : Cx p m c cX9_areApart 3 s args RX9 meth (some .boolean) A D [(cI, .int), (cZ, .boolean)] (EH kK kV)) : ∀ {u : UU}, m_X9_areApart_42 N  u Q → WW p l e rm_X9_areApart s m args below meth c 0 0 (MQ below (QI D A (wH ad cI cZ) Q) args s 0 0 A) A D 3 42 [] [] (wH ad cI cZ u) := by
  intro  u h
  unfold m_X9_areApart_42 at h
  refine ww_iconst (v := 1) C dX9_areApart_42 (by decide) ?_
  refine ww_goto (tgt := 47) C dX9_areApart_43 (by decide) ?_
  exact ww_zret C h.1 h.2 dX9_areApart_47
set_option maxRecDepth 100000 in
theorem w_X9_areApart {p : Program} {l : Launch} {e : Env} {s : State} {m : MethodId} {args : Array Value} {below : List Frame} {meth : Method} {c : Code} {A : Nat → Prop} {D : va_G} {ad : Nat → Nat} {kK kV : Nat → Nat} {cI cZ : ClassId} {N : Nat} {Q : Int32 → UU → Prop} (C : Cx p m c cX9_areApart 3 s args RX9 meth (some .boolean) A D [(cI, .int), (cZ, .boolean)] (EH kK kV)) : ∀ {x1 : Int32} {x2 : Int32} {u : UU}, m_X9_areApart N x1 x2 u Q → WW p l e rm_X9_areApart s m args below meth c 0 0 (MQ below (QI D A (wH ad cI cZ) Q) args s 0 0 A) A D 3 0 [(0, .ref (ad 5)), (1, .int x1), (2, .int x2)] [] (wH ad cI cZ u) := by
  intro x1 x2 u h
  unfold m_X9_areApart at h
  refine ww_aload_n C dX9_areApart_0 rfl 0 rfl ?_
  refine ww_get C inX9 rfl 0 (by decide) tb_1_141 HF_5_0 dX9_areApart_1 ?_
  refine ww_get C inX0 rfl 0 (by decide) tb_1_36 HF_1_0 dX9_areApart_4 ?_
  refine ww_iload_n C dX9_areApart_7 rfl 1 rfl ?_
  obtain ⟨hin, h⟩ := h
  refine ww_iald C 0 rfl HA_13 hin dX9_areApart_8 ?_
  refine ww_aload_n C dX9_areApart_9 rfl 0 rfl ?_
  refine ww_get C inX9 rfl 0 (by decide) tb_1_141 HF_5_0 dX9_areApart_10 ?_
  refine ww_get C inX0 rfl 0 (by decide) tb_1_36 HF_1_0 dX9_areApart_13 ?_
  refine ww_iload_n C dX9_areApart_16 rfl 2 rfl ?_
  obtain ⟨hin, h⟩ := h
  refine ww_iald C 0 rfl HA_13 hin dX9_areApart_17 ?_
  refine ww_icmp_ne (tgt := 42) C dX9_areApart_18 (by decide) (fun hc => ?_) (fun hc => ?_)
  · have h := ite_f h hc
    refine ww_sub [] rfl ?_
    exact w_X9_areApart_42 C h
  · have h := ite_t h hc
    refine ww_aload_n C dX9_areApart_21 rfl 0 rfl ?_
    refine ww_get C inX9 rfl 0 (by decide) tb_1_141 HF_5_0 dX9_areApart_22 ?_
    refine ww_get C inX0 rfl 1 (by decide) tb_1_39 HF_1_1 dX9_areApart_25 ?_
    refine ww_iload_n C dX9_areApart_28 rfl 1 rfl ?_
    obtain ⟨hin, h⟩ := h
    refine ww_iald C 0 rfl HA_14 hin dX9_areApart_29 ?_
    refine ww_aload_n C dX9_areApart_30 rfl 0 rfl ?_
    refine ww_get C inX9 rfl 0 (by decide) tb_1_141 HF_5_0 dX9_areApart_31 ?_
    refine ww_get C inX0 rfl 1 (by decide) tb_1_39 HF_1_1 dX9_areApart_34 ?_
    refine ww_iload_n C dX9_areApart_37 rfl 2 rfl ?_
    obtain ⟨hin, h⟩ := h
    refine ww_iald C 0 rfl HA_14 hin dX9_areApart_38 ?_
    refine ww_icmp_eq (tgt := 46) C dX9_areApart_39 (by decide) (fun hc => ?_) (fun hc => ?_)
    · have h := ite_t h hc
      refine ww_iconst (v := 0) C dX9_areApart_46 (by decide) ?_
      exact ww_zret C h.1 h.2 dX9_areApart_47
    · have h := ite_f h hc
      refine ww_sub [] rfl ?_
      exact w_X9_areApart_42 C h
theorem c_X9_areApart {l : Launch} {D : va_G} {ad : Nat → Nat} {kK kV : Nat → Nat} {cI cZ : ClassId} {N : Nat} {x1 : Int32} {x2 : Int32} {u : UU} {Q : Int32 → UU → Prop} (h : m_X9_areApart N x1 x2 u Q) : MI l D [(cI, .int), (cZ, .boolean)] (EH kK kV) yX9_areApart (Cond.code yX9_areApart cX9_areApart 3 (some .boolean)) rm_X9_areApart [.ref (ad 5), .int x1, .int x2] (wH ad cI cZ u) (wH ad cI cZ) Q :=
  MI_of (own := RX9) (by decide) rfl (Nat.le_of_ble_eq_true rfl) rfl (fun p e s m args below meth c A C => w_X9_areApart C h)
theorem hd_X9_areApart : yX9_areApart.cls ≠ "java/lang/invoke/MethodHandle" ∧ yX9_areApart.cls ≠ "java/lang/invoke/VarHandle" ∧ (parseMethodDescriptor yX9_areApart.desc).map (fun d => d.parameters.length) = some 2 := by decide +kernel
abbrev rm_X9_isNear : Room := { frames := 0, cells := 0, slots := 0, locals := 0 }
set_option maxRecDepth 100000 in
theorem w_X9_isNear {p : Program} {l : Launch} {e : Env} {s : State} {m : MethodId} {args : Array Value} {below : List Frame} {meth : Method} {c : Code} {A : Nat → Prop} {D : va_G} {ad : Nat → Nat} {kK kV : Nat → Nat} {cI cZ : ClassId} {N : Nat} {Q : Int32 → UU → Prop} (C : Cx p m c cX9_isNear 9 s args RX9 meth (some .boolean) A D [(cI, .int), (cZ, .boolean)] (EH kK kV)) : ∀ {x1 : Int32} {x2 : Int32} {x3 : Int32} {u : UU}, m_X9_isNear N x1 x2 x3 u Q → WW p l e rm_X9_isNear s m args below meth c 0 0 (MQ below (QI D A (wH ad cI cZ) Q) args s 0 0 A) A D 9 0 [(0, .ref (ad 5)), (1, .int x1), (2, .int x2), (3, .int x3)] [] (wH ad cI cZ u) := by
  intro x1 x2 x3 u h
  unfold m_X9_isNear at h
  refine ww_aload_n C dX9_isNear_0 rfl 0 rfl ?_
  refine ww_get C inX9 rfl 0 (by decide) tb_1_141 HF_5_0 dX9_isNear_1 ?_
  refine ww_get C inX0 rfl 0 (by decide) tb_1_36 HF_1_0 dX9_isNear_4 ?_
  refine ww_iload_n C dX9_isNear_7 rfl 2 rfl ?_
  obtain ⟨hin, h⟩ := h
  refine ww_iald C 0 rfl HA_13 hin dX9_isNear_8 ?_
  refine ww_aload_n C dX9_isNear_9 rfl 0 rfl ?_
  refine ww_get C inX9 rfl 0 (by decide) tb_1_141 HF_5_0 dX9_isNear_10 ?_
  refine ww_get C inX0 rfl 0 (by decide) tb_1_36 HF_1_0 dX9_isNear_13 ?_
  refine ww_iload_n C dX9_isNear_16 rfl 1 rfl ?_
  obtain ⟨hin, h⟩ := h
  refine ww_iald C 0 rfl HA_13 hin dX9_isNear_17 ?_
  refine ww_isub C dX9_isNear_18 ?_
  refine ww_nI (fun z_1 ez_1 => ?_)
  have h := h z_1 ez_1
  refine ww_istore (i := 4) (lv' := [(4, .int z_1), (0, .ref (ad 5)), (1, .int x1), (2, .int x2), (3, .int x3)]) C dX9_isNear_19 (by decide) rfl ?_
  refine ww_aload_n C dX9_isNear_21 rfl 1 rfl ?_
  refine ww_get C inX9 rfl 0 (by decide) tb_1_141 HF_5_0 dX9_isNear_22 ?_
  refine ww_get C inX0 rfl 1 (by decide) tb_1_39 HF_1_1 dX9_isNear_25 ?_
  refine ww_iload_n C dX9_isNear_28 rfl 3 rfl ?_
  obtain ⟨hin, h⟩ := h
  refine ww_iald C 0 rfl HA_14 hin dX9_isNear_29 ?_
  refine ww_aload_n C dX9_isNear_30 rfl 1 rfl ?_
  refine ww_get C inX9 rfl 0 (by decide) tb_1_141 HF_5_0 dX9_isNear_31 ?_
  refine ww_get C inX0 rfl 1 (by decide) tb_1_39 HF_1_1 dX9_isNear_34 ?_
  refine ww_iload_n C dX9_isNear_37 rfl 2 rfl ?_
  obtain ⟨hin, h⟩ := h
  refine ww_iald C 0 rfl HA_14 hin dX9_isNear_38 ?_
  refine ww_isub C dX9_isNear_39 ?_
  refine ww_nI (fun z_2 ez_2 => ?_)
  have h := h z_2 ez_2
  refine ww_istore (i := 5) (lv' := [(5, .int z_2), (4, .int z_1), (0, .ref (ad 5)), (1, .int x1), (2, .int x2), (3, .int x3)]) C dX9_isNear_40 (by decide) rfl ?_
  refine ww_aload_n C dX9_isNear_42 rfl 2 rfl ?_
  refine ww_get C inX9 rfl 0 (by decide) tb_1_141 HF_5_0 dX9_isNear_43 ?_
  refine ww_get C inX0 rfl 0 (by decide) tb_1_36 HF_1_0 dX9_isNear_46 ?_
  refine ww_iload_n C dX9_isNear_49 rfl 5 rfl ?_
  obtain ⟨hin, h⟩ := h
  refine ww_iald C 0 rfl HA_13 hin dX9_isNear_50 ?_
  refine ww_aload_n C dX9_isNear_51 rfl 2 rfl ?_
  refine ww_get C inX9 rfl 0 (by decide) tb_1_141 HF_5_0 dX9_isNear_52 ?_
  refine ww_get C inX0 rfl 0 (by decide) tb_1_36 HF_1_0 dX9_isNear_55 ?_
  refine ww_iload_n C dX9_isNear_58 rfl 3 rfl ?_
  obtain ⟨hin, h⟩ := h
  refine ww_iald C 0 rfl HA_13 hin dX9_isNear_59 ?_
  refine ww_isub C dX9_isNear_60 ?_
  refine ww_nI (fun z_3 ez_3 => ?_)
  have h := h z_3 ez_3
  refine ww_istore (i := 6) (lv' := [(6, .int z_3), (5, .int z_2), (4, .int z_1), (0, .ref (ad 5)), (1, .int x1), (2, .int x2), (3, .int x3)]) C dX9_isNear_61 (by decide) rfl ?_
  refine ww_aload_n C dX9_isNear_63 rfl 3 rfl ?_
  refine ww_get C inX9 rfl 0 (by decide) tb_1_141 HF_5_0 dX9_isNear_64 ?_
  refine ww_get C inX0 rfl 1 (by decide) tb_1_39 HF_1_1 dX9_isNear_67 ?_
  refine ww_iload_n C dX9_isNear_70 rfl 6 rfl ?_
  obtain ⟨hin, h⟩ := h
  refine ww_iald C 0 rfl HA_14 hin dX9_isNear_71 ?_
  refine ww_aload_n C dX9_isNear_72 rfl 3 rfl ?_
  refine ww_get C inX9 rfl 0 (by decide) tb_1_141 HF_5_0 dX9_isNear_73 ?_
  refine ww_get C inX0 rfl 1 (by decide) tb_1_39 HF_1_1 dX9_isNear_76 ?_
  refine ww_iload_n C dX9_isNear_79 rfl 4 rfl ?_
  obtain ⟨hin, h⟩ := h
  refine ww_iald C 0 rfl HA_14 hin dX9_isNear_80 ?_
  refine ww_isub C dX9_isNear_81 ?_
  refine ww_nI (fun z_4 ez_4 => ?_)
  have h := h z_4 ez_4
  refine ww_istore (i := 7) (lv' := [(7, .int z_4), (6, .int z_3), (5, .int z_2), (4, .int z_1), (0, .ref (ad 5)), (1, .int x1), (2, .int x2), (3, .int x3)]) C dX9_isNear_82 (by decide) rfl ?_
  refine ww_iload C dX9_isNear_84 3 rfl ?_
  refine ww_iload C dX9_isNear_86 0 rfl ?_
  refine ww_imul C dX9_isNear_88 ?_
  refine ww_iload C dX9_isNear_89 2 rfl ?_
  refine ww_iload C dX9_isNear_91 1 rfl ?_
  refine ww_imul C dX9_isNear_93 ?_
  refine ww_isub C dX9_isNear_94 ?_
  refine ww_nI (fun z_5 ez_5 => ?_)
  have h := h z_5 ez_5
  refine ww_istore (i := 8) (lv' := [(8, .int z_5), (7, .int z_4), (6, .int z_3), (5, .int z_2), (4, .int z_1), (0, .ref (ad 5)), (1, .int x1), (2, .int x2), (3, .int x3)]) C dX9_isNear_95 (by decide) rfl ?_
  refine ww_iload C dX9_isNear_97 0 rfl ?_
  refine ww_iload C dX9_isNear_99 0 rfl ?_
  refine ww_imul C dX9_isNear_101 ?_
  refine ww_aload_n C dX9_isNear_102 rfl 5 rfl ?_
  refine ww_get C inX9 rfl 2 (by decide) tb_1_143 HF_5_2 dX9_isNear_103 ?_
  refine ww_aload_n C dX9_isNear_106 rfl 5 rfl ?_
  refine ww_get C inX9 rfl 2 (by decide) tb_1_143 HF_5_2 dX9_isNear_107 ?_
  refine ww_imul C dX9_isNear_110 ?_
  refine ww_iload C dX9_isNear_111 4 rfl ?_
  refine ww_iload C dX9_isNear_113 4 rfl ?_
  refine ww_imul C dX9_isNear_115 ?_
  refine ww_iload C dX9_isNear_116 3 rfl ?_
  refine ww_iload C dX9_isNear_118 3 rfl ?_
  refine ww_imul C dX9_isNear_120 ?_
  refine ww_iadd C dX9_isNear_121 ?_
  refine ww_imul C dX9_isNear_122 ?_
  refine ww_icmp_gt (tgt := 130) C dX9_isNear_123 (by decide) (fun hc => ?_) (fun hc => ?_)
  · have h := ite_t h hc
    refine ww_iconst (v := 0) C dX9_isNear_130 (by decide) ?_
    exact ww_zret C h.1 h.2 dX9_isNear_131
  · have h := ite_f h hc
    refine ww_iconst (v := 1) C dX9_isNear_126 (by decide) ?_
    refine ww_goto (tgt := 131) C dX9_isNear_127 (by decide) ?_
    exact ww_zret C h.1 h.2 dX9_isNear_131
theorem c_X9_isNear {l : Launch} {D : va_G} {ad : Nat → Nat} {kK kV : Nat → Nat} {cI cZ : ClassId} {N : Nat} {x1 : Int32} {x2 : Int32} {x3 : Int32} {u : UU} {Q : Int32 → UU → Prop} (h : m_X9_isNear N x1 x2 x3 u Q) : MI l D [(cI, .int), (cZ, .boolean)] (EH kK kV) yX9_isNear (Cond.code yX9_isNear cX9_isNear 9 (some .boolean)) rm_X9_isNear [.ref (ad 5), .int x1, .int x2, .int x3] (wH ad cI cZ u) (wH ad cI cZ) Q :=
  MI_of (own := RX9) (by decide) rfl (Nat.le_of_ble_eq_true rfl) rfl (fun p e s m args below meth c A C => w_X9_isNear C h)
theorem hd_X9_isNear : yX9_isNear.cls ≠ "java/lang/invoke/MethodHandle" ∧ yX9_isNear.cls ≠ "java/lang/invoke/VarHandle" ∧ (parseMethodDescriptor yX9_isNear.desc).map (fun d => d.parameters.length) = some 3 := by decide +kernel
abbrev rm_X9_hitsAlong : Room := { frames := 1, cells := 0, slots := 0, locals := 28 }
set_option maxRecDepth 100000 in
theorem w_X9_hitsAlong_41 {p : Program} {l : Launch} {e : Env} {s : State} {m : MethodId} {args : Array Value} {below : List Frame} {meth : Method} {c : Code} {A : Nat → Prop} {D : va_G} {ad : Nat → Nat} {kK kV : Nat → Nat} {cI cZ : ClassId} {N : Nat} {Q : Int32 → UU → Prop} {k5 : Int32 → Int32 → Int32 → Int32 → UU → Prop} (C : Cx p m c cX9_hitsAlong 5 s args RX9 meth (some .int) A D [(cI, .int), (cZ, .boolean)] (EH kK kV)) (hk5 : ∀ (x1 : Int32) (x2 : Int32) (x3 : Int32) (x4 : Int32) (u : UU), k5 x1 x2 x3 x4 u → WW p l e rm_X9_hitsAlong s m args below meth c 0 0 (MQ below (QI D A (wH ad cI cZ) Q) args s 0 0 A) A D 5 5 [(0, .ref (ad 5)), (1, .int x1), (2, .int x2), (3, .int x3), (4, .int x4)] [] (wH ad cI cZ u)) : ∀ {x1 : Int32} {x2 : Int32} {x3 : Int32} {x4 : Int32} {u : UU}, m_X9_hitsAlong_41 N k5 x1 x2 x3 x4 u Q → WW p l e rm_X9_hitsAlong s m args below meth c 0 0 (MQ below (QI D A (wH ad cI cZ) Q) args s 0 0 A) A D 5 41 [(0, .ref (ad 5)), (1, .int x1), (2, .int x2), (3, .int x3), (4, .int x4)] [] (wH ad cI cZ u) := by
  intro x1 x2 x3 x4 u h
  unfold m_X9_hitsAlong_41 at h
  obtain ⟨z_1, ez_1⟩ : ∃ z_1 : Int32, z_1 = x4 + (1 : Int32) := ⟨_, rfl⟩
  have h := h z_1 ez_1
  refine ww_iinc (i := 4) (j := 4) (v := z_1) (lv' := [(4, .int z_1), (0, .ref (ad 5)), (1, .int x1), (2, .int x2), (3, .int x3)]) C dX9_hitsAlong_41 rfl (by rw [ez_1]; rfl) (by decide) rfl ?_
  refine ww_goto (tgt := 5) C dX9_hitsAlong_44 (by decide) ?_
  refine ww_sub [1, 2, 3, 4, 0] rfl ?_
  exact hk5 _ _ _ _ _ h
set_option maxRecDepth 100000 in
theorem w_X9_hitsAlong_5 {p : Program} {l : Launch} {e : Env} {s : State} {m : MethodId} {args : Array Value} {below : List Frame} {meth : Method} {c : Code} {A : Nat → Prop} {D : va_G} {ad : Nat → Nat} {kK kV : Nat → Nat} {cI cZ : ClassId} {N : Nat} {Q : Int32 → UU → Prop} (C : Cx p m c cX9_hitsAlong 5 s args RX9 meth (some .int) A D [(cI, .int), (cZ, .boolean)] (EH kK kV)) : ∀ (n : Nat) (x1 : Int32) (x2 : Int32) (x3 : Int32) (x4 : Int32) (u : UU), m_X9_hitsAlong_5 N Q n x1 x2 x3 x4 u → WW p l e rm_X9_hitsAlong s m args below meth c 0 0 (MQ below (QI D A (wH ad cI cZ) Q) args s 0 0 A) A D 5 5 [(0, .ref (ad 5)), (1, .int x1), (2, .int x2), (3, .int x3), (4, .int x4)] [] (wH ad cI cZ u) := by
  intro n
  induction n with
  | zero => intro x1 x2 x3 x4 u h; rw [m_X9_hitsAlong_5] at h; exact h.elim
  | succ n ih =>
    intro x1 x2 x3 x4 u h
    rw [m_X9_hitsAlong_5] at h
    refine ww_iload C dX9_hitsAlong_5 4 rfl ?_
    refine ww_aload_n C dX9_hitsAlong_7 rfl 0 rfl ?_
    refine ww_get C inX9 rfl 0 (by decide) tb_1_141 HF_5_0 dX9_hitsAlong_8 ?_
    refine ww_get C inX0 rfl 3 (by decide) tb_1_45 HF_1_3 dX9_hitsAlong_11 ?_
    refine ww_icmp_ge (tgt := 47) C dX9_hitsAlong_14 (by decide) (fun hc => ?_) (fun hc => ?_)
    · have h := ite_t h hc
      refine ww_iload_n C dX9_hitsAlong_47 rfl 3 rfl ?_
      exact ww_iret C h dX9_hitsAlong_48
    · have h := ite_f h hc
      refine ww_aload_n C dX9_hitsAlong_17 rfl 0 rfl ?_
      refine ww_get C inX9 rfl 1 (by decide) tb_1_142 HF_5_1 dX9_hitsAlong_18 ?_
      refine ww_iload C dX9_hitsAlong_21 4 rfl ?_
      obtain ⟨hin, h⟩ := h
      refine ww_zald C 1 rfl HA_27 hin dX9_hitsAlong_23 ?_
      refine ww_if_eq (tgt := 41) C dX9_hitsAlong_24 (by decide) (fun hc => ?_) (fun hc => ?_)
      · have h := ite_t h hc
        exact w_X9_hitsAlong_41 C ih h
      · have h := ite_f h hc
        refine ww_aload_n C dX9_hitsAlong_27 rfl 0 rfl ?_
        refine ww_iload_n C dX9_hitsAlong_28 rfl 1 rfl ?_
        refine ww_iload_n C dX9_hitsAlong_29 rfl 2 rfl ?_
        refine ww_iload C dX9_hitsAlong_30 4 rfl ?_
        refine ww_callVi (As := [.int x1, .int x2, .int x4]) (rest := []) C EH_ok (c_X9_isNear h) tb_3_27 tb_3_29 tbs_10 tb_1_6 tb_3_30 rfl rfl ⟨rfl, hd_X9_isNear⟩ ⟨Nat.le_of_ble_eq_true rfl, Nat.le_of_ble_eq_true rfl⟩ rfl HF_5_0 rfl rfl (Nat.le_of_ble_eq_true rfl) dX9_hitsAlong_32 ⟨Nat.zero_le _, Nat.zero_le _⟩ (fun r_2 u_1 h => ?_)
        refine ww_if_eq (tgt := 41) C dX9_hitsAlong_35 (by decide) (fun hc => ?_) (fun hc => ?_)
        · have h := ite_t h hc
          exact w_X9_hitsAlong_41 C ih h
        · have h := ite_f h hc
          obtain ⟨z_3, ez_3⟩ : ∃ z_3 : Int32, z_3 = x3 + (1 : Int32) := ⟨_, rfl⟩
          have h := h z_3 ez_3
          refine ww_iinc (i := 3) (j := 3) (v := z_3) (lv' := [(3, .int z_3), (0, .ref (ad 5)), (1, .int x1), (2, .int x2), (4, .int x4)]) C dX9_hitsAlong_38 rfl (by rw [ez_3]; rfl) (by decide) rfl ?_
          refine ww_sub [1, 2, 3, 0, 4] rfl ?_
          exact w_X9_hitsAlong_41 C ih h
set_option maxRecDepth 100000 in
theorem w_X9_hitsAlong {p : Program} {l : Launch} {e : Env} {s : State} {m : MethodId} {args : Array Value} {below : List Frame} {meth : Method} {c : Code} {A : Nat → Prop} {D : va_G} {ad : Nat → Nat} {kK kV : Nat → Nat} {cI cZ : ClassId} {N : Nat} {Q : Int32 → UU → Prop} (C : Cx p m c cX9_hitsAlong 5 s args RX9 meth (some .int) A D [(cI, .int), (cZ, .boolean)] (EH kK kV)) : ∀ {x1 : Int32} {x2 : Int32} {u : UU}, m_X9_hitsAlong N x1 x2 u Q → WW p l e rm_X9_hitsAlong s m args below meth c 0 0 (MQ below (QI D A (wH ad cI cZ) Q) args s 0 0 A) A D 5 0 [(0, .ref (ad 5)), (1, .int x1), (2, .int x2)] [] (wH ad cI cZ u) := by
  intro x1 x2 u h
  unfold m_X9_hitsAlong at h
  refine ww_iconst (v := 0) C dX9_hitsAlong_0 (by decide) ?_
  refine ww_istore_n (i := 3) (lv' := [(3, .int (0 : Int32)), (0, .ref (ad 5)), (1, .int x1), (2, .int x2)]) C dX9_hitsAlong_1 rfl (by decide) rfl ?_
  refine ww_iconst (v := 0) C dX9_hitsAlong_2 (by decide) ?_
  refine ww_istore (i := 4) (lv' := [(4, .int (0 : Int32)), (3, .int (0 : Int32)), (0, .ref (ad 5)), (1, .int x1), (2, .int x2)]) C dX9_hitsAlong_3 (by decide) rfl ?_
  refine ww_sub [2, 3, 4, 1, 0] rfl ?_
  exact w_X9_hitsAlong_5 C N _ _ _ _ _ h
theorem c_X9_hitsAlong {l : Launch} {D : va_G} {ad : Nat → Nat} {kK kV : Nat → Nat} {cI cZ : ClassId} {N : Nat} {x1 : Int32} {x2 : Int32} {u : UU} {Q : Int32 → UU → Prop} (h : m_X9_hitsAlong N x1 x2 u Q) : MI l D [(cI, .int), (cZ, .boolean)] (EH kK kV) yX9_hitsAlong (Cond.code yX9_hitsAlong cX9_hitsAlong 5 (some .int)) rm_X9_hitsAlong [.ref (ad 5), .int x1, .int x2] (wH ad cI cZ u) (wH ad cI cZ) Q :=
  MI_of (own := RX9) (by decide) rfl (Nat.le_of_ble_eq_true rfl) rfl (fun p e s m args below meth c A C => w_X9_hitsAlong C h)
theorem hd_X9_hitsAlong : yX9_hitsAlong.cls ≠ "java/lang/invoke/MethodHandle" ∧ yX9_hitsAlong.cls ≠ "java/lang/invoke/VarHandle" ∧ (parseMethodDescriptor yX9_hitsAlong.desc).map (fun d => d.parameters.length) = some 2 := by decide +kernel
abbrev rm_X9_draw : Room := { frames := 2, cells := 0, slots := 0, locals := 52 }
set_option maxRecDepth 100000 in
theorem w_X9_draw_109 {p : Program} {l : Launch} {e : Env} {s : State} {m : MethodId} {args : Array Value} {below : List Frame} {meth : Method} {c : Code} {A : Nat → Prop} {D : va_G} {ad : Nat → Nat} {kK kV : Nat → Nat} {cI cZ : ClassId} {N : Nat} {Q : Int32 → UU → Prop} {k19 : Int32 → Int32 → UU → Prop} {k35 : Int32 → Int32 → Int32 → UU → Prop} (C : Cx p m c cX9_draw 6 s args RX9 meth (some .int) A D [(cI, .int), (cZ, .boolean)] (EH kK kV)) (hk19 : ∀ (x2 : Int32) (x3 : Int32) (u : UU), k19 x2 x3 u → WW p l e rm_X9_draw s m args below meth c 0 0 (MQ below (QI D A (wH ad cI cZ) Q) args s 0 0 A) A D 6 19 [(0, .ref (ad 5)), (2, .int x2), (3, .int x3)] [] (wH ad cI cZ u)) (hk35 : ∀ (x2 : Int32) (x3 : Int32) (x4 : Int32) (u : UU), k35 x2 x3 x4 u → WW p l e rm_X9_draw s m args below meth c 0 0 (MQ below (QI D A (wH ad cI cZ) Q) args s 0 0 A) A D 6 35 [(0, .ref (ad 5)), (2, .int x2), (3, .int x3), (4, .int x4)] [] (wH ad cI cZ u)) : ∀ {x2 : Int32} {x3 : Int32} {x4 : Int32} {u : UU}, m_X9_draw_109 N k19 k35 x2 x3 x4 u Q → WW p l e rm_X9_draw s m args below meth c 0 0 (MQ below (QI D A (wH ad cI cZ) Q) args s 0 0 A) A D 6 109 [(0, .ref (ad 5)), (2, .int x2), (3, .int x3), (4, .int x4)] [] (wH ad cI cZ u) := by
  intro x2 x3 x4 u h
  unfold m_X9_draw_109 at h
  obtain ⟨z_1, ez_1⟩ : ∃ z_1 : Int32, z_1 = x4 + (1 : Int32) := ⟨_, rfl⟩
  have h := h z_1 ez_1
  refine ww_iinc (i := 4) (j := 3) (v := z_1) (lv' := [(4, .int z_1), (0, .ref (ad 5)), (2, .int x2), (3, .int x3)]) C dX9_draw_109 rfl (by rw [ez_1]; rfl) (by decide) rfl ?_
  refine ww_goto (tgt := 35) C dX9_draw_112 (by decide) ?_
  refine ww_sub [1, 2, 3, 0] rfl ?_
  exact hk35 _ _ _ _ h
set_option maxRecDepth 100000 in
theorem w_X9_draw_87 {p : Program} {l : Launch} {e : Env} {s : State} {m : MethodId} {args : Array Value} {below : List Frame} {meth : Method} {c : Code} {A : Nat → Prop} {D : va_G} {ad : Nat → Nat} {kK kV : Nat → Nat} {cI cZ : ClassId} {N : Nat} {Q : Int32 → UU → Prop} {k19 : Int32 → Int32 → UU → Prop} {k35 : Int32 → Int32 → Int32 → UU → Prop} (C : Cx p m c cX9_draw 6 s args RX9 meth (some .int) A D [(cI, .int), (cZ, .boolean)] (EH kK kV)) (hk19 : ∀ (x2 : Int32) (x3 : Int32) (u : UU), k19 x2 x3 u → WW p l e rm_X9_draw s m args below meth c 0 0 (MQ below (QI D A (wH ad cI cZ) Q) args s 0 0 A) A D 6 19 [(0, .ref (ad 5)), (2, .int x2), (3, .int x3)] [] (wH ad cI cZ u)) (hk35 : ∀ (x2 : Int32) (x3 : Int32) (x4 : Int32) (u : UU), k35 x2 x3 x4 u → WW p l e rm_X9_draw s m args below meth c 0 0 (MQ below (QI D A (wH ad cI cZ) Q) args s 0 0 A) A D 6 35 [(0, .ref (ad 5)), (2, .int x2), (3, .int x3), (4, .int x4)] [] (wH ad cI cZ u)) : ∀ {x2 : Int32} {x3 : Int32} {x4 : Int32} {y0 : Int32} {u : UU}, m_X9_draw_87 N k19 k35 x2 x3 x4 y0 u Q → WW p l e rm_X9_draw s m args below meth c 0 0 (MQ below (QI D A (wH ad cI cZ) Q) args s 0 0 A) A D 6 87 [(0, .ref (ad 5)), (2, .int x2), (3, .int x3), (4, .int x4)] [.int y0] (wH ad cI cZ u) := by
  intro x2 x3 x4 y0 u h
  unfold m_X9_draw_87 at h
  refine ww_istore (i := 5) (lv' := [(5, .int y0), (0, .ref (ad 5)), (2, .int x2), (3, .int x3), (4, .int x4)]) C dX9_draw_87 (by decide) rfl ?_
  refine ww_iload C dX9_draw_89 0 rfl ?_
  refine ww_iload_n C dX9_draw_91 rfl 2 rfl ?_
  refine ww_icmp_le (tgt := 109) C dX9_draw_92 (by decide) (fun hc => ?_) (fun hc => ?_)
  · have h := ite_t h hc
    refine ww_sub [1, 2, 3, 4] rfl ?_
    exact w_X9_draw_109 C hk19 hk35 h
  · have h := ite_f h hc
    refine ww_iload C dX9_draw_95 0 rfl ?_
    refine ww_istore_n (i := 2) (lv' := [(2, .int y0), (5, .int y0), (0, .ref (ad 5)), (3, .int x3), (4, .int x4)]) C dX9_draw_97 rfl (by decide) rfl ?_
    refine ww_aload_n C dX9_draw_98 rfl 2 rfl ?_
    refine ww_iload_n C dX9_draw_99 rfl 3 rfl ?_
    refine ww_put C inX9 rfl tyX9 tyX9_ok nmX9 3 (by decide) tb_1_144 rfl rfl rfl HS_5_3 dX9_draw_100 ?_
    refine ww_nU (wH ad cI cZ) (fun u_1 eu_1 => ?_)
    have h := h u_1 eu_1
    refine ww_aload_n C dX9_draw_103 rfl 2 rfl ?_
    refine ww_iload C dX9_draw_104 4 rfl ?_
    refine ww_put C inX9 rfl tyX9 tyX9_ok nmX9 4 (by decide) tb_1_146 rfl rfl rfl HS_5_4 dX9_draw_106 ?_
    refine ww_nU (wH ad cI cZ) (fun u_2 eu_2 => ?_)
    have h := h u_2 eu_2
    refine ww_sub [2, 0, 3, 4] rfl ?_
    exact w_X9_draw_109 C hk19 hk35 h
set_option maxRecDepth 100000 in
theorem w_X9_draw_86 {p : Program} {l : Launch} {e : Env} {s : State} {m : MethodId} {args : Array Value} {below : List Frame} {meth : Method} {c : Code} {A : Nat → Prop} {D : va_G} {ad : Nat → Nat} {kK kV : Nat → Nat} {cI cZ : ClassId} {N : Nat} {Q : Int32 → UU → Prop} {k19 : Int32 → Int32 → UU → Prop} {k35 : Int32 → Int32 → Int32 → UU → Prop} (C : Cx p m c cX9_draw 6 s args RX9 meth (some .int) A D [(cI, .int), (cZ, .boolean)] (EH kK kV)) (hk19 : ∀ (x2 : Int32) (x3 : Int32) (u : UU), k19 x2 x3 u → WW p l e rm_X9_draw s m args below meth c 0 0 (MQ below (QI D A (wH ad cI cZ) Q) args s 0 0 A) A D 6 19 [(0, .ref (ad 5)), (2, .int x2), (3, .int x3)] [] (wH ad cI cZ u)) (hk35 : ∀ (x2 : Int32) (x3 : Int32) (x4 : Int32) (u : UU), k35 x2 x3 x4 u → WW p l e rm_X9_draw s m args below meth c 0 0 (MQ below (QI D A (wH ad cI cZ) Q) args s 0 0 A) A D 6 35 [(0, .ref (ad 5)), (2, .int x2), (3, .int x3), (4, .int x4)] [] (wH ad cI cZ u)) : ∀ {x2 : Int32} {x3 : Int32} {x4 : Int32} {u : UU}, m_X9_draw_86 N k19 k35 x2 x3 x4 u Q → WW p l e rm_X9_draw s m args below meth c 0 0 (MQ below (QI D A (wH ad cI cZ) Q) args s 0 0 A) A D 6 86 [(0, .ref (ad 5)), (2, .int x2), (3, .int x3), (4, .int x4)] [] (wH ad cI cZ u) := by
  intro x2 x3 x4 u h
  unfold m_X9_draw_86 at h
  refine ww_iconst (v := 0) C dX9_draw_86 (by decide) ?_
  exact w_X9_draw_87 C hk19 hk35 h
set_option maxRecDepth 100000 in
theorem w_X9_draw_35 {p : Program} {l : Launch} {e : Env} {s : State} {m : MethodId} {args : Array Value} {below : List Frame} {meth : Method} {c : Code} {A : Nat → Prop} {D : va_G} {ad : Nat → Nat} {kK kV : Nat → Nat} {cI cZ : ClassId} {N : Nat} {Q : Int32 → UU → Prop} {k19 : Int32 → Int32 → UU → Prop} (C : Cx p m c cX9_draw 6 s args RX9 meth (some .int) A D [(cI, .int), (cZ, .boolean)] (EH kK kV)) (hk19 : ∀ (x2 : Int32) (x3 : Int32) (u : UU), k19 x2 x3 u → WW p l e rm_X9_draw s m args below meth c 0 0 (MQ below (QI D A (wH ad cI cZ) Q) args s 0 0 A) A D 6 19 [(0, .ref (ad 5)), (2, .int x2), (3, .int x3)] [] (wH ad cI cZ u)) : ∀ (n : Nat) (x2 : Int32) (x3 : Int32) (x4 : Int32) (u : UU), m_X9_draw_35 N k19 Q n x2 x3 x4 u → WW p l e rm_X9_draw s m args below meth c 0 0 (MQ below (QI D A (wH ad cI cZ) Q) args s 0 0 A) A D 6 35 [(0, .ref (ad 5)), (2, .int x2), (3, .int x3), (4, .int x4)] [] (wH ad cI cZ u) := by
  intro n
  induction n with
  | zero => intro x2 x3 x4 u h; rw [m_X9_draw_35] at h; exact h.elim
  | succ n ih =>
    intro x2 x3 x4 u h
    rw [m_X9_draw_35] at h
    refine ww_iload C dX9_draw_35 3 rfl ?_
    refine ww_aload_n C dX9_draw_37 rfl 0 rfl ?_
    refine ww_get C inX9 rfl 0 (by decide) tb_1_141 HF_5_0 dX9_draw_38 ?_
    refine ww_get C inX0 rfl 3 (by decide) tb_1_45 HF_1_3 dX9_draw_41 ?_
    refine ww_icmp_ge (tgt := 115) C dX9_draw_44 (by decide) (fun hc => ?_) (fun hc => ?_)
    · have h := ite_t h hc
      obtain ⟨z_1, ez_1⟩ : ∃ z_1 : Int32, z_1 = x3 + (1 : Int32) := ⟨_, rfl⟩
      have h := h z_1 ez_1
      refine ww_iinc (i := 3) (j := 2) (v := z_1) (lv' := [(3, .int z_1), (0, .ref (ad 5)), (2, .int x2), (4, .int x4)]) C dX9_draw_115 rfl (by rw [ez_1]; rfl) (by decide) rfl ?_
      refine ww_goto (tgt := 19) C dX9_draw_118 (by decide) ?_
      refine ww_sub [1, 2, 0] rfl ?_
      exact hk19 _ _ _ h
    · have h := ite_f h hc
      refine ww_aload_n C dX9_draw_47 rfl 0 rfl ?_
      refine ww_get C inX9 rfl 1 (by decide) tb_1_142 HF_5_1 dX9_draw_48 ?_
      refine ww_iload_n C dX9_draw_51 rfl 2 rfl ?_
      obtain ⟨hin, h⟩ := h
      refine ww_zald C 1 rfl HA_27 hin dX9_draw_52 ?_
      refine ww_if_eq (tgt := 86) C dX9_draw_53 (by decide) (fun hc => ?_) (fun hc => ?_)
      · have h := ite_t h hc
        exact w_X9_draw_86 C hk19 ih h
      · have h := ite_f h hc
        refine ww_aload_n C dX9_draw_56 rfl 0 rfl ?_
        refine ww_get C inX9 rfl 1 (by decide) tb_1_142 HF_5_1 dX9_draw_57 ?_
        refine ww_iload C dX9_draw_60 3 rfl ?_
        obtain ⟨hin, h⟩ := h
        refine ww_zald C 1 rfl HA_27 hin dX9_draw_62 ?_
        refine ww_if_eq (tgt := 86) C dX9_draw_63 (by decide) (fun hc => ?_) (fun hc => ?_)
        · have h := ite_t h hc
          exact w_X9_draw_86 C hk19 ih h
        · have h := ite_f h hc
          refine ww_aload_n C dX9_draw_66 rfl 0 rfl ?_
          refine ww_iload_n C dX9_draw_67 rfl 2 rfl ?_
          refine ww_iload C dX9_draw_68 3 rfl ?_
          refine ww_callVi (As := [.int x3, .int x4]) (rest := []) C EH_ok (c_X9_areApart h) tb_3_19 tb_3_21 tbs_8 tb_1_6 tb_3_22 rfl rfl ⟨rfl, hd_X9_areApart⟩ ⟨Nat.le_of_ble_eq_true rfl, Nat.le_of_ble_eq_true rfl⟩ rfl HF_5_0 rfl rfl (Nat.le_of_ble_eq_true rfl) dX9_draw_70 ⟨Nat.zero_le _, Nat.zero_le _⟩ (fun r_3 u_2 h => ?_)
          refine ww_if_eq (tgt := 86) C dX9_draw_73 (by decide) (fun hc => ?_) (fun hc => ?_)
          · have h := ite_t h hc
            exact w_X9_draw_86 C hk19 ih h
          · have h := ite_f h hc
            refine ww_aload_n C dX9_draw_76 rfl 0 rfl ?_
            refine ww_iload_n C dX9_draw_77 rfl 2 rfl ?_
            refine ww_iload C dX9_draw_78 3 rfl ?_
            refine ww_callVi (As := [.int x3, .int x4]) (rest := []) C EH_ok (c_X9_hitsAlong h) tb_3_23 tb_3_25 tbs_9 tb_1_6 tb_3_26 rfl rfl ⟨rfl, hd_X9_hitsAlong⟩ ⟨Nat.le_of_ble_eq_true rfl, Nat.le_of_ble_eq_true rfl⟩ rfl HF_5_0 rfl rfl (Nat.le_of_ble_eq_true rfl) dX9_draw_80 ⟨Nat.zero_le _, Nat.zero_le _⟩ (fun r_5 u_4 h => ?_)
            refine ww_goto (tgt := 87) C dX9_draw_83 (by decide) ?_
            exact w_X9_draw_87 C hk19 ih h
set_option maxRecDepth 100000 in
theorem w_X9_draw_19 {p : Program} {l : Launch} {e : Env} {s : State} {m : MethodId} {args : Array Value} {below : List Frame} {meth : Method} {c : Code} {A : Nat → Prop} {D : va_G} {ad : Nat → Nat} {kK kV : Nat → Nat} {cI cZ : ClassId} {N : Nat} {Q : Int32 → UU → Prop} (C : Cx p m c cX9_draw 6 s args RX9 meth (some .int) A D [(cI, .int), (cZ, .boolean)] (EH kK kV)) : ∀ (n : Nat) (x2 : Int32) (x3 : Int32) (u : UU), m_X9_draw_19 N Q n x2 x3 u → WW p l e rm_X9_draw s m args below meth c 0 0 (MQ below (QI D A (wH ad cI cZ) Q) args s 0 0 A) A D 6 19 [(0, .ref (ad 5)), (2, .int x2), (3, .int x3)] [] (wH ad cI cZ u) := by
  intro n
  induction n with
  | zero => intro x2 x3 u h; rw [m_X9_draw_19] at h; exact h.elim
  | succ n ih =>
    intro x2 x3 u h
    rw [m_X9_draw_19] at h
    refine ww_iload_n C dX9_draw_19 rfl 2 rfl ?_
    refine ww_aload_n C dX9_draw_20 rfl 0 rfl ?_
    refine ww_get C inX9 rfl 0 (by decide) tb_1_141 HF_5_0 dX9_draw_21 ?_
    refine ww_get C inX0 rfl 3 (by decide) tb_1_45 HF_1_3 dX9_draw_24 ?_
    refine ww_icmp_ge (tgt := 121) C dX9_draw_27 (by decide) (fun hc => ?_) (fun hc => ?_)
    · have h := ite_t h hc
      refine ww_iload_n C dX9_draw_121 rfl 1 rfl ?_
      exact ww_iret C h dX9_draw_122
    · have h := ite_f h hc
      refine ww_iload_n C dX9_draw_30 rfl 2 rfl ?_
      refine ww_iconst (v := 1) C dX9_draw_31 (by decide) ?_
      refine ww_iadd C dX9_draw_32 ?_
      refine ww_nI (fun z_1 ez_1 => ?_)
      have h := h z_1 ez_1
      refine ww_istore (i := 4) (lv' := [(4, .int z_1), (0, .ref (ad 5)), (2, .int x2), (3, .int x3)]) C dX9_draw_33 (by decide) rfl ?_
      refine ww_sub [1, 2, 3, 0] rfl ?_
      exact w_X9_draw_35 C ih N _ _ _ _ h
set_option maxRecDepth 100000 in
theorem w_X9_draw {p : Program} {l : Launch} {e : Env} {s : State} {m : MethodId} {args : Array Value} {below : List Frame} {meth : Method} {c : Code} {A : Nat → Prop} {D : va_G} {ad : Nat → Nat} {kK kV : Nat → Nat} {cI cZ : ClassId} {N : Nat} {Q : Int32 → UU → Prop} (C : Cx p m c cX9_draw 6 s args RX9 meth (some .int) A D [(cI, .int), (cZ, .boolean)] (EH kK kV)) : ∀ {x1 : Int32} {u : UU}, m_X9_draw N x1 u Q → WW p l e rm_X9_draw s m args below meth c 0 0 (MQ below (QI D A (wH ad cI cZ) Q) args s 0 0 A) A D 6 0 [(0, .ref (ad 5)), (1, .int x1)] [] (wH ad cI cZ u) := by
  intro x1 u h
  unfold m_X9_draw at h
  refine ww_aload_n C dX9_draw_0 rfl 0 rfl ?_
  refine ww_iload_n C dX9_draw_1 rfl 1 rfl ?_
  refine ww_put C inX9 rfl tyX9 tyX9_ok nmX9 2 (by decide) tb_1_143 rfl rfl rfl HS_5_2 dX9_draw_2 ?_
  refine ww_nU (wH ad cI cZ) (fun u_1 eu_1 => ?_)
  have h := h u_1 eu_1
  refine ww_aload_n C dX9_draw_5 rfl 0 rfl ?_
  refine ww_iconst (v := (-1)) C dX9_draw_6 (by decide) ?_
  refine ww_put C inX9 rfl tyX9 tyX9_ok nmX9 3 (by decide) tb_1_144 rfl rfl rfl HS_5_3 dX9_draw_7 ?_
  refine ww_nU (wH ad cI cZ) (fun u_2 eu_2 => ?_)
  have h := h u_2 eu_2
  refine ww_aload_n C dX9_draw_10 rfl 0 rfl ?_
  refine ww_iconst (v := (-1)) C dX9_draw_11 (by decide) ?_
  refine ww_put C inX9 rfl tyX9 tyX9_ok nmX9 4 (by decide) tb_1_146 rfl rfl rfl HS_5_4 dX9_draw_12 ?_
  refine ww_nU (wH ad cI cZ) (fun u_3 eu_3 => ?_)
  have h := h u_3 eu_3
  refine ww_iconst (v := 0) C dX9_draw_15 (by decide) ?_
  refine ww_istore_n (i := 2) (lv' := [(2, .int (0 : Int32)), (0, .ref (ad 5)), (1, .int x1)]) C dX9_draw_16 rfl (by decide) rfl ?_
  refine ww_iconst (v := 0) C dX9_draw_17 (by decide) ?_
  refine ww_istore_n (i := 3) (lv' := [(3, .int (0 : Int32)), (2, .int (0 : Int32)), (0, .ref (ad 5)), (1, .int x1)]) C dX9_draw_18 rfl (by decide) rfl ?_
  refine ww_sub [2, 1, 0] rfl ?_
  exact w_X9_draw_19 C N _ _ _ h
theorem c_X9_draw {l : Launch} {D : va_G} {ad : Nat → Nat} {kK kV : Nat → Nat} {cI cZ : ClassId} {N : Nat} {x1 : Int32} {u : UU} {Q : Int32 → UU → Prop} (h : m_X9_draw N x1 u Q) : MI l D [(cI, .int), (cZ, .boolean)] (EH kK kV) yX9_draw (Cond.code yX9_draw cX9_draw 6 (some .int)) rm_X9_draw [.ref (ad 5), .int x1] (wH ad cI cZ u) (wH ad cI cZ) Q :=
  MI_of (own := RX9) (by decide) rfl (Nat.le_of_ble_eq_true rfl) rfl (fun p e s m args below meth c A C => w_X9_draw C h)
theorem hd_X9_draw : yX9_draw.cls ≠ "java/lang/invoke/MethodHandle" ∧ yX9_draw.cls ≠ "java/lang/invoke/VarHandle" ∧ (parseMethodDescriptor yX9_draw.desc).map (fun d => d.parameters.length) = some 1 := by decide +kernel
abbrev rm_X11_track : Room := { frames := 5, cells := 0, slots := 0, locals := 116 }
set_option maxRecDepth 100000 in
theorem w_X11_track_85 {p : Program} {l : Launch} {e : Env} {s : State} {m : MethodId} {args : Array Value} {below : List Frame} {meth : Method} {c : Code} {A : Nat → Prop} {D : va_G} {ad : Nat → Nat} {kK kV : Nat → Nat} {cI cZ : ClassId} {N : Nat} {Q : Int32 → UU → Prop} {k37 : Int32 → Int32 → Int32 → UU → Prop} (C : Cx p m c cX11_track 5 s args RX11 meth (some .int) A D [(cI, .int), (cZ, .boolean)] (EH kK kV)) (hk37 : ∀ (x1 : Int32) (x2 : Int32) (x4 : Int32) (u : UU), k37 x1 x2 x4 u → WW p l e rm_X11_track s m args below meth c 0 0 (MQ below (QI D A (wH ad cI cZ) Q) args s 0 0 A) A D 5 37 [(0, .ref (ad 0)), (1, .int x1), (2, .int x2), (4, .int x4)] [] (wH ad cI cZ u)) : ∀ {x1 : Int32} {x2 : Int32} {x4 : Int32} {y1 : Int32} {y2 : Int32} {u : UU}, m_X11_track_85 N k37 x1 x2 x4 y1 y2 u Q → WW p l e rm_X11_track s m args below meth c 0 0 (MQ below (QI D A (wH ad cI cZ) Q) args s 0 0 A) A D 5 85 [(0, .ref (ad 0)), (1, .int x1), (2, .int x2), (4, .int x4)] [.int y2, .int y1, .ref (ad 5)] (wH ad cI cZ u) := by
  intro x1 x2 x4 y1 y2 u h
  unfold m_X11_track_85 at h
  refine ww_callVv (As := [.int y1, .int y2]) (rest := []) C EH_ok (c_X9_mark h) tb_3_10 tb_3_11 tb_3_12 tb_1_6 tb_3_13 rfl rfl ⟨rfl, hd_X9_mark⟩ ⟨Nat.le_of_ble_eq_true rfl, Nat.le_of_ble_eq_true rfl⟩ rfl HF_5_0 rfl rfl (Nat.le_of_ble_eq_true rfl) dX11_track_85 ⟨Nat.zero_le _, Nat.zero_le _⟩ (fun u_1 h => ?_)
  obtain ⟨z_3, ez_3⟩ : ∃ z_3 : Int32, z_3 = x4 + (1 : Int32) := ⟨_, rfl⟩
  have h := h z_3 ez_3
  refine ww_iinc (i := 4) (j := 3) (v := z_3) (lv' := [(4, .int z_3), (0, .ref (ad 0)), (1, .int x1), (2, .int x2)]) C dX11_track_88 rfl (by rw [ez_3]; rfl) (by decide) rfl ?_
  refine ww_goto (tgt := 37) C dX11_track_91 (by decide) ?_
  refine ww_sub [1, 2, 3, 0] rfl ?_
  exact hk37 _ _ _ _ h
set_option maxRecDepth 100000 in
theorem w_X11_track_84 {p : Program} {l : Launch} {e : Env} {s : State} {m : MethodId} {args : Array Value} {below : List Frame} {meth : Method} {c : Code} {A : Nat → Prop} {D : va_G} {ad : Nat → Nat} {kK kV : Nat → Nat} {cI cZ : ClassId} {N : Nat} {Q : Int32 → UU → Prop} {k37 : Int32 → Int32 → Int32 → UU → Prop} (C : Cx p m c cX11_track 5 s args RX11 meth (some .int) A D [(cI, .int), (cZ, .boolean)] (EH kK kV)) (hk37 : ∀ (x1 : Int32) (x2 : Int32) (x4 : Int32) (u : UU), k37 x1 x2 x4 u → WW p l e rm_X11_track s m args below meth c 0 0 (MQ below (QI D A (wH ad cI cZ) Q) args s 0 0 A) A D 5 37 [(0, .ref (ad 0)), (1, .int x1), (2, .int x2), (4, .int x4)] [] (wH ad cI cZ u)) : ∀ {x1 : Int32} {x2 : Int32} {x4 : Int32} {y1 : Int32} {u : UU}, m_X11_track_84 N k37 x1 x2 x4 y1 u Q → WW p l e rm_X11_track s m args below meth c 0 0 (MQ below (QI D A (wH ad cI cZ) Q) args s 0 0 A) A D 5 84 [(0, .ref (ad 0)), (1, .int x1), (2, .int x2), (4, .int x4)] [.int y1, .ref (ad 5)] (wH ad cI cZ u) := by
  intro x1 x2 x4 y1 u h
  unfold m_X11_track_84 at h
  refine ww_iconst (v := 0) C dX11_track_84 (by decide) ?_
  exact w_X11_track_85 C hk37 h
set_option maxRecDepth 100000 in
theorem w_X11_track_37 {p : Program} {l : Launch} {e : Env} {s : State} {m : MethodId} {args : Array Value} {below : List Frame} {meth : Method} {c : Code} {A : Nat → Prop} {D : va_G} {ad : Nat → Nat} {kK kV : Nat → Nat} {cI cZ : ClassId} {N : Nat} {Q : Int32 → UU → Prop} (C : Cx p m c cX11_track 5 s args RX11 meth (some .int) A D [(cI, .int), (cZ, .boolean)] (EH kK kV)) : ∀ (n : Nat) (x1 : Int32) (x2 : Int32) (x4 : Int32) (u : UU), m_X11_track_37 N Q n x1 x2 x4 u → WW p l e rm_X11_track s m args below meth c 0 0 (MQ below (QI D A (wH ad cI cZ) Q) args s 0 0 A) A D 5 37 [(0, .ref (ad 0)), (1, .int x1), (2, .int x2), (4, .int x4)] [] (wH ad cI cZ u) := by
  intro n
  induction n with
  | zero => intro x1 x2 x4 u h; rw [m_X11_track_37] at h; exact h.elim
  | succ n ih =>
    intro x1 x2 x4 u h
    rw [m_X11_track_37] at h
    refine ww_iload C dX11_track_37 3 rfl ?_
    refine ww_aload_n C dX11_track_39 rfl 0 rfl ?_
    refine ww_get C inX11 rfl 0 (by decide) tb_2_49 HF_0_0 dX11_track_40 ?_
    refine ww_get C inX0 rfl 3 (by decide) tb_1_44 HF_1_3 dX11_track_43 ?_
    refine ww_icmp_ge (tgt := 94) C dX11_track_46 (by decide) (fun hc => ?_) (fun hc => ?_)
    · have h := ite_t h hc
      refine ww_aload_n C dX11_track_94 rfl 0 rfl ?_
      refine ww_get C inX11 rfl 4 (by decide) tb_2_53 HF_0_4 dX11_track_95 ?_
      refine ww_iload_n C dX11_track_98 rfl 2 rfl ?_
      refine ww_callVi (As := [.int x2]) (rest := []) C EH_ok (c_X9_draw h) tb_3_15 tb_3_16 tb_3_17 tb_1_6 tb_3_18 rfl rfl ⟨rfl, hd_X9_draw⟩ ⟨Nat.le_of_ble_eq_true rfl, Nat.le_of_ble_eq_true rfl⟩ rfl HF_5_0 rfl rfl (Nat.le_of_ble_eq_true rfl) dX11_track_99 ⟨Nat.zero_le _, Nat.zero_le _⟩ (fun r_2 u_1 h => ?_)
      exact ww_iret C h dX11_track_102
    · have h := ite_f h hc
      refine ww_aload_n C dX11_track_49 rfl 0 rfl ?_
      refine ww_get C inX11 rfl 4 (by decide) tb_2_53 HF_0_4 dX11_track_50 ?_
      refine ww_iload C dX11_track_53 3 rfl ?_
      refine ww_aload_n C dX11_track_55 rfl 0 rfl ?_
      refine ww_get C inX11 rfl 3 (by decide) tb_2_52 HF_0_3 dX11_track_56 ?_
      refine ww_iload C dX11_track_59 3 rfl ?_
      refine ww_callVi (As := [.int x4]) (rest := [.int x4, .ref (ad 5)]) C EH_ok (c_X10_isSeen h) tb_2_229 tb_2_230 tb_2_231 tb_1_5 tb_2_232 rfl rfl ⟨rfl, hd_X10_isSeen⟩ ⟨Nat.le_of_ble_eq_true rfl, Nat.le_of_ble_eq_true rfl⟩ rfl HF_4_0 rfl rfl (Nat.le_of_ble_eq_true rfl) dX11_track_61 ⟨Nat.zero_le _, Nat.zero_le _⟩ (fun r_4 u_3 h => ?_)
      refine ww_if_eq (tgt := 84) C dX11_track_64 (by decide) (fun hc => ?_) (fun hc => ?_)
      · have h := ite_t h hc
        exact w_X11_track_84 C ih h
      · have h := ite_f h hc
        refine ww_aload_n C dX11_track_67 rfl 0 rfl ?_
        refine ww_get C inX11 rfl 3 (by decide) tb_2_52 HF_0_3 dX11_track_68 ?_
        refine ww_iload C dX11_track_71 3 rfl ?_
        refine ww_callVi (As := [.int x4]) (rest := [.int x4, .ref (ad 5)]) C EH_ok (c_X10_boardSize h) tb_2_239 tb_3_0 tb_3_1 tb_1_5 tb_3_2 rfl rfl ⟨rfl, hd_X10_boardSize⟩ ⟨Nat.le_of_ble_eq_true rfl, Nat.le_of_ble_eq_true rfl⟩ rfl HF_4_0 rfl rfl (Nat.le_of_ble_eq_true rfl) dX11_track_73 ⟨Nat.zero_le _, Nat.zero_le _⟩ (fun r_6 u_5 h => ?_)
        refine ww_iload_n C dX11_track_76 rfl 1 rfl ?_
        refine ww_icmp_lt (tgt := 84) C dX11_track_77 (by decide) (fun hc => ?_) (fun hc => ?_)
        · have h := ite_t h hc
          exact w_X11_track_84 C ih h
        · have h := ite_f h hc
          refine ww_iconst (v := 1) C dX11_track_80 (by decide) ?_
          refine ww_goto (tgt := 85) C dX11_track_81 (by decide) ?_
          exact w_X11_track_85 C ih h
set_option maxRecDepth 100000 in
theorem w_X11_track {p : Program} {l : Launch} {e : Env} {s : State} {m : MethodId} {args : Array Value} {below : List Frame} {meth : Method} {c : Code} {A : Nat → Prop} {D : va_G} {ad : Nat → Nat} {kK kV : Nat → Nat} {cI cZ : ClassId} {N : Nat} {Q : Int32 → UU → Prop} (C : Cx p m c cX11_track 5 s args RX11 meth (some .int) A D [(cI, .int), (cZ, .boolean)] (EH kK kV)) : ∀ {x1 : Int32} {x2 : Int32} {x3 : Int32} {u : UU}, m_X11_track N x1 x2 x3 u Q → WW p l e rm_X11_track s m args below meth c 0 0 (MQ below (QI D A (wH ad cI cZ) Q) args s 0 0 A) A D 5 0 [(0, .ref (ad 0)), (1, .int x1), (2, .int x2), (3, .int x3)] [] (wH ad cI cZ u) := by
  intro x1 x2 x3 u h
  unfold m_X11_track at h
  refine ww_iload_n C dX11_track_0 rfl 1 rfl ?_
  refine ww_callSi (As := [.int x1]) (rest := []) C EH_ok (c_X11_isSize h) tb_2_150 tb_2_151 tb_1_1 tb_2_152 rfl rfl hd_X11_isSize ⟨Nat.le_of_ble_eq_true rfl, Nat.le_of_ble_eq_true rfl⟩ rfl rfl (Nat.le_of_ble_eq_true rfl) dX11_track_1 ⟨Nat.zero_le _, Nat.zero_le _⟩ (fun r_2 u_1 h => ?_)
  refine ww_if_eq (tgt := 24) C dX11_track_4 (by decide) (fun hc => ?_) (fun hc => ?_)
  · have h := ite_t h hc
    refine ww_iconst (v := (-1)) C dX11_track_24 (by decide) ?_
    exact ww_iret C h dX11_track_25
  · have h := ite_f h hc
    refine ww_iload_n C dX11_track_7 rfl 2 rfl ?_
    refine ww_iconst (v := 0) C dX11_track_8 (by decide) ?_
    refine ww_bipush (v := 20) C dX11_track_9 (by decide) ?_
    refine ww_callSi (As := [.int x2, .int (0 : Int32), .int (20 : Int32)]) (rest := []) C EH_ok (c_X11_isIn h) tb_2_99 tb_2_100 tb_1_1 tb_2_101 rfl rfl hd_X11_isIn ⟨Nat.le_of_ble_eq_true rfl, Nat.le_of_ble_eq_true rfl⟩ rfl rfl (Nat.le_of_ble_eq_true rfl) dX11_track_11 ⟨Nat.zero_le _, Nat.zero_le _⟩ (fun r_4 u_3 h => ?_)
    refine ww_if_eq (tgt := 24) C dX11_track_14 (by decide) (fun hc => ?_) (fun hc => ?_)
    · have h := ite_t h hc
      refine ww_iconst (v := (-1)) C dX11_track_24 (by decide) ?_
      exact ww_iret C h dX11_track_25
    · have h := ite_f h hc
      refine ww_iload_n C dX11_track_17 rfl 3 rfl ?_
      refine ww_callSi (As := [.int x3]) (rest := []) C EH_ok (c_X11_isHour h) tb_2_118 tb_2_119 tb_1_1 tb_2_120 rfl rfl hd_X11_isHour ⟨Nat.le_of_ble_eq_true rfl, Nat.le_of_ble_eq_true rfl⟩ rfl rfl (Nat.le_of_ble_eq_true rfl) dX11_track_18 ⟨Nat.zero_le _, Nat.zero_le _⟩ (fun r_6 u_5 h => ?_)
      refine ww_if_ne (tgt := 26) C dX11_track_21 (by decide) (fun hc => ?_) (fun hc => ?_)
      · have h := ite_f h hc
        refine ww_aload_n C dX11_track_26 rfl 0 rfl ?_
        refine ww_get C inX11 rfl 3 (by decide) tb_2_52 HF_0_3 dX11_track_27 ?_
        refine ww_iload_n C dX11_track_30 rfl 3 rfl ?_
        refine ww_callVv (As := [.int x3]) (rest := []) C EH_ok (c_X10_show h) tb_2_162 tb_2_163 tb_2_164 tb_1_5 tb_2_165 rfl rfl ⟨rfl, hd_X10_show⟩ ⟨Nat.le_of_ble_eq_true rfl, Nat.le_of_ble_eq_true rfl⟩ rfl HF_4_0 rfl rfl (Nat.le_of_ble_eq_true rfl) dX11_track_31 ⟨Nat.zero_le _, Nat.zero_le _⟩ (fun u_7 h => ?_)
        refine ww_iconst (v := 0) C dX11_track_34 (by decide) ?_
        refine ww_istore (i := 4) (lv' := [(4, .int (0 : Int32)), (0, .ref (ad 0)), (1, .int x1), (2, .int x2), (3, .int x3)]) C dX11_track_35 (by decide) rfl ?_
        refine ww_sub [1, 2, 3, 0] rfl ?_
        exact w_X11_track_37 C N _ _ _ _ h
      · have h := ite_t h hc
        refine ww_iconst (v := (-1)) C dX11_track_24 (by decide) ?_
        exact ww_iret C h dX11_track_25
theorem c_X11_track {l : Launch} {D : va_G} {ad : Nat → Nat} {kK kV : Nat → Nat} {cI cZ : ClassId} {N : Nat} {x1 : Int32} {x2 : Int32} {x3 : Int32} {u : UU} {Q : Int32 → UU → Prop} (h : m_X11_track N x1 x2 x3 u Q) : MI l D [(cI, .int), (cZ, .boolean)] (EH kK kV) yX11_track (Cond.code yX11_track cX11_track 5 (some .int)) rm_X11_track [.ref (ad 0), .int x1, .int x2, .int x3] (wH ad cI cZ u) (wH ad cI cZ) Q :=
  MI_of (own := RX11) (by decide) rfl (Nat.le_of_ble_eq_true rfl) rfl (fun p e s m args below meth c A C => w_X11_track C h)
theorem hd_X11_track : yX11_track.cls ≠ "java/lang/invoke/MethodHandle" ∧ yX11_track.cls ≠ "java/lang/invoke/VarHandle" ∧ (parseMethodDescriptor yX11_track.desc).map (fun d => d.parameters.length) = some 3 := by decide +kernel
abbrev rm_X11_through : Room := { frames := 0, cells := 0, slots := 0, locals := 0 }
set_option maxRecDepth 100000 in
theorem w_X11_through {p : Program} {l : Launch} {e : Env} {s : State} {m : MethodId} {args : Array Value} {below : List Frame} {meth : Method} {c : Code} {A : Nat → Prop} {D : va_G} {ad : Nat → Nat} {kK kV : Nat → Nat} {cI cZ : ClassId} {N : Nat} {Q : Int32 → UU → Prop} (C : Cx p m c cX11_through 2 s args RX11 meth (some .int) A D [(cI, .int), (cZ, .boolean)] (EH kK kV)) : ∀ {x1 : Int32} {u : UU}, m_X11_through N x1 u Q → WW p l e rm_X11_through s m args below meth c 0 0 (MQ below (QI D A (wH ad cI cZ) Q) args s 0 0 A) A D 2 0 [(0, .ref (ad 0)), (1, .int x1)] [] (wH ad cI cZ u) := by
  intro x1 u h
  unfold m_X11_through at h
  refine ww_iload_n C dX11_through_0 rfl 1 rfl ?_
  refine ww_if_ne (tgt := 12) C dX11_through_1 (by decide) (fun hc => ?_) (fun hc => ?_)
  · have h := ite_f h hc
    refine ww_iload_n C dX11_through_12 rfl 1 rfl ?_
    refine ww_iconst (v := 1) C dX11_through_13 (by decide) ?_
    refine ww_icmp_ne (tgt := 27) C dX11_through_14 (by decide) (fun hc => ?_) (fun hc => ?_)
    · have h := ite_f h hc
      refine ww_iconst (v := (-1)) C dX11_through_27 (by decide) ?_
      exact ww_iret C h dX11_through_28
    · have h := ite_t h hc
      refine ww_aload_n C dX11_through_17 rfl 0 rfl ?_
      refine ww_get C inX11 rfl 4 (by decide) tb_2_53 HF_0_4 dX11_through_18 ?_
      refine ww_get C inX9 rfl 4 (by decide) tb_1_147 HF_5_4 dX11_through_21 ?_
      refine ww_goto (tgt := 28) C dX11_through_24 (by decide) ?_
      exact ww_iret C h dX11_through_28
  · have h := ite_t h hc
    refine ww_aload_n C dX11_through_4 rfl 0 rfl ?_
    refine ww_get C inX11 rfl 4 (by decide) tb_2_53 HF_0_4 dX11_through_5 ?_
    refine ww_get C inX9 rfl 3 (by decide) tb_1_145 HF_5_3 dX11_through_8 ?_
    exact ww_iret C h dX11_through_11
theorem c_X11_through {l : Launch} {D : va_G} {ad : Nat → Nat} {kK kV : Nat → Nat} {cI cZ : ClassId} {N : Nat} {x1 : Int32} {u : UU} {Q : Int32 → UU → Prop} (h : m_X11_through N x1 u Q) : MI l D [(cI, .int), (cZ, .boolean)] (EH kK kV) yX11_through (Cond.code yX11_through cX11_through 2 (some .int)) rm_X11_through [.ref (ad 0), .int x1] (wH ad cI cZ u) (wH ad cI cZ) Q :=
  MI_of (own := RX11) (by decide) rfl (Nat.le_of_ble_eq_true rfl) rfl (fun p e s m args below meth c A C => w_X11_through C h)
theorem hd_X11_through : yX11_through.cls ≠ "java/lang/invoke/MethodHandle" ∧ yX11_through.cls ≠ "java/lang/invoke/VarHandle" ∧ (parseMethodDescriptor yX11_through.desc).map (fun d => d.parameters.length) = some 1 := by decide +kernel
abbrev rm_X9_isDrawn : Room := { frames := 0, cells := 0, slots := 0, locals := 0 }
set_option maxRecDepth 100000 in
theorem w_X9_isDrawn {p : Program} {l : Launch} {e : Env} {s : State} {m : MethodId} {args : Array Value} {below : List Frame} {meth : Method} {c : Code} {A : Nat → Prop} {D : va_G} {ad : Nat → Nat} {kK kV : Nat → Nat} {cI cZ : ClassId} {N : Nat} {Q : Int32 → UU → Prop} (C : Cx p m c cX9_isDrawn 1 s args RX9 meth (some .boolean) A D [(cI, .int), (cZ, .boolean)] (EH kK kV)) : ∀ {u : UU}, m_X9_isDrawn N  u Q → WW p l e rm_X9_isDrawn s m args below meth c 0 0 (MQ below (QI D A (wH ad cI cZ) Q) args s 0 0 A) A D 1 0 [(0, .ref (ad 5))] [] (wH ad cI cZ u) := by
  intro  u h
  unfold m_X9_isDrawn at h
  refine ww_aload_n C dX9_isDrawn_0 rfl 0 rfl ?_
  refine ww_get C inX9 rfl 3 (by decide) tb_1_144 HF_5_3 dX9_isDrawn_1 ?_
  refine ww_iconst (v := (-1)) C dX9_isDrawn_4 (by decide) ?_
  refine ww_icmp_eq (tgt := 20) C dX9_isDrawn_5 (by decide) (fun hc => ?_) (fun hc => ?_)
  · have h := ite_t h hc
    refine ww_iconst (v := 0) C dX9_isDrawn_20 (by decide) ?_
    exact ww_zret C h.1 h.2 dX9_isDrawn_21
  · have h := ite_f h hc
    refine ww_aload_n C dX9_isDrawn_8 rfl 0 rfl ?_
    refine ww_get C inX9 rfl 4 (by decide) tb_1_146 HF_5_4 dX9_isDrawn_9 ?_
    refine ww_iconst (v := (-1)) C dX9_isDrawn_12 (by decide) ?_
    refine ww_icmp_eq (tgt := 20) C dX9_isDrawn_13 (by decide) (fun hc => ?_) (fun hc => ?_)
    · have h := ite_t h hc
      refine ww_iconst (v := 0) C dX9_isDrawn_20 (by decide) ?_
      exact ww_zret C h.1 h.2 dX9_isDrawn_21
    · have h := ite_f h hc
      refine ww_iconst (v := 1) C dX9_isDrawn_16 (by decide) ?_
      refine ww_goto (tgt := 21) C dX9_isDrawn_17 (by decide) ?_
      exact ww_zret C h.1 h.2 dX9_isDrawn_21
theorem c_X9_isDrawn {l : Launch} {D : va_G} {ad : Nat → Nat} {kK kV : Nat → Nat} {cI cZ : ClassId} {N : Nat}  {u : UU} {Q : Int32 → UU → Prop} (h : m_X9_isDrawn N  u Q) : MI l D [(cI, .int), (cZ, .boolean)] (EH kK kV) yX9_isDrawn (Cond.code yX9_isDrawn cX9_isDrawn 1 (some .boolean)) rm_X9_isDrawn [.ref (ad 5)] (wH ad cI cZ u) (wH ad cI cZ) Q :=
  MI_of (own := RX9) (by decide) rfl (Nat.le_of_ble_eq_true rfl) rfl (fun p e s m args below meth c A C => w_X9_isDrawn C h)
theorem hd_X9_isDrawn : yX9_isDrawn.cls ≠ "java/lang/invoke/MethodHandle" ∧ yX9_isDrawn.cls ≠ "java/lang/invoke/VarHandle" ∧ (parseMethodDescriptor yX9_isDrawn.desc).map (fun d => d.parameters.length) = some 0 := by decide +kernel
abbrev rm_X9_reaches : Room := { frames := 2, cells := 0, slots := 0, locals := 43 }
set_option maxRecDepth 100000 in
theorem w_X9_reaches {p : Program} {l : Launch} {e : Env} {s : State} {m : MethodId} {args : Array Value} {below : List Frame} {meth : Method} {c : Code} {A : Nat → Prop} {D : va_G} {ad : Nat → Nat} {kK kV : Nat → Nat} {cI cZ : ClassId} {N : Nat} {Q : Int32 → UU → Prop} (C : Cx p m c cX9_reaches 2 s args RX9 meth (some .boolean) A D [(cI, .int), (cZ, .boolean)] (EH kK kV)) : ∀ {x1 : Int32} {u : UU}, m_X9_reaches N x1 u Q → WW p l e rm_X9_reaches s m args below meth c 0 0 (MQ below (QI D A (wH ad cI cZ) Q) args s 0 0 A) A D 2 0 [(0, .ref (ad 5)), (1, .int x1)] [] (wH ad cI cZ u) := by
  intro x1 u h
  unfold m_X9_reaches at h
  refine ww_aload_n C dX9_reaches_0 rfl 0 rfl ?_
  refine ww_get C inX9 rfl 0 (by decide) tb_1_141 HF_5_0 dX9_reaches_1 ?_
  refine ww_iload_n C dX9_reaches_4 rfl 1 rfl ?_
  refine ww_callVi (As := [.int x1]) (rest := []) C EH_ok (c_X0_has h) tb_3_47 tb_2_122 tb_2_123 tb_1_2 tb_2_124 rfl rfl ⟨rfl, hd_X0_has⟩ ⟨Nat.le_of_ble_eq_true rfl, Nat.le_of_ble_eq_true rfl⟩ rfl HF_1_0 rfl rfl (Nat.le_of_ble_eq_true rfl) dX9_reaches_5 ⟨Nat.zero_le _, Nat.zero_le _⟩ (fun r_2 u_1 h => ?_)
  refine ww_if_eq (tgt := 59) C dX9_reaches_8 (by decide) (fun hc => ?_) (fun hc => ?_)
  · have h := ite_t h hc
    refine ww_iconst (v := 0) C dX9_reaches_59 (by decide) ?_
    exact ww_zret C h.1 h.2 dX9_reaches_60
  · have h := ite_f h hc
    refine ww_aload_n C dX9_reaches_11 rfl 0 rfl ?_
    refine ww_get C inX9 rfl 0 (by decide) tb_1_141 HF_5_0 dX9_reaches_12 ?_
    refine ww_aload_n C dX9_reaches_15 rfl 0 rfl ?_
    refine ww_get C inX9 rfl 3 (by decide) tb_1_144 HF_5_3 dX9_reaches_16 ?_
    refine ww_callVi (As := [.int (u_1.1 7)]) (rest := []) C EH_ok (c_X0_has h) tb_3_47 tb_2_122 tb_2_123 tb_1_2 tb_2_124 rfl rfl ⟨rfl, hd_X0_has⟩ ⟨Nat.le_of_ble_eq_true rfl, Nat.le_of_ble_eq_true rfl⟩ rfl HF_1_0 rfl rfl (Nat.le_of_ble_eq_true rfl) dX9_reaches_19 ⟨Nat.zero_le _, Nat.zero_le _⟩ (fun r_4 u_3 h => ?_)
    refine ww_if_eq (tgt := 59) C dX9_reaches_22 (by decide) (fun hc => ?_) (fun hc => ?_)
    · have h := ite_t h hc
      refine ww_iconst (v := 0) C dX9_reaches_59 (by decide) ?_
      exact ww_zret C h.1 h.2 dX9_reaches_60
    · have h := ite_f h hc
      refine ww_aload_n C dX9_reaches_25 rfl 0 rfl ?_
      refine ww_get C inX9 rfl 0 (by decide) tb_1_141 HF_5_0 dX9_reaches_26 ?_
      refine ww_aload_n C dX9_reaches_29 rfl 0 rfl ?_
      refine ww_get C inX9 rfl 4 (by decide) tb_1_146 HF_5_4 dX9_reaches_30 ?_
      refine ww_callVi (As := [.int (u_3.1 8)]) (rest := []) C EH_ok (c_X0_has h) tb_3_47 tb_2_122 tb_2_123 tb_1_2 tb_2_124 rfl rfl ⟨rfl, hd_X0_has⟩ ⟨Nat.le_of_ble_eq_true rfl, Nat.le_of_ble_eq_true rfl⟩ rfl HF_1_0 rfl rfl (Nat.le_of_ble_eq_true rfl) dX9_reaches_33 ⟨Nat.zero_le _, Nat.zero_le _⟩ (fun r_6 u_5 h => ?_)
      refine ww_if_eq (tgt := 59) C dX9_reaches_36 (by decide) (fun hc => ?_) (fun hc => ?_)
      · have h := ite_t h hc
        refine ww_iconst (v := 0) C dX9_reaches_59 (by decide) ?_
        exact ww_zret C h.1 h.2 dX9_reaches_60
      · have h := ite_f h hc
        refine ww_aload_n C dX9_reaches_39 rfl 0 rfl ?_
        refine ww_aload_n C dX9_reaches_40 rfl 0 rfl ?_
        refine ww_get C inX9 rfl 3 (by decide) tb_1_144 HF_5_3 dX9_reaches_41 ?_
        refine ww_aload_n C dX9_reaches_44 rfl 0 rfl ?_
        refine ww_get C inX9 rfl 4 (by decide) tb_1_146 HF_5_4 dX9_reaches_45 ?_
        refine ww_iload_n C dX9_reaches_48 rfl 1 rfl ?_
        refine ww_callVi (As := [.int (u_5.1 7), .int (u_5.1 8), .int x1]) (rest := []) C EH_ok (c_X9_isNear h) tb_3_27 tb_3_29 tbs_10 tb_1_6 tb_3_30 rfl rfl ⟨rfl, hd_X9_isNear⟩ ⟨Nat.le_of_ble_eq_true rfl, Nat.le_of_ble_eq_true rfl⟩ rfl HF_5_0 rfl rfl (Nat.le_of_ble_eq_true rfl) dX9_reaches_49 ⟨Nat.zero_le _, Nat.zero_le _⟩ (fun r_8 u_7 h => ?_)
        refine ww_if_eq (tgt := 59) C dX9_reaches_52 (by decide) (fun hc => ?_) (fun hc => ?_)
        · have h := ite_t h hc
          refine ww_iconst (v := 0) C dX9_reaches_59 (by decide) ?_
          exact ww_zret C h.1 h.2 dX9_reaches_60
        · have h := ite_f h hc
          refine ww_iconst (v := 1) C dX9_reaches_55 (by decide) ?_
          refine ww_goto (tgt := 60) C dX9_reaches_56 (by decide) ?_
          exact ww_zret C h.1 h.2 dX9_reaches_60
theorem c_X9_reaches {l : Launch} {D : va_G} {ad : Nat → Nat} {kK kV : Nat → Nat} {cI cZ : ClassId} {N : Nat} {x1 : Int32} {u : UU} {Q : Int32 → UU → Prop} (h : m_X9_reaches N x1 u Q) : MI l D [(cI, .int), (cZ, .boolean)] (EH kK kV) yX9_reaches (Cond.code yX9_reaches cX9_reaches 2 (some .boolean)) rm_X9_reaches [.ref (ad 5), .int x1] (wH ad cI cZ u) (wH ad cI cZ) Q :=
  MI_of (own := RX9) (by decide) rfl (Nat.le_of_ble_eq_true rfl) rfl (fun p e s m args below meth c A C => w_X9_reaches C h)
theorem hd_X9_reaches : yX9_reaches.cls ≠ "java/lang/invoke/MethodHandle" ∧ yX9_reaches.cls ≠ "java/lang/invoke/VarHandle" ∧ (parseMethodDescriptor yX9_reaches.desc).map (fun d => d.parameters.length) = some 1 := by decide +kernel
abbrev rm_X11_within : Room := { frames := 3, cells := 0, slots := 0, locals := 64 }
set_option maxRecDepth 100000 in
theorem w_X11_within {p : Program} {l : Launch} {e : Env} {s : State} {m : MethodId} {args : Array Value} {below : List Frame} {meth : Method} {c : Code} {A : Nat → Prop} {D : va_G} {ad : Nat → Nat} {kK kV : Nat → Nat} {cI cZ : ClassId} {N : Nat} {Q : Int32 → UU → Prop} (C : Cx p m c cX11_within 2 s args RX11 meth (some .int) A D [(cI, .int), (cZ, .boolean)] (EH kK kV)) : ∀ {x1 : Int32} {u : UU}, m_X11_within N x1 u Q → WW p l e rm_X11_within s m args below meth c 0 0 (MQ below (QI D A (wH ad cI cZ) Q) args s 0 0 A) A D 2 0 [(0, .ref (ad 0)), (1, .int x1)] [] (wH ad cI cZ u) := by
  intro x1 u h
  unfold m_X11_within at h
  refine ww_aload_n C dX11_within_0 rfl 0 rfl ?_
  refine ww_get C inX11 rfl 0 (by decide) tb_2_49 HF_0_0 dX11_within_1 ?_
  refine ww_iload_n C dX11_within_4 rfl 1 rfl ?_
  refine ww_callVi (As := [.int x1]) (rest := []) C EH_ok (c_X0_has h) tb_2_121 tb_2_122 tb_2_123 tb_1_2 tb_2_124 rfl rfl ⟨rfl, hd_X0_has⟩ ⟨Nat.le_of_ble_eq_true rfl, Nat.le_of_ble_eq_true rfl⟩ rfl HF_1_0 rfl rfl (Nat.le_of_ble_eq_true rfl) dX11_within_5 ⟨Nat.zero_le _, Nat.zero_le _⟩ (fun r_2 u_1 h => ?_)
  refine ww_if_eq (tgt := 21) C dX11_within_8 (by decide) (fun hc => ?_) (fun hc => ?_)
  · have h := ite_t h hc
    refine ww_iconst (v := (-1)) C dX11_within_21 (by decide) ?_
    exact ww_iret C h dX11_within_22
  · have h := ite_f h hc
    refine ww_aload_n C dX11_within_11 rfl 0 rfl ?_
    refine ww_get C inX11 rfl 4 (by decide) tb_2_53 HF_0_4 dX11_within_12 ?_
    refine ww_callVi (As := []) (rest := []) C EH_ok (c_X9_isDrawn h) tb_3_39 tb_3_40 tb_3_41 tb_1_6 tb_3_42 rfl rfl ⟨rfl, hd_X9_isDrawn⟩ ⟨Nat.le_of_ble_eq_true rfl, Nat.le_of_ble_eq_true rfl⟩ rfl HF_5_0 rfl rfl (Nat.le_of_ble_eq_true rfl) dX11_within_15 ⟨Nat.zero_le _, Nat.zero_le _⟩ (fun r_4 u_3 h => ?_)
    refine ww_if_ne (tgt := 23) C dX11_within_18 (by decide) (fun hc => ?_) (fun hc => ?_)
    · have h := ite_f h hc
      refine ww_aload_n C dX11_within_23 rfl 0 rfl ?_
      refine ww_get C inX11 rfl 4 (by decide) tb_2_53 HF_0_4 dX11_within_24 ?_
      refine ww_iload_n C dX11_within_27 rfl 1 rfl ?_
      refine ww_callVi (As := [.int x1]) (rest := []) C EH_ok (c_X9_reaches h) tb_3_43 tb_3_44 tb_3_45 tb_1_6 tb_3_46 rfl rfl ⟨rfl, hd_X9_reaches⟩ ⟨Nat.le_of_ble_eq_true rfl, Nat.le_of_ble_eq_true rfl⟩ rfl HF_5_0 rfl rfl (Nat.le_of_ble_eq_true rfl) dX11_within_28 ⟨Nat.zero_le _, Nat.zero_le _⟩ (fun r_6 u_5 h => ?_)
      refine ww_if_eq (tgt := 38) C dX11_within_31 (by decide) (fun hc => ?_) (fun hc => ?_)
      · have h := ite_t h hc
        refine ww_iconst (v := 0) C dX11_within_38 (by decide) ?_
        exact ww_iret C h dX11_within_39
      · have h := ite_f h hc
        refine ww_iconst (v := 1) C dX11_within_34 (by decide) ?_
        refine ww_goto (tgt := 39) C dX11_within_35 (by decide) ?_
        exact ww_iret C h dX11_within_39
    · have h := ite_t h hc
      refine ww_iconst (v := (-1)) C dX11_within_21 (by decide) ?_
      exact ww_iret C h dX11_within_22
theorem c_X11_within {l : Launch} {D : va_G} {ad : Nat → Nat} {kK kV : Nat → Nat} {cI cZ : ClassId} {N : Nat} {x1 : Int32} {u : UU} {Q : Int32 → UU → Prop} (h : m_X11_within N x1 u Q) : MI l D [(cI, .int), (cZ, .boolean)] (EH kK kV) yX11_within (Cond.code yX11_within cX11_within 2 (some .int)) rm_X11_within [.ref (ad 0), .int x1] (wH ad cI cZ u) (wH ad cI cZ) Q :=
  MI_of (own := RX11) (by decide) rfl (Nat.le_of_ble_eq_true rfl) rfl (fun p e s m args below meth c A C => w_X11_within C h)
theorem hd_X11_within : yX11_within.cls ≠ "java/lang/invoke/MethodHandle" ∧ yX11_within.cls ≠ "java/lang/invoke/VarHandle" ∧ (parseMethodDescriptor yX11_within.desc).map (fun d => d.parameters.length) = some 1 := by decide +kernel
abbrev rm_X2_insert : Room := { frames := 0, cells := 0, slots := 0, locals := 0 }
set_option maxRecDepth 100000 in
theorem w_X2_insert_94 {p : Program} {l : Launch} {e : Env} {s : State} {m : MethodId} {args : Array Value} {below : List Frame} {meth : Method} {c : Code} {A : Nat → Prop} {D : va_G} {ad : Nat → Nat} {kK kV : Nat → Nat} {cI cZ : ClassId} {N : Nat} {Q : UU → Prop} (C : Cx p m c cX2_insert 4 s args RX2 meth none A D [(cI, .int), (cZ, .boolean)] (EH kK kV)) : ∀ {x1 : Int32} {x2 : Int32} {x3 : Int32} {u : UU}, m_X2_insert_94 N x1 x2 x3 u Q → WW p l e rm_X2_insert s m args below meth c 0 0 (MQ below (QV D A (wH ad cI cZ) Q) args s 0 0 A) A D 4 94 [(0, .ref (ad 6)), (1, .int x1), (2, .int x2), (3, .int x3)] [] (wH ad cI cZ u) := by
  intro x1 x2 x3 u h
  unfold m_X2_insert_94 at h
  refine ww_aload_n C dX2_insert_94 rfl 0 rfl ?_
  refine ww_get C inX2 rfl 2 (by decide) tb_1_168 HF_6_2 dX2_insert_95 ?_
  refine ww_iload_n C dX2_insert_98 rfl 3 rfl ?_
  refine ww_iload_n C dX2_insert_99 rfl 1 rfl ?_
  obtain ⟨hin, h⟩ := h
  refine ww_iast C 0 rfl HU_28 hin dX2_insert_100 ?_
  refine ww_nU (wH ad cI cZ) (fun u_1 eu_1 => ?_)
  have h := h u_1 eu_1
  refine ww_aload_n C dX2_insert_101 rfl 0 rfl ?_
  refine ww_get C inX2 rfl 3 (by decide) tb_1_169 HF_6_3 dX2_insert_102 ?_
  refine ww_iload_n C dX2_insert_105 rfl 3 rfl ?_
  refine ww_iload_n C dX2_insert_106 rfl 2 rfl ?_
  obtain ⟨hin, h⟩ := h
  refine ww_iast C 0 rfl HU_29 hin dX2_insert_107 ?_
  refine ww_nU (wH ad cI cZ) (fun u_2 eu_2 => ?_)
  have h := h u_2 eu_2
  exact ww_vret C h dX2_insert_108
set_option maxRecDepth 100000 in
theorem w_X2_insert_44 {p : Program} {l : Launch} {e : Env} {s : State} {m : MethodId} {args : Array Value} {below : List Frame} {meth : Method} {c : Code} {A : Nat → Prop} {D : va_G} {ad : Nat → Nat} {kK kV : Nat → Nat} {cI cZ : ClassId} {N : Nat} {Q : UU → Prop} (C : Cx p m c cX2_insert 4 s args RX2 meth none A D [(cI, .int), (cZ, .boolean)] (EH kK kV)) : ∀ (n : Nat) (x1 : Int32) (x2 : Int32) (x3 : Int32) (u : UU), m_X2_insert_44 N Q n x1 x2 x3 u → WW p l e rm_X2_insert s m args below meth c 0 0 (MQ below (QV D A (wH ad cI cZ) Q) args s 0 0 A) A D 4 44 [(0, .ref (ad 6)), (1, .int x1), (2, .int x2), (3, .int x3)] [] (wH ad cI cZ u) := by
  intro n
  induction n with
  | zero => intro x1 x2 x3 u h; rw [m_X2_insert_44] at h; exact h.elim
  | succ n ih =>
    intro x1 x2 x3 u h
    rw [m_X2_insert_44] at h
    refine ww_iload_n C dX2_insert_44 rfl 3 rfl ?_
    refine ww_if_le (tgt := 94) C dX2_insert_45 (by decide) (fun hc => ?_) (fun hc => ?_)
    · have h := ite_t h hc
      exact w_X2_insert_94 C h
    · have h := ite_f h hc
      refine ww_aload_n C dX2_insert_48 rfl 0 rfl ?_
      refine ww_get C inX2 rfl 3 (by decide) tb_1_169 HF_6_3 dX2_insert_49 ?_
      refine ww_iload_n C dX2_insert_52 rfl 3 rfl ?_
      refine ww_iconst (v := 1) C dX2_insert_53 (by decide) ?_
      refine ww_isub C dX2_insert_54 ?_
      obtain ⟨hin, h⟩ := h
      refine ww_iald C 0 rfl HA_29 hin dX2_insert_55 ?_
      refine ww_iload_n C dX2_insert_56 rfl 2 rfl ?_
      refine ww_icmp_le (tgt := 94) C dX2_insert_57 (by decide) (fun hc => ?_) (fun hc => ?_)
      · have h := ite_t h hc
        exact w_X2_insert_94 C h
      · have h := ite_f h hc
        refine ww_aload_n C dX2_insert_60 rfl 0 rfl ?_
        refine ww_get C inX2 rfl 2 (by decide) tb_1_168 HF_6_2 dX2_insert_61 ?_
        refine ww_iload_n C dX2_insert_64 rfl 3 rfl ?_
        refine ww_aload_n C dX2_insert_65 rfl 0 rfl ?_
        refine ww_get C inX2 rfl 2 (by decide) tb_1_168 HF_6_2 dX2_insert_66 ?_
        refine ww_iload_n C dX2_insert_69 rfl 3 rfl ?_
        refine ww_iconst (v := 1) C dX2_insert_70 (by decide) ?_
        refine ww_isub C dX2_insert_71 ?_
        obtain ⟨hin, h⟩ := h
        refine ww_iald C 0 rfl HA_28 hin dX2_insert_72 ?_
        obtain ⟨hin, h⟩ := h
        refine ww_iast C 0 rfl HU_28 hin dX2_insert_73 ?_
        refine ww_nU (wH ad cI cZ) (fun u_1 eu_1 => ?_)
        have h := h u_1 eu_1
        refine ww_aload_n C dX2_insert_74 rfl 0 rfl ?_
        refine ww_get C inX2 rfl 3 (by decide) tb_1_169 HF_6_3 dX2_insert_75 ?_
        refine ww_iload_n C dX2_insert_78 rfl 3 rfl ?_
        refine ww_aload_n C dX2_insert_79 rfl 0 rfl ?_
        refine ww_get C inX2 rfl 3 (by decide) tb_1_169 HF_6_3 dX2_insert_80 ?_
        refine ww_iload_n C dX2_insert_83 rfl 3 rfl ?_
        refine ww_iconst (v := 1) C dX2_insert_84 (by decide) ?_
        refine ww_isub C dX2_insert_85 ?_
        obtain ⟨hin, h⟩ := h
        refine ww_iald C 0 rfl HA_29 hin dX2_insert_86 ?_
        obtain ⟨hin, h⟩ := h
        refine ww_iast C 0 rfl HU_29 hin dX2_insert_87 ?_
        refine ww_nU (wH ad cI cZ) (fun u_2 eu_2 => ?_)
        have h := h u_2 eu_2
        obtain ⟨z_3, ez_3⟩ : ∃ z_3 : Int32, z_3 = x3 + ((-1) : Int32) := ⟨_, rfl⟩
        have h := h z_3 ez_3
        refine ww_iinc (i := 3) (j := 3) (v := z_3) (lv' := [(3, .int z_3), (0, .ref (ad 6)), (1, .int x1), (2, .int x2)]) C dX2_insert_88 rfl (by rw [ez_3]; rfl) (by decide) rfl ?_
        refine ww_goto (tgt := 44) C dX2_insert_91 (by decide) ?_
        refine ww_sub [1, 2, 3, 0] rfl ?_
        exact ih _ _ _ _ h
set_option maxRecDepth 100000 in
theorem w_X2_insert_37 {p : Program} {l : Launch} {e : Env} {s : State} {m : MethodId} {args : Array Value} {below : List Frame} {meth : Method} {c : Code} {A : Nat → Prop} {D : va_G} {ad : Nat → Nat} {kK kV : Nat → Nat} {cI cZ : ClassId} {N : Nat} {Q : UU → Prop} (C : Cx p m c cX2_insert 4 s args RX2 meth none A D [(cI, .int), (cZ, .boolean)] (EH kK kV)) : ∀ {x1 : Int32} {x2 : Int32} {u : UU}, m_X2_insert_37 N x1 x2 u Q → WW p l e rm_X2_insert s m args below meth c 0 0 (MQ below (QV D A (wH ad cI cZ) Q) args s 0 0 A) A D 4 37 [(0, .ref (ad 6)), (1, .int x1), (2, .int x2)] [] (wH ad cI cZ u) := by
  intro x1 x2 u h
  unfold m_X2_insert_37 at h
  refine ww_aload_n C dX2_insert_37 rfl 0 rfl ?_
  refine ww_get C inX2 rfl 5 (by decide) tb_1_171 HF_6_5 dX2_insert_38 ?_
  refine ww_iconst (v := 1) C dX2_insert_41 (by decide) ?_
  refine ww_isub C dX2_insert_42 ?_
  refine ww_nI (fun z_1 ez_1 => ?_)
  have h := h z_1 ez_1
  refine ww_istore_n (i := 3) (lv' := [(3, .int z_1), (0, .ref (ad 6)), (1, .int x1), (2, .int x2)]) C dX2_insert_43 rfl (by decide) rfl ?_
  refine ww_sub [1, 2, 3, 0] rfl ?_
  exact w_X2_insert_44 C N _ _ _ _ h
set_option maxRecDepth 100000 in
theorem w_X2_insert_19 {p : Program} {l : Launch} {e : Env} {s : State} {m : MethodId} {args : Array Value} {below : List Frame} {meth : Method} {c : Code} {A : Nat → Prop} {D : va_G} {ad : Nat → Nat} {kK kV : Nat → Nat} {cI cZ : ClassId} {N : Nat} {Q : UU → Prop} (C : Cx p m c cX2_insert 4 s args RX2 meth none A D [(cI, .int), (cZ, .boolean)] (EH kK kV)) : ∀ {x1 : Int32} {x2 : Int32} {u : UU}, m_X2_insert_19 N x1 x2 u Q → WW p l e rm_X2_insert s m args below meth c 0 0 (MQ below (QV D A (wH ad cI cZ) Q) args s 0 0 A) A D 4 19 [(0, .ref (ad 6)), (1, .int x1), (2, .int x2)] [] (wH ad cI cZ u) := by
  intro x1 x2 u h
  unfold m_X2_insert_19 at h
  refine ww_aload_n C dX2_insert_19 rfl 0 rfl ?_
  refine ww_get C inX2 rfl 5 (by decide) tb_1_171 HF_6_5 dX2_insert_20 ?_
  refine ww_iconst (v := 3) C dX2_insert_23 (by decide) ?_
  refine ww_icmp_ge (tgt := 37) C dX2_insert_24 (by decide) (fun hc => ?_) (fun hc => ?_)
  · have h := ite_t h hc
    exact w_X2_insert_37 C h
  · have h := ite_f h hc
    refine ww_aload_n C dX2_insert_27 rfl 0 rfl ?_
    refine ww_dup C dX2_insert_28 rfl ?_
    refine ww_get C inX2 rfl 5 (by decide) tb_1_171 HF_6_5 dX2_insert_29 ?_
    refine ww_iconst (v := 1) C dX2_insert_32 (by decide) ?_
    refine ww_iadd C dX2_insert_33 ?_
    refine ww_put C inX2 rfl tyX2 tyX2_ok nmX2 5 (by decide) tb_1_171 rfl rfl rfl HS_6_5 dX2_insert_34 ?_
    refine ww_nU (wH ad cI cZ) (fun u_1 eu_1 => ?_)
    have h := h u_1 eu_1
    exact w_X2_insert_37 C h
set_option maxRecDepth 100000 in
theorem w_X2_insert {p : Program} {l : Launch} {e : Env} {s : State} {m : MethodId} {args : Array Value} {below : List Frame} {meth : Method} {c : Code} {A : Nat → Prop} {D : va_G} {ad : Nat → Nat} {kK kV : Nat → Nat} {cI cZ : ClassId} {N : Nat} {Q : UU → Prop} (C : Cx p m c cX2_insert 4 s args RX2 meth none A D [(cI, .int), (cZ, .boolean)] (EH kK kV)) : ∀ {x1 : Int32} {x2 : Int32} {u : UU}, m_X2_insert N x1 x2 u Q → WW p l e rm_X2_insert s m args below meth c 0 0 (MQ below (QV D A (wH ad cI cZ) Q) args s 0 0 A) A D 4 0 [(0, .ref (ad 6)), (1, .int x1), (2, .int x2)] [] (wH ad cI cZ u) := by
  intro x1 x2 u h
  unfold m_X2_insert at h
  refine ww_aload_n C dX2_insert_0 rfl 0 rfl ?_
  refine ww_get C inX2 rfl 5 (by decide) tb_1_171 HF_6_5 dX2_insert_1 ?_
  refine ww_iconst (v := 3) C dX2_insert_4 (by decide) ?_
  refine ww_icmp_ne (tgt := 19) C dX2_insert_5 (by decide) (fun hc => ?_) (fun hc => ?_)
  · have h := ite_f h hc
    exact w_X2_insert_19 C h
  · have h := ite_t h hc
    refine ww_aload_n C dX2_insert_8 rfl 0 rfl ?_
    refine ww_get C inX2 rfl 3 (by decide) tb_1_169 HF_6_3 dX2_insert_9 ?_
    refine ww_iconst (v := 2) C dX2_insert_12 (by decide) ?_
    obtain ⟨hin, h⟩ := h
    refine ww_iald C 0 rfl HA_29 hin dX2_insert_13 ?_
    refine ww_iload_n C dX2_insert_14 rfl 2 rfl ?_
    refine ww_icmp_gt (tgt := 19) C dX2_insert_15 (by decide) (fun hc => ?_) (fun hc => ?_)
    · have h := ite_t h hc
      exact w_X2_insert_19 C h
    · have h := ite_f h hc
      exact ww_vret C h dX2_insert_18
theorem c_X2_insert {l : Launch} {D : va_G} {ad : Nat → Nat} {kK kV : Nat → Nat} {cI cZ : ClassId} {N : Nat} {x1 : Int32} {x2 : Int32} {u : UU} {Q : UU → Prop} (h : m_X2_insert N x1 x2 u Q) : MV l D [(cI, .int), (cZ, .boolean)] (EH kK kV) yX2_insert (Cond.code yX2_insert cX2_insert 4 none) rm_X2_insert [.ref (ad 6), .int x1, .int x2] (wH ad cI cZ u) (wH ad cI cZ) Q 0 0 :=
  MV_of (own := RX2) (by decide) rfl (Nat.le_of_ble_eq_true rfl) rfl (fun p e s m args below meth c A C => w_X2_insert C h)
theorem hd_X2_insert : yX2_insert.cls ≠ "java/lang/invoke/MethodHandle" ∧ yX2_insert.cls ≠ "java/lang/invoke/VarHandle" ∧ (parseMethodDescriptor yX2_insert.desc).map (fun d => d.parameters.length) = some 2 := by decide +kernel
abbrev rm_X2_look : Room := { frames := 5, cells := 0, slots := 0, locals := 116 }
set_option maxRecDepth 100000 in
theorem w_X2_look_71 {p : Program} {l : Launch} {e : Env} {s : State} {m : MethodId} {args : Array Value} {below : List Frame} {meth : Method} {c : Code} {A : Nat → Prop} {D : va_G} {ad : Nat → Nat} {kK kV : Nat → Nat} {cI cZ : ClassId} {N : Nat} {Q : Int32 → UU → Prop} {k7 : Int32 → Int32 → Int32 → UU → Prop} (C : Cx p m c cX2_look 6 s args RX2 meth (some .boolean) A D [(cI, .int), (cZ, .boolean)] (EH kK kV)) (hk7 : ∀ (x1 : Int32) (x2 : Int32) (x3 : Int32) (u : UU), k7 x1 x2 x3 u → WW p l e rm_X2_look s m args below meth c 0 0 (MQ below (QI D A (wH ad cI cZ) Q) args s 0 0 A) A D 6 7 [(0, .ref (ad 6)), (1, .int x1), (2, .int x2), (3, .int x3)] [] (wH ad cI cZ u)) : ∀ {x1 : Int32} {x2 : Int32} {x3 : Int32} {u : UU}, m_X2_look_71 N k7 x1 x2 x3 u Q → WW p l e rm_X2_look s m args below meth c 0 0 (MQ below (QI D A (wH ad cI cZ) Q) args s 0 0 A) A D 6 71 [(0, .ref (ad 6)), (1, .int x1), (2, .int x2), (3, .int x3)] [] (wH ad cI cZ u) := by
  intro x1 x2 x3 u h
  unfold m_X2_look_71 at h
  obtain ⟨z_1, ez_1⟩ : ∃ z_1 : Int32, z_1 = x3 + (1 : Int32) := ⟨_, rfl⟩
  have h := h z_1 ez_1
  refine ww_iinc (i := 3) (j := 3) (v := z_1) (lv' := [(3, .int z_1), (0, .ref (ad 6)), (1, .int x1), (2, .int x2)]) C dX2_look_71 rfl (by rw [ez_1]; rfl) (by decide) rfl ?_
  refine ww_goto (tgt := 7) C dX2_look_74 (by decide) ?_
  refine ww_sub [1, 2, 3, 0] rfl ?_
  exact hk7 _ _ _ _ h
set_option maxRecDepth 100000 in
theorem w_X2_look_79 {p : Program} {l : Launch} {e : Env} {s : State} {m : MethodId} {args : Array Value} {below : List Frame} {meth : Method} {c : Code} {A : Nat → Prop} {D : va_G} {ad : Nat → Nat} {kK kV : Nat → Nat} {cI cZ : ClassId} {N : Nat} {Q : Int32 → UU → Prop} (C : Cx p m c cX2_look 6 s args RX2 meth (some .boolean) A D [(cI, .int), (cZ, .boolean)] (EH kK kV)) : ∀ (n : Nat) (x3 : Int32) (u : UU), m_X2_look_79 N Q n x3 u → WW p l e rm_X2_look s m args below meth c 0 0 (MQ below (QI D A (wH ad cI cZ) Q) args s 0 0 A) A D 6 79 [(0, .ref (ad 6)), (3, .int x3)] [] (wH ad cI cZ u) := by
  intro n
  induction n with
  | zero => intro x3 u h; rw [m_X2_look_79] at h; exact h.elim
  | succ n ih =>
    intro x3 u h
    rw [m_X2_look_79] at h
    refine ww_iload_n C dX2_look_79 rfl 1 rfl ?_
    refine ww_aload_n C dX2_look_80 rfl 0 rfl ?_
    refine ww_get C inX2 rfl 5 (by decide) tb_1_171 HF_6_5 dX2_look_81 ?_
    refine ww_icmp_ge (tgt := 112) C dX2_look_84 (by decide) (fun hc => ?_) (fun hc => ?_)
    · have h := ite_t h hc
      refine ww_aload_n C dX2_look_112 rfl 0 rfl ?_
      refine ww_get C inX2 rfl 5 (by decide) tb_1_171 HF_6_5 dX2_look_113 ?_
      refine ww_if_le (tgt := 123) C dX2_look_116 (by decide) (fun hc => ?_) (fun hc => ?_)
      · have h := ite_t h hc
        refine ww_iconst (v := 0) C dX2_look_123 (by decide) ?_
        exact ww_zret C h.1 h.2 dX2_look_124
      · have h := ite_f h hc
        refine ww_iconst (v := 1) C dX2_look_119 (by decide) ?_
        refine ww_goto (tgt := 124) C dX2_look_120 (by decide) ?_
        exact ww_zret C h.1 h.2 dX2_look_124
    · have h := ite_f h hc
      refine ww_aload_n C dX2_look_87 rfl 0 rfl ?_
      refine ww_get C inX2 rfl 4 (by decide) tb_1_170 HF_6_4 dX2_look_88 ?_
      refine ww_iload_n C dX2_look_91 rfl 1 rfl ?_
      refine ww_aload_n C dX2_look_92 rfl 0 rfl ?_
      refine ww_get C inX2 rfl 1 (by decide) tb_1_167 HF_6_1 dX2_look_93 ?_
      refine ww_aload_n C dX2_look_96 rfl 0 rfl ?_
      refine ww_get C inX2 rfl 2 (by decide) tb_1_168 HF_6_2 dX2_look_97 ?_
      refine ww_iload_n C dX2_look_100 rfl 1 rfl ?_
      obtain ⟨hin, h⟩ := h
      refine ww_iald C 0 rfl HA_28 hin dX2_look_101 ?_
      refine ww_callVi (As := [.int (u.2.1 15 x3.toNatClampNeg)]) (rest := [.int x3, .ref (ad 30)]) C EH_ok (c_X10_boardSize h) tb_3_61 tb_3_0 tb_3_1 tb_1_5 tb_3_2 rfl rfl ⟨rfl, hd_X10_boardSize⟩ ⟨Nat.le_of_ble_eq_true rfl, Nat.le_of_ble_eq_true rfl⟩ rfl HF_4_0 rfl rfl (Nat.le_of_ble_eq_true rfl) dX2_look_102 ⟨Nat.zero_le _, Nat.zero_le _⟩ (fun r_2 u_1 h => ?_)
      obtain ⟨hin, h⟩ := h
      refine ww_iast C 0 rfl HU_30 hin dX2_look_105 ?_
      refine ww_nU (wH ad cI cZ) (fun u_3 eu_3 => ?_)
      have h := h u_3 eu_3
      obtain ⟨z_4, ez_4⟩ : ∃ z_4 : Int32, z_4 = x3 + (1 : Int32) := ⟨_, rfl⟩
      have h := h z_4 ez_4
      refine ww_iinc (i := 3) (j := 1) (v := z_4) (lv' := [(3, .int z_4), (0, .ref (ad 6))]) C dX2_look_106 rfl (by rw [ez_4]; rfl) (by decide) rfl ?_
      refine ww_goto (tgt := 79) C dX2_look_109 (by decide) ?_
      refine ww_sub [1, 0] rfl ?_
      exact ih _ _ h
set_option maxRecDepth 100000 in
theorem w_X2_look_7 {p : Program} {l : Launch} {e : Env} {s : State} {m : MethodId} {args : Array Value} {below : List Frame} {meth : Method} {c : Code} {A : Nat → Prop} {D : va_G} {ad : Nat → Nat} {kK kV : Nat → Nat} {cI cZ : ClassId} {N : Nat} {Q : Int32 → UU → Prop} (C : Cx p m c cX2_look 6 s args RX2 meth (some .boolean) A D [(cI, .int), (cZ, .boolean)] (EH kK kV)) : ∀ (n : Nat) (x1 : Int32) (x2 : Int32) (x3 : Int32) (u : UU), m_X2_look_7 N Q n x1 x2 x3 u → WW p l e rm_X2_look s m args below meth c 0 0 (MQ below (QI D A (wH ad cI cZ) Q) args s 0 0 A) A D 6 7 [(0, .ref (ad 6)), (1, .int x1), (2, .int x2), (3, .int x3)] [] (wH ad cI cZ u) := by
  intro n
  induction n with
  | zero => intro x1 x2 x3 u h; rw [m_X2_look_7] at h; exact h.elim
  | succ n ih =>
    intro x1 x2 x3 u h
    rw [m_X2_look_7] at h
    refine ww_iload_n C dX2_look_7 rfl 3 rfl ?_
    refine ww_aload_n C dX2_look_8 rfl 0 rfl ?_
    refine ww_get C inX2 rfl 0 (by decide) tb_1_166 HF_6_0 dX2_look_9 ?_
    refine ww_get C inX0 rfl 3 (by decide) tb_1_43 HF_1_3 dX2_look_12 ?_
    refine ww_icmp_ge (tgt := 77) C dX2_look_15 (by decide) (fun hc => ?_) (fun hc => ?_)
    · have h := ite_t h hc
      refine ww_iconst (v := 0) C dX2_look_77 (by decide) ?_
      refine ww_istore_n (i := 3) (lv' := [(3, .int (0 : Int32)), (0, .ref (ad 6)), (1, .int x1), (2, .int x2)]) C dX2_look_78 rfl (by decide) rfl ?_
      refine ww_sub [1, 0] rfl ?_
      exact w_X2_look_79 C N _ _ h
    · have h := ite_f h hc
      refine ww_aload_n C dX2_look_18 rfl 0 rfl ?_
      refine ww_get C inX2 rfl 1 (by decide) tb_1_167 HF_6_1 dX2_look_19 ?_
      refine ww_iload_n C dX2_look_22 rfl 3 rfl ?_
      refine ww_callVi (As := [.int x3]) (rest := []) C EH_ok (c_X10_isSeen h) tb_3_56 tb_2_230 tb_2_231 tb_1_5 tb_2_232 rfl rfl ⟨rfl, hd_X10_isSeen⟩ ⟨Nat.le_of_ble_eq_true rfl, Nat.le_of_ble_eq_true rfl⟩ rfl HF_4_0 rfl rfl (Nat.le_of_ble_eq_true rfl) dX2_look_23 ⟨Nat.zero_le _, Nat.zero_le _⟩ (fun r_2 u_1 h => ?_)
      refine ww_if_eq (tgt := 71) C dX2_look_26 (by decide) (fun hc => ?_) (fun hc => ?_)
      · have h := ite_t h hc
        exact w_X2_look_71 C ih h
      · have h := ite_f h hc
        refine ww_aload_n C dX2_look_29 rfl 0 rfl ?_
        refine ww_get C inX2 rfl 0 (by decide) tb_1_166 HF_6_0 dX2_look_30 ?_
        refine ww_get C inX0 rfl 0 (by decide) tb_1_35 HF_1_0 dX2_look_33 ?_
        refine ww_iload_n C dX2_look_36 rfl 3 rfl ?_
        obtain ⟨hin, h⟩ := h
        refine ww_iald C 0 rfl HA_13 hin dX2_look_37 ?_
        refine ww_iload_n C dX2_look_38 rfl 1 rfl ?_
        refine ww_isub C dX2_look_39 ?_
        refine ww_nI (fun z_3 ez_3 => ?_)
        have h := h z_3 ez_3
        refine ww_istore (i := 4) (lv' := [(4, .int z_3), (0, .ref (ad 6)), (1, .int x1), (2, .int x2), (3, .int x3)]) C dX2_look_40 (by decide) rfl ?_
        refine ww_aload_n C dX2_look_42 rfl 1 rfl ?_
        refine ww_get C inX2 rfl 0 (by decide) tb_1_166 HF_6_0 dX2_look_43 ?_
        refine ww_get C inX0 rfl 1 (by decide) tb_1_38 HF_1_1 dX2_look_46 ?_
        refine ww_iload_n C dX2_look_49 rfl 4 rfl ?_
        obtain ⟨hin, h⟩ := h
        refine ww_iald C 0 rfl HA_14 hin dX2_look_50 ?_
        refine ww_iload_n C dX2_look_51 rfl 3 rfl ?_
        refine ww_isub C dX2_look_52 ?_
        refine ww_nI (fun z_4 ez_4 => ?_)
        have h := h z_4 ez_4
        refine ww_istore (i := 5) (lv' := [(5, .int z_4), (4, .int z_3), (0, .ref (ad 6)), (1, .int x1), (2, .int x2), (3, .int x3)]) C dX2_look_53 (by decide) rfl ?_
        refine ww_aload_n C dX2_look_55 rfl 2 rfl ?_
        refine ww_iload_n C dX2_look_56 rfl 5 rfl ?_
        refine ww_iload C dX2_look_57 1 rfl ?_
        refine ww_iload C dX2_look_59 1 rfl ?_
        refine ww_imul C dX2_look_61 ?_
        refine ww_iload C dX2_look_62 0 rfl ?_
        refine ww_iload C dX2_look_64 0 rfl ?_
        refine ww_imul C dX2_look_66 ?_
        refine ww_iadd C dX2_look_67 ?_
        refine ww_callVv (As := [.int x3, .int ((z_3 * z_3) + (z_4 * z_4))]) (rest := []) C EH_ok (c_X2_insert h) tb_3_57 tb_3_59 tbs_11 tb_1_7 tb_3_60 rfl rfl ⟨rfl, hd_X2_insert⟩ ⟨Nat.le_of_ble_eq_true rfl, Nat.le_of_ble_eq_true rfl⟩ rfl HF_6_0 rfl rfl (Nat.le_of_ble_eq_true rfl) dX2_look_68 ⟨Nat.zero_le _, Nat.zero_le _⟩ (fun u_5 h => ?_)
        refine ww_sub [2, 3, 4, 5] rfl ?_
        exact w_X2_look_71 C ih h
set_option maxRecDepth 100000 in
theorem w_X2_look {p : Program} {l : Launch} {e : Env} {s : State} {m : MethodId} {args : Array Value} {below : List Frame} {meth : Method} {c : Code} {A : Nat → Prop} {D : va_G} {ad : Nat → Nat} {kK kV : Nat → Nat} {cI cZ : ClassId} {N : Nat} {Q : Int32 → UU → Prop} (C : Cx p m c cX2_look 6 s args RX2 meth (some .boolean) A D [(cI, .int), (cZ, .boolean)] (EH kK kV)) : ∀ {x1 : Int32} {x2 : Int32} {u : UU}, m_X2_look N x1 x2 u Q → WW p l e rm_X2_look s m args below meth c 0 0 (MQ below (QI D A (wH ad cI cZ) Q) args s 0 0 A) A D 6 0 [(0, .ref (ad 6)), (1, .int x1), (2, .int x2)] [] (wH ad cI cZ u) := by
  intro x1 x2 u h
  unfold m_X2_look at h
  refine ww_aload_n C dX2_look_0 rfl 0 rfl ?_
  refine ww_iconst (v := 0) C dX2_look_1 (by decide) ?_
  refine ww_put C inX2 rfl tyX2 tyX2_ok nmX2 5 (by decide) tb_1_171 rfl rfl rfl HS_6_5 dX2_look_2 ?_
  refine ww_nU (wH ad cI cZ) (fun u_1 eu_1 => ?_)
  have h := h u_1 eu_1
  refine ww_iconst (v := 0) C dX2_look_5 (by decide) ?_
  refine ww_istore_n (i := 3) (lv' := [(3, .int (0 : Int32)), (0, .ref (ad 6)), (1, .int x1), (2, .int x2)]) C dX2_look_6 rfl (by decide) rfl ?_
  refine ww_sub [1, 2, 3, 0] rfl ?_
  exact w_X2_look_7 C N _ _ _ _ h
theorem c_X2_look {l : Launch} {D : va_G} {ad : Nat → Nat} {kK kV : Nat → Nat} {cI cZ : ClassId} {N : Nat} {x1 : Int32} {x2 : Int32} {u : UU} {Q : Int32 → UU → Prop} (h : m_X2_look N x1 x2 u Q) : MI l D [(cI, .int), (cZ, .boolean)] (EH kK kV) yX2_look (Cond.code yX2_look cX2_look 6 (some .boolean)) rm_X2_look [.ref (ad 6), .int x1, .int x2] (wH ad cI cZ u) (wH ad cI cZ) Q :=
  MI_of (own := RX2) (by decide) rfl (Nat.le_of_ble_eq_true rfl) rfl (fun p e s m args below meth c A C => w_X2_look C h)
theorem hd_X2_look : yX2_look.cls ≠ "java/lang/invoke/MethodHandle" ∧ yX2_look.cls ≠ "java/lang/invoke/VarHandle" ∧ (parseMethodDescriptor yX2_look.desc).map (fun d => d.parameters.length) = some 2 := by decide +kernel
abbrev rm_X2_root : Room := { frames := 0, cells := 0, slots := 0, locals := 0 }
set_option maxRecDepth 100000 in
theorem w_X2_root_2 {p : Program} {l : Launch} {e : Env} {s : State} {m : MethodId} {args : Array Value} {below : List Frame} {meth : Method} {c : Code} {A : Nat → Prop} {D : va_G} {ad : Nat → Nat} {kK kV : Nat → Nat} {cI cZ : ClassId} {N : Nat} {Q : Int32 → UU → Prop} (C : Cx p m c cX2_root 2 s args RX2 meth (some .int) A D [(cI, .int), (cZ, .boolean)] (EH kK kV)) : ∀ (n : Nat) (x0 : Int32) (x1 : Int32) (u : UU), m_X2_root_2 N Q n x0 x1 u → WW p l e rm_X2_root s m args below meth c 0 0 (MQ below (QI D A (wH ad cI cZ) Q) args s 0 0 A) A D 2 2 [(0, .int x0), (1, .int x1)] [] (wH ad cI cZ u) := by
  intro n
  induction n with
  | zero => intro x0 x1 u h; rw [m_X2_root_2] at h; exact h.elim
  | succ n ih =>
    intro x0 x1 u h
    rw [m_X2_root_2] at h
    refine ww_iload_n C dX2_root_2 rfl 1 rfl ?_
    refine ww_sipush (v := 128) C dX2_root_3 (by decide) ?_
    refine ww_icmp_ge (tgt := 26) C dX2_root_6 (by decide) (fun hc => ?_) (fun hc => ?_)
    · have h := ite_t h hc
      refine ww_iload_n C dX2_root_26 rfl 1 rfl ?_
      exact ww_iret C h dX2_root_27
    · have h := ite_f h hc
      refine ww_iload_n C dX2_root_9 rfl 1 rfl ?_
      refine ww_iconst (v := 1) C dX2_root_10 (by decide) ?_
      refine ww_iadd C dX2_root_11 ?_
      refine ww_iload_n C dX2_root_12 rfl 1 rfl ?_
      refine ww_iconst (v := 1) C dX2_root_13 (by decide) ?_
      refine ww_iadd C dX2_root_14 ?_
      refine ww_imul C dX2_root_15 ?_
      refine ww_iload_n C dX2_root_16 rfl 0 rfl ?_
      refine ww_icmp_gt (tgt := 26) C dX2_root_17 (by decide) (fun hc => ?_) (fun hc => ?_)
      · have h := ite_t h hc
        refine ww_iload_n C dX2_root_26 rfl 1 rfl ?_
        exact ww_iret C h dX2_root_27
      · have h := ite_f h hc
        obtain ⟨z_1, ez_1⟩ : ∃ z_1 : Int32, z_1 = x1 + (1 : Int32) := ⟨_, rfl⟩
        have h := h z_1 ez_1
        refine ww_iinc (i := 1) (j := 1) (v := z_1) (lv' := [(1, .int z_1), (0, .int x0)]) C dX2_root_20 rfl (by rw [ez_1]; rfl) (by decide) rfl ?_
        refine ww_goto (tgt := 2) C dX2_root_23 (by decide) ?_
        refine ww_sub [1, 0] rfl ?_
        exact ih _ _ _ h
set_option maxRecDepth 100000 in
theorem w_X2_root {p : Program} {l : Launch} {e : Env} {s : State} {m : MethodId} {args : Array Value} {below : List Frame} {meth : Method} {c : Code} {A : Nat → Prop} {D : va_G} {ad : Nat → Nat} {kK kV : Nat → Nat} {cI cZ : ClassId} {N : Nat} {Q : Int32 → UU → Prop} (C : Cx p m c cX2_root 2 s args RX2 meth (some .int) A D [(cI, .int), (cZ, .boolean)] (EH kK kV)) : ∀ {x0 : Int32} {u : UU}, m_X2_root N x0 u Q → WW p l e rm_X2_root s m args below meth c 0 0 (MQ below (QI D A (wH ad cI cZ) Q) args s 0 0 A) A D 2 0 [(0, .int x0)] [] (wH ad cI cZ u) := by
  intro x0 u h
  unfold m_X2_root at h
  refine ww_iconst (v := 0) C dX2_root_0 (by decide) ?_
  refine ww_istore_n (i := 1) (lv' := [(1, .int (0 : Int32)), (0, .int x0)]) C dX2_root_1 rfl (by decide) rfl ?_
  refine ww_sub [1, 0] rfl ?_
  exact w_X2_root_2 C N _ _ _ h
theorem c_X2_root {l : Launch} {D : va_G} {ad : Nat → Nat} {kK kV : Nat → Nat} {cI cZ : ClassId} {N : Nat} {x0 : Int32} {u : UU} {Q : Int32 → UU → Prop} (h : m_X2_root N x0 u Q) : MI l D [(cI, .int), (cZ, .boolean)] (EH kK kV) yX2_root (Cond.code yX2_root cX2_root 2 (some .int)) rm_X2_root [.int x0] (wH ad cI cZ u) (wH ad cI cZ) Q :=
  MI_of (own := RX2) (by decide) rfl (Nat.le_of_ble_eq_true rfl) rfl (fun p e s m args below meth c A C => w_X2_root C h)
theorem hd_X2_root : yX2_root.cls ≠ "java/lang/invoke/MethodHandle" ∧ yX2_root.cls ≠ "java/lang/invoke/VarHandle" ∧ (parseMethodDescriptor yX2_root.desc).map (fun d => d.parameters.length) = some 1 := by decide +kernel
abbrev rm_X2_sure : Room := { frames := 1, cells := 0, slots := 0, locals := 21 }
set_option maxRecDepth 100000 in
theorem w_X2_sure_16 {p : Program} {l : Launch} {e : Env} {s : State} {m : MethodId} {args : Array Value} {below : List Frame} {meth : Method} {c : Code} {A : Nat → Prop} {D : va_G} {ad : Nat → Nat} {kK kV : Nat → Nat} {cI cZ : ClassId} {N : Nat} {Q : Int32 → UU → Prop} (C : Cx p m c cX2_sure 4 s args RX2 meth (some .int) A D [(cI, .int), (cZ, .boolean)] (EH kK kV)) : ∀ (n : Nat) (x1 : Int32) (x2 : Int32) (x3 : Int32) (u : UU), m_X2_sure_16 N Q n x1 x2 x3 u → WW p l e rm_X2_sure s m args below meth c 0 0 (MQ below (QI D A (wH ad cI cZ) Q) args s 0 0 A) A D 4 16 [(0, .ref (ad 6)), (1, .int x1), (2, .int x2), (3, .int x3)] [] (wH ad cI cZ u) := by
  intro n
  induction n with
  | zero => intro x1 x2 x3 u h; rw [m_X2_sure_16] at h; exact h.elim
  | succ n ih =>
    intro x1 x2 x3 u h
    rw [m_X2_sure_16] at h
    refine ww_iload_n C dX2_sure_16 rfl 3 rfl ?_
    refine ww_aload_n C dX2_sure_17 rfl 0 rfl ?_
    refine ww_get C inX2 rfl 5 (by decide) tb_1_171 HF_6_5 dX2_sure_18 ?_
    refine ww_icmp_ge (tgt := 52) C dX2_sure_21 (by decide) (fun hc => ?_) (fun hc => ?_)
    · have h := ite_t h hc
      refine ww_bipush (v := 100) C dX2_sure_52 (by decide) ?_
      refine ww_iconst (v := 4) C dX2_sure_54 (by decide) ?_
      refine ww_aload_n C dX2_sure_55 rfl 0 rfl ?_
      refine ww_get C inX2 rfl 3 (by decide) tb_1_169 HF_6_3 dX2_sure_56 ?_
      refine ww_iconst (v := 0) C dX2_sure_59 (by decide) ?_
      obtain ⟨hin, h⟩ := h
      refine ww_iald C 0 rfl HA_29 hin dX2_sure_60 ?_
      refine ww_callSi (As := [.int (u.2.1 16 (0 : Int32).toNatClampNeg)]) (rest := [.int (4 : Int32), .int (100 : Int32)]) C EH_ok (c_X2_root h) tb_3_72 tb_3_73 tb_1_7 tb_3_74 rfl rfl hd_X2_root ⟨Nat.le_of_ble_eq_true rfl, Nat.le_of_ble_eq_true rfl⟩ rfl rfl (Nat.le_of_ble_eq_true rfl) dX2_sure_61 ⟨Nat.zero_le _, Nat.zero_le _⟩ (fun r_2 u_1 h => ?_)
      refine ww_imul C dX2_sure_64 ?_
      refine ww_isub C dX2_sure_65 ?_
      refine ww_bipush (v := 10) C dX2_sure_66 (by decide) ?_
      refine ww_iconst (v := 3) C dX2_sure_68 (by decide) ?_
      refine ww_aload_n C dX2_sure_69 rfl 0 rfl ?_
      refine ww_get C inX2 rfl 5 (by decide) tb_1_171 HF_6_5 dX2_sure_70 ?_
      refine ww_isub C dX2_sure_73 ?_
      refine ww_imul C dX2_sure_74 ?_
      refine ww_isub C dX2_sure_75 ?_
      refine ww_iload_n C dX2_sure_76 rfl 2 rfl ?_
      refine ww_iload_n C dX2_sure_77 rfl 1 rfl ?_
      refine ww_isub C dX2_sure_78 ?_
      refine ww_isub C dX2_sure_79 ?_
      refine ww_nI (fun z_3 ez_3 => ?_)
      have h := h z_3 ez_3
      refine ww_istore_n (i := 3) (lv' := [(3, .int z_3), (0, .ref (ad 6)), (1, .int x1), (2, .int x2)]) C dX2_sure_80 rfl (by decide) rfl ?_
      refine ww_iconst (v := 0) C dX2_sure_81 (by decide) ?_
      refine ww_iload_n C dX2_sure_82 rfl 0 rfl ?_
      refine ww_mmax C tb_3_66 tb_2_211 tb_1_14 tb_2_212 ⟨Nat.le_of_ble_eq_true rfl, Nat.le_of_ble_eq_true rfl⟩ ⟨Nat.zero_le _, Nat.zero_le _⟩ dX2_sure_83 ?_
      exact ww_iret C h dX2_sure_86
    · have h := ite_f h hc
      refine ww_iload_n C dX2_sure_24 rfl 1 rfl ?_
      refine ww_aload_n C dX2_sure_25 rfl 0 rfl ?_
      refine ww_get C inX2 rfl 4 (by decide) tb_1_170 HF_6_4 dX2_sure_26 ?_
      refine ww_iload_n C dX2_sure_29 rfl 3 rfl ?_
      obtain ⟨hin, h⟩ := h
      refine ww_iald C 0 rfl HA_30 hin dX2_sure_30 ?_
      refine ww_mmin C tb_3_71 tb_2_144 tb_1_14 tb_2_145 ⟨Nat.le_of_ble_eq_true rfl, Nat.le_of_ble_eq_true rfl⟩ ⟨Nat.zero_le _, Nat.zero_le _⟩ dX2_sure_31 ?_
      refine ww_nI (fun z_4 ez_4 => ?_)
      have h := h z_4 ez_4
      refine ww_istore_n (i := 1) (lv' := [(1, .int z_4), (0, .ref (ad 6)), (2, .int x2), (3, .int x3)]) C dX2_sure_34 rfl (by decide) rfl ?_
      refine ww_iload_n C dX2_sure_35 rfl 2 rfl ?_
      refine ww_aload_n C dX2_sure_36 rfl 1 rfl ?_
      refine ww_get C inX2 rfl 4 (by decide) tb_1_170 HF_6_4 dX2_sure_37 ?_
      refine ww_iload_n C dX2_sure_40 rfl 3 rfl ?_
      obtain ⟨hin, h⟩ := h
      refine ww_iald C 0 rfl HA_30 hin dX2_sure_41 ?_
      refine ww_mmax C tb_3_66 tb_2_211 tb_1_14 tb_2_212 ⟨Nat.le_of_ble_eq_true rfl, Nat.le_of_ble_eq_true rfl⟩ ⟨Nat.zero_le _, Nat.zero_le _⟩ dX2_sure_42 ?_
      refine ww_nI (fun z_5 ez_5 => ?_)
      have h := h z_5 ez_5
      refine ww_istore_n (i := 2) (lv' := [(2, .int z_5), (1, .int z_4), (0, .ref (ad 6)), (3, .int x3)]) C dX2_sure_45 rfl (by decide) rfl ?_
      obtain ⟨z_6, ez_6⟩ : ∃ z_6 : Int32, z_6 = x3 + (1 : Int32) := ⟨_, rfl⟩
      have h := h z_6 ez_6
      refine ww_iinc (i := 3) (j := 3) (v := z_6) (lv' := [(3, .int z_6), (2, .int z_5), (1, .int z_4), (0, .ref (ad 6))]) C dX2_sure_46 rfl (by rw [ez_6]; rfl) (by decide) rfl ?_
      refine ww_goto (tgt := 16) C dX2_sure_49 (by decide) ?_
      refine ww_sub [3, 2, 1, 0] rfl ?_
      exact ih _ _ _ _ h
set_option maxRecDepth 100000 in
theorem w_X2_sure {p : Program} {l : Launch} {e : Env} {s : State} {m : MethodId} {args : Array Value} {below : List Frame} {meth : Method} {c : Code} {A : Nat → Prop} {D : va_G} {ad : Nat → Nat} {kK kV : Nat → Nat} {cI cZ : ClassId} {N : Nat} {Q : Int32 → UU → Prop} (C : Cx p m c cX2_sure 4 s args RX2 meth (some .int) A D [(cI, .int), (cZ, .boolean)] (EH kK kV)) : ∀ {u : UU}, m_X2_sure N  u Q → WW p l e rm_X2_sure s m args below meth c 0 0 (MQ below (QI D A (wH ad cI cZ) Q) args s 0 0 A) A D 4 0 [(0, .ref (ad 6))] [] (wH ad cI cZ u) := by
  intro  u h
  unfold m_X2_sure at h
  refine ww_aload_n C dX2_sure_0 rfl 0 rfl ?_
  refine ww_get C inX2 rfl 4 (by decide) tb_1_170 HF_6_4 dX2_sure_1 ?_
  refine ww_iconst (v := 0) C dX2_sure_4 (by decide) ?_
  obtain ⟨hin, h⟩ := h
  refine ww_iald C 0 rfl HA_30 hin dX2_sure_5 ?_
  refine ww_nI (fun z_1 ez_1 => ?_)
  have h := h z_1 ez_1
  refine ww_istore_n (i := 1) (lv' := [(1, .int z_1), (0, .ref (ad 6))]) C dX2_sure_6 rfl (by decide) rfl ?_
  refine ww_aload_n C dX2_sure_7 rfl 1 rfl ?_
  refine ww_get C inX2 rfl 4 (by decide) tb_1_170 HF_6_4 dX2_sure_8 ?_
  refine ww_iconst (v := 0) C dX2_sure_11 (by decide) ?_
  obtain ⟨hin, h⟩ := h
  refine ww_iald C 0 rfl HA_30 hin dX2_sure_12 ?_
  refine ww_nI (fun z_2 ez_2 => ?_)
  have h := h z_2 ez_2
  refine ww_istore_n (i := 2) (lv' := [(2, .int z_2), (1, .int z_1), (0, .ref (ad 6))]) C dX2_sure_13 rfl (by decide) rfl ?_
  refine ww_iconst (v := 1) C dX2_sure_14 (by decide) ?_
  refine ww_istore_n (i := 3) (lv' := [(3, .int (1 : Int32)), (2, .int z_2), (1, .int z_1), (0, .ref (ad 6))]) C dX2_sure_15 rfl (by decide) rfl ?_
  refine ww_sub [3, 2, 1, 0] rfl ?_
  exact w_X2_sure_16 C N _ _ _ _ h
theorem c_X2_sure {l : Launch} {D : va_G} {ad : Nat → Nat} {kK kV : Nat → Nat} {cI cZ : ClassId} {N : Nat}  {u : UU} {Q : Int32 → UU → Prop} (h : m_X2_sure N  u Q) : MI l D [(cI, .int), (cZ, .boolean)] (EH kK kV) yX2_sure (Cond.code yX2_sure cX2_sure 4 (some .int)) rm_X2_sure [.ref (ad 6)] (wH ad cI cZ u) (wH ad cI cZ) Q :=
  MI_of (own := RX2) (by decide) rfl (Nat.le_of_ble_eq_true rfl) rfl (fun p e s m args below meth c A C => w_X2_sure C h)
theorem hd_X2_sure : yX2_sure.cls ≠ "java/lang/invoke/MethodHandle" ∧ yX2_sure.cls ≠ "java/lang/invoke/VarHandle" ∧ (parseMethodDescriptor yX2_sure.desc).map (fun d => d.parameters.length) = some 0 := by decide +kernel
abbrev rm_X2_size : Room := { frames := 1, cells := 0, slots := 0, locals := 21 }
set_option maxRecDepth 100000 in
theorem w_X2_size_6 {p : Program} {l : Launch} {e : Env} {s : State} {m : MethodId} {args : Array Value} {below : List Frame} {meth : Method} {c : Code} {A : Nat → Prop} {D : va_G} {ad : Nat → Nat} {kK kV : Nat → Nat} {cI cZ : ClassId} {N : Nat} {Q : Int32 → UU → Prop} (C : Cx p m c cX2_size 5 s args RX2 meth (some .int) A D [(cI, .int), (cZ, .boolean)] (EH kK kV)) : ∀ (n : Nat) (x1 : Int32) (x2 : Int32) (x3 : Int32) (u : UU), m_X2_size_6 N Q n x1 x2 x3 u → WW p l e rm_X2_size s m args below meth c 0 0 (MQ below (QI D A (wH ad cI cZ) Q) args s 0 0 A) A D 5 6 [(0, .ref (ad 6)), (1, .int x1), (2, .int x2), (3, .int x3)] [] (wH ad cI cZ u) := by
  intro n
  induction n with
  | zero => intro x1 x2 x3 u h; rw [m_X2_size_6] at h; exact h.elim
  | succ n ih =>
    intro x1 x2 x3 u h
    rw [m_X2_size_6] at h
    refine ww_iload_n C dX2_size_6 rfl 3 rfl ?_
    refine ww_aload_n C dX2_size_7 rfl 0 rfl ?_
    refine ww_get C inX2 rfl 5 (by decide) tb_1_171 HF_6_5 dX2_size_8 ?_
    refine ww_icmp_ge (tgt := 55) C dX2_size_11 (by decide) (fun hc => ?_) (fun hc => ?_)
    · have h := ite_t h hc
      refine ww_iload_n C dX2_size_55 rfl 1 rfl ?_
      refine ww_if_ne (tgt := 68) C dX2_size_56 (by decide) (fun hc => ?_) (fun hc => ?_)
      · have h := ite_f h hc
        refine ww_iload_n C dX2_size_68 rfl 2 rfl ?_
        refine ww_iload_n C dX2_size_69 rfl 1 rfl ?_
        obtain ⟨hz, h⟩ := h
        refine ww_idiv C dX2_size_70 hz ?_
        exact ww_iret C h dX2_size_71
      · have h := ite_t h hc
        refine ww_aload_n C dX2_size_59 rfl 0 rfl ?_
        refine ww_get C inX2 rfl 4 (by decide) tb_1_170 HF_6_4 dX2_size_60 ?_
        refine ww_iconst (v := 0) C dX2_size_63 (by decide) ?_
        obtain ⟨hin, h⟩ := h
        refine ww_iald C 0 rfl HA_30 hin dX2_size_64 ?_
        refine ww_goto (tgt := 71) C dX2_size_65 (by decide) ?_
        exact ww_iret C h dX2_size_71
    · have h := ite_f h hc
      refine ww_sipush (v := 10000) C dX2_size_14 (by decide) ?_
      refine ww_iconst (v := 1) C dX2_size_17 (by decide) ?_
      refine ww_iconst (v := 1) C dX2_size_18 (by decide) ?_
      refine ww_aload_n C dX2_size_19 rfl 0 rfl ?_
      refine ww_get C inX2 rfl 3 (by decide) tb_1_169 HF_6_3 dX2_size_20 ?_
      refine ww_iload_n C dX2_size_23 rfl 3 rfl ?_
      obtain ⟨hin, h⟩ := h
      refine ww_iald C 0 rfl HA_29 hin dX2_size_24 ?_
      refine ww_iadd C dX2_size_25 ?_
      refine ww_mmax C tb_3_66 tb_2_211 tb_1_14 tb_2_212 ⟨Nat.le_of_ble_eq_true rfl, Nat.le_of_ble_eq_true rfl⟩ ⟨Nat.zero_le _, Nat.zero_le _⟩ dX2_size_26 ?_
      obtain ⟨hz, h⟩ := h
      refine ww_idiv C dX2_size_29 hz ?_
      refine ww_nI (fun z_1 ez_1 => ?_)
      have h := h z_1 ez_1
      refine ww_istore (i := 4) (lv' := [(4, .int z_1), (0, .ref (ad 6)), (1, .int x1), (2, .int x2), (3, .int x3)]) C dX2_size_30 (by decide) rfl ?_
      refine ww_iload_n C dX2_size_32 rfl 2 rfl ?_
      refine ww_iload C dX2_size_33 0 rfl ?_
      refine ww_iadd C dX2_size_35 ?_
      refine ww_nI (fun z_2 ez_2 => ?_)
      have h := h z_2 ez_2
      refine ww_istore_n (i := 1) (lv' := [(1, .int z_2), (4, .int z_1), (0, .ref (ad 6)), (2, .int x2), (3, .int x3)]) C dX2_size_36 rfl (by decide) rfl ?_
      refine ww_iload_n C dX2_size_37 rfl 3 rfl ?_
      refine ww_iload C dX2_size_38 1 rfl ?_
      refine ww_aload_n C dX2_size_40 rfl 2 rfl ?_
      refine ww_get C inX2 rfl 4 (by decide) tb_1_170 HF_6_4 dX2_size_41 ?_
      refine ww_iload_n C dX2_size_44 rfl 4 rfl ?_
      obtain ⟨hin, h⟩ := h
      refine ww_iald C 0 rfl HA_30 hin dX2_size_45 ?_
      refine ww_imul C dX2_size_46 ?_
      refine ww_iadd C dX2_size_47 ?_
      refine ww_nI (fun z_3 ez_3 => ?_)
      have h := h z_3 ez_3
      refine ww_istore_n (i := 2) (lv' := [(2, .int z_3), (1, .int z_2), (4, .int z_1), (0, .ref (ad 6)), (3, .int x3)]) C dX2_size_48 rfl (by decide) rfl ?_
      obtain ⟨z_4, ez_4⟩ : ∃ z_4 : Int32, z_4 = x3 + (1 : Int32) := ⟨_, rfl⟩
      have h := h z_4 ez_4
      refine ww_iinc (i := 3) (j := 4) (v := z_4) (lv' := [(3, .int z_4), (2, .int z_3), (1, .int z_2), (4, .int z_1), (0, .ref (ad 6))]) C dX2_size_49 rfl (by rw [ez_4]; rfl) (by decide) rfl ?_
      refine ww_goto (tgt := 6) C dX2_size_52 (by decide) ?_
      refine ww_sub [4, 2, 1, 0] rfl ?_
      exact ih _ _ _ _ h
set_option maxRecDepth 100000 in
theorem w_X2_size {p : Program} {l : Launch} {e : Env} {s : State} {m : MethodId} {args : Array Value} {below : List Frame} {meth : Method} {c : Code} {A : Nat → Prop} {D : va_G} {ad : Nat → Nat} {kK kV : Nat → Nat} {cI cZ : ClassId} {N : Nat} {Q : Int32 → UU → Prop} (C : Cx p m c cX2_size 5 s args RX2 meth (some .int) A D [(cI, .int), (cZ, .boolean)] (EH kK kV)) : ∀ {u : UU}, m_X2_size N  u Q → WW p l e rm_X2_size s m args below meth c 0 0 (MQ below (QI D A (wH ad cI cZ) Q) args s 0 0 A) A D 5 0 [(0, .ref (ad 6))] [] (wH ad cI cZ u) := by
  intro  u h
  unfold m_X2_size at h
  refine ww_iconst (v := 0) C dX2_size_0 (by decide) ?_
  refine ww_istore_n (i := 1) (lv' := [(1, .int (0 : Int32)), (0, .ref (ad 6))]) C dX2_size_1 rfl (by decide) rfl ?_
  refine ww_iconst (v := 0) C dX2_size_2 (by decide) ?_
  refine ww_istore_n (i := 2) (lv' := [(2, .int (0 : Int32)), (1, .int (0 : Int32)), (0, .ref (ad 6))]) C dX2_size_3 rfl (by decide) rfl ?_
  refine ww_iconst (v := 0) C dX2_size_4 (by decide) ?_
  refine ww_istore_n (i := 3) (lv' := [(3, .int (0 : Int32)), (2, .int (0 : Int32)), (1, .int (0 : Int32)), (0, .ref (ad 6))]) C dX2_size_5 rfl (by decide) rfl ?_
  refine ww_sub [3, 2, 1, 0] rfl ?_
  exact w_X2_size_6 C N _ _ _ _ h
theorem c_X2_size {l : Launch} {D : va_G} {ad : Nat → Nat} {kK kV : Nat → Nat} {cI cZ : ClassId} {N : Nat}  {u : UU} {Q : Int32 → UU → Prop} (h : m_X2_size N  u Q) : MI l D [(cI, .int), (cZ, .boolean)] (EH kK kV) yX2_size (Cond.code yX2_size cX2_size 5 (some .int)) rm_X2_size [.ref (ad 6)] (wH ad cI cZ u) (wH ad cI cZ) Q :=
  MI_of (own := RX2) (by decide) rfl (Nat.le_of_ble_eq_true rfl) rfl (fun p e s m args below meth c A C => w_X2_size C h)
theorem hd_X2_size : yX2_size.cls ≠ "java/lang/invoke/MethodHandle" ∧ yX2_size.cls ≠ "java/lang/invoke/VarHandle" ∧ (parseMethodDescriptor yX2_size.desc).map (fun d => d.parameters.length) = some 0 := by decide +kernel
abbrev rm_X11_map : Room := { frames := 6, cells := 0, slots := 0, locals := 141 }
set_option maxRecDepth 100000 in
theorem w_X11_map {p : Program} {l : Launch} {e : Env} {s : State} {m : MethodId} {args : Array Value} {below : List Frame} {meth : Method} {c : Code} {A : Nat → Prop} {D : va_G} {ad : Nat → Nat} {kK kV : Nat → Nat} {cI cZ : ClassId} {N : Nat} {Q : Int32 → UU → Prop} (C : Cx p m c cX11_map 5 s args RX11 meth (some .int) A D [(cI, .int), (cZ, .boolean)] (EH kK kV)) : ∀ {x1 : Int32} {x2 : Int32} {x3 : Int32} {x4 : Int32} {u : UU}, m_X11_map N x1 x2 x3 x4 u Q → WW p l e rm_X11_map s m args below meth c 0 0 (MQ below (QI D A (wH ad cI cZ) Q) args s 0 0 A) A D 5 0 [(0, .ref (ad 0)), (1, .int x1), (2, .int x2), (3, .int x3), (4, .int x4)] [] (wH ad cI cZ u) := by
  intro x1 x2 x3 x4 u h
  unfold m_X11_map at h
  refine ww_iload_n C dX11_map_0 rfl 1 rfl ?_
  refine ww_iload_n C dX11_map_1 rfl 2 rfl ?_
  refine ww_callSi (As := [.int x1, .int x2]) (rest := []) C EH_ok (c_X11_isPlace h) tb_2_96 tb_2_97 tb_1_1 tb_2_98 rfl rfl hd_X11_isPlace ⟨Nat.le_of_ble_eq_true rfl, Nat.le_of_ble_eq_true rfl⟩ rfl rfl (Nat.le_of_ble_eq_true rfl) dX11_map_2 ⟨Nat.zero_le _, Nat.zero_le _⟩ (fun r_2 u_1 h => ?_)
  refine ww_if_eq (tgt := 25) C dX11_map_5 (by decide) (fun hc => ?_) (fun hc => ?_)
  · have h := ite_t h hc
    refine ww_iconst (v := (-1)) C dX11_map_25 (by decide) ?_
    exact ww_iret C h dX11_map_26
  · have h := ite_f h hc
    refine ww_iload_n C dX11_map_8 rfl 3 rfl ?_
    refine ww_callSi (As := [.int x3]) (rest := []) C EH_ok (c_X11_isHour h) tb_2_118 tb_2_119 tb_1_1 tb_2_120 rfl rfl hd_X11_isHour ⟨Nat.le_of_ble_eq_true rfl, Nat.le_of_ble_eq_true rfl⟩ rfl rfl (Nat.le_of_ble_eq_true rfl) dX11_map_9 ⟨Nat.zero_le _, Nat.zero_le _⟩ (fun r_4 u_3 h => ?_)
    refine ww_if_eq (tgt := 25) C dX11_map_12 (by decide) (fun hc => ?_) (fun hc => ?_)
    · have h := ite_t h hc
      refine ww_iconst (v := (-1)) C dX11_map_25 (by decide) ?_
      exact ww_iret C h dX11_map_26
    · have h := ite_f h hc
      refine ww_iload C dX11_map_15 4 rfl ?_
      refine ww_iconst (v := 0) C dX11_map_17 (by decide) ?_
      refine ww_iconst (v := 1) C dX11_map_18 (by decide) ?_
      refine ww_callSi (As := [.int x4, .int (0 : Int32), .int (1 : Int32)]) (rest := []) C EH_ok (c_X11_isIn h) tb_2_99 tb_2_100 tb_1_1 tb_2_101 rfl rfl hd_X11_isIn ⟨Nat.le_of_ble_eq_true rfl, Nat.le_of_ble_eq_true rfl⟩ rfl rfl (Nat.le_of_ble_eq_true rfl) dX11_map_19 ⟨Nat.zero_le _, Nat.zero_le _⟩ (fun r_6 u_5 h => ?_)
      refine ww_if_ne (tgt := 27) C dX11_map_22 (by decide) (fun hc => ?_) (fun hc => ?_)
      · have h := ite_f h hc
        refine ww_aload_n C dX11_map_27 rfl 0 rfl ?_
        refine ww_get C inX11 rfl 3 (by decide) tb_2_52 HF_0_3 dX11_map_28 ?_
        refine ww_iload_n C dX11_map_31 rfl 3 rfl ?_
        refine ww_callVv (As := [.int x3]) (rest := []) C EH_ok (c_X10_show h) tb_2_162 tb_2_163 tb_2_164 tb_1_5 tb_2_165 rfl rfl ⟨rfl, hd_X10_show⟩ ⟨Nat.le_of_ble_eq_true rfl, Nat.le_of_ble_eq_true rfl⟩ rfl HF_4_0 rfl rfl (Nat.le_of_ble_eq_true rfl) dX11_map_32 ⟨Nat.zero_le _, Nat.zero_le _⟩ (fun u_7 h => ?_)
        refine ww_aload_n C dX11_map_35 rfl 0 rfl ?_
        refine ww_get C inX11 rfl 5 (by decide) tb_2_54 HF_0_5 dX11_map_36 ?_
        refine ww_iload_n C dX11_map_39 rfl 1 rfl ?_
        refine ww_iload_n C dX11_map_40 rfl 2 rfl ?_
        refine ww_callVi (As := [.int x1, .int x2]) (rest := []) C EH_ok (c_X2_look h) tb_3_52 tb_3_53 tb_3_54 tb_1_7 tb_3_55 rfl rfl ⟨rfl, hd_X2_look⟩ ⟨Nat.le_of_ble_eq_true rfl, Nat.le_of_ble_eq_true rfl⟩ rfl HF_6_0 rfl rfl (Nat.le_of_ble_eq_true rfl) dX11_map_41 ⟨Nat.zero_le _, Nat.zero_le _⟩ (fun r_10 u_9 h => ?_)
        refine ww_if_ne (tgt := 49) C dX11_map_44 (by decide) (fun hc => ?_) (fun hc => ?_)
        · have h := ite_f h hc
          refine ww_iload C dX11_map_49 4 rfl ?_
          refine ww_if_ne (tgt := 64) C dX11_map_51 (by decide) (fun hc => ?_) (fun hc => ?_)
          · have h := ite_f h hc
            refine ww_aload_n C dX11_map_64 rfl 0 rfl ?_
            refine ww_get C inX11 rfl 5 (by decide) tb_2_54 HF_0_5 dX11_map_65 ?_
            refine ww_callVi (As := []) (rest := []) C EH_ok (c_X2_sure h) tb_3_67 tb_3_68 tb_3_69 tb_1_7 tb_3_70 rfl rfl ⟨rfl, hd_X2_sure⟩ ⟨Nat.le_of_ble_eq_true rfl, Nat.le_of_ble_eq_true rfl⟩ rfl HF_6_0 rfl rfl (Nat.le_of_ble_eq_true rfl) dX11_map_68 ⟨Nat.zero_le _, Nat.zero_le _⟩ (fun r_12 u_11 h => ?_)
            exact ww_iret C h dX11_map_71
          · have h := ite_t h hc
            refine ww_aload_n C dX11_map_54 rfl 0 rfl ?_
            refine ww_get C inX11 rfl 5 (by decide) tb_2_54 HF_0_5 dX11_map_55 ?_
            refine ww_callVi (As := []) (rest := []) C EH_ok (c_X2_size h) tb_3_62 tb_3_63 tb_3_64 tb_1_7 tb_3_65 rfl rfl ⟨rfl, hd_X2_size⟩ ⟨Nat.le_of_ble_eq_true rfl, Nat.le_of_ble_eq_true rfl⟩ rfl HF_6_0 rfl rfl (Nat.le_of_ble_eq_true rfl) dX11_map_58 ⟨Nat.zero_le _, Nat.zero_le _⟩ (fun r_14 u_13 h => ?_)
            refine ww_goto (tgt := 71) C dX11_map_61 (by decide) ?_
            exact ww_iret C h dX11_map_71
        · have h := ite_t h hc
          refine ww_iconst (v := (-1)) C dX11_map_47 (by decide) ?_
          exact ww_iret C h dX11_map_48
      · have h := ite_t h hc
        refine ww_iconst (v := (-1)) C dX11_map_25 (by decide) ?_
        exact ww_iret C h dX11_map_26
theorem c_X11_map {l : Launch} {D : va_G} {ad : Nat → Nat} {kK kV : Nat → Nat} {cI cZ : ClassId} {N : Nat} {x1 : Int32} {x2 : Int32} {x3 : Int32} {x4 : Int32} {u : UU} {Q : Int32 → UU → Prop} (h : m_X11_map N x1 x2 x3 x4 u Q) : MI l D [(cI, .int), (cZ, .boolean)] (EH kK kV) yX11_map (Cond.code yX11_map cX11_map 5 (some .int)) rm_X11_map [.ref (ad 0), .int x1, .int x2, .int x3, .int x4] (wH ad cI cZ u) (wH ad cI cZ) Q :=
  MI_of (own := RX11) (by decide) rfl (Nat.le_of_ble_eq_true rfl) rfl (fun p e s m args below meth c A C => w_X11_map C h)
theorem hd_X11_map : yX11_map.cls ≠ "java/lang/invoke/MethodHandle" ∧ yX11_map.cls ≠ "java/lang/invoke/VarHandle" ∧ (parseMethodDescriptor yX11_map.desc).map (fun d => d.parameters.length) = some 4 := by decide +kernel
abbrev rm_X4_put : Room := { frames := 1, cells := 0, slots := 0, locals := 22 }
set_option maxRecDepth 100000 in
theorem w_X4_put {p : Program} {l : Launch} {e : Env} {s : State} {m : MethodId} {args : Array Value} {below : List Frame} {meth : Method} {c : Code} {A : Nat → Prop} {D : va_G} {ad : Nat → Nat} {kK kV : Nat → Nat} {cI cZ : ClassId} {N : Nat} {Q : UU → Prop} (C : Cx p m c cX4_put 4 s args RX4 meth none A D [(cI, .int), (cZ, .boolean)] (EH kK kV)) : ∀ {x1 : Int32} {x2 : Int32} {x3 : Int32} {u : UU}, m_X4_put N x1 x2 x3 u Q → WW p l e rm_X4_put s m args below meth c 0 0 (MQ below (QV D A (wH ad cI cZ) Q) args s 0 0 A) A D 4 0 [(0, .ref (ad 7)), (1, .int x1), (2, .int x2), (3, .int x3)] [] (wH ad cI cZ u) := by
  intro x1 x2 x3 u h
  unfold m_X4_put at h
  refine ww_iload_n C dX4_put_0 rfl 1 rfl ?_
  refine ww_iconst (v := 0) C dX4_put_1 (by decide) ?_
  refine ww_bipush (v := 7) C dX4_put_2 (by decide) ?_
  refine ww_callSNi (As := [.int x1, .int (0 : Int32), .int (7 : Int32)]) (rest := []) C EH_ok (c_X11_isIn h) (C.2.2.2.2.1.1 _ (List.mem_of_getElem? (i := 11) rfl)) tb_1_1 tb_2_100 tb_2_101 rfl rfl hd_X11_isIn ⟨Nat.le_of_ble_eq_true rfl, Nat.le_of_ble_eq_true rfl⟩ rfl rfl (Nat.le_of_ble_eq_true rfl) dX4_put_4 ⟨Nat.zero_le _, Nat.zero_le _⟩ (fun r_2 u_1 h => ?_)
  refine ww_if_eq (tgt := 34) C dX4_put_7 (by decide) (fun hc => ?_) (fun hc => ?_)
  · have h := ite_t h hc
    exact ww_vret C h dX4_put_34
  · have h := ite_f h hc
    refine ww_iload_n C dX4_put_10 rfl 2 rfl ?_
    refine ww_iconst (v := 0) C dX4_put_11 (by decide) ?_
    refine ww_bipush (v := 7) C dX4_put_12 (by decide) ?_
    refine ww_callSNi (As := [.int x2, .int (0 : Int32), .int (7 : Int32)]) (rest := []) C EH_ok (c_X11_isIn h) (C.2.2.2.2.1.1 _ (List.mem_of_getElem? (i := 11) rfl)) tb_1_1 tb_2_100 tb_2_101 rfl rfl hd_X11_isIn ⟨Nat.le_of_ble_eq_true rfl, Nat.le_of_ble_eq_true rfl⟩ rfl rfl (Nat.le_of_ble_eq_true rfl) dX4_put_14 ⟨Nat.zero_le _, Nat.zero_le _⟩ (fun r_4 u_3 h => ?_)
    refine ww_if_eq (tgt := 34) C dX4_put_17 (by decide) (fun hc => ?_) (fun hc => ?_)
    · have h := ite_t h hc
      exact ww_vret C h dX4_put_34
    · have h := ite_f h hc
      refine ww_aload_n C dX4_put_20 rfl 0 rfl ?_
      refine ww_get C inX4 rfl 0 (by decide) tb_1_191 HF_7_0 dX4_put_21 ?_
      refine ww_iload_n C dX4_put_24 rfl 1 rfl ?_
      refine ww_bipush (v := 8) C dX4_put_25 (by decide) ?_
      refine ww_imul C dX4_put_27 ?_
      refine ww_iload_n C dX4_put_28 rfl 2 rfl ?_
      refine ww_iadd C dX4_put_29 ?_
      refine ww_iload_n C dX4_put_30 rfl 3 rfl ?_
      refine ww_iconst (v := 1) C dX4_put_31 (by decide) ?_
      refine ww_iadd C dX4_put_32 ?_
      obtain ⟨hin, h⟩ := h
      refine ww_iast C 0 rfl HU_31 hin dX4_put_33 ?_
      refine ww_nU (wH ad cI cZ) (fun u_5 eu_5 => ?_)
      have h := h u_5 eu_5
      exact ww_vret C h dX4_put_34
theorem c_X4_put {l : Launch} {D : va_G} {ad : Nat → Nat} {kK kV : Nat → Nat} {cI cZ : ClassId} {N : Nat} {x1 : Int32} {x2 : Int32} {x3 : Int32} {u : UU} {Q : UU → Prop} (h : m_X4_put N x1 x2 x3 u Q) : MV l D [(cI, .int), (cZ, .boolean)] (EH kK kV) yX4_put (Cond.code yX4_put cX4_put 4 none) rm_X4_put [.ref (ad 7), .int x1, .int x2, .int x3] (wH ad cI cZ u) (wH ad cI cZ) Q 0 0 :=
  MV_of (own := RX4) (by decide) rfl (Nat.le_of_ble_eq_true rfl) rfl (fun p e s m args below meth c A C => w_X4_put C h)
theorem hd_X4_put : yX4_put.cls ≠ "java/lang/invoke/MethodHandle" ∧ yX4_put.cls ≠ "java/lang/invoke/VarHandle" ∧ (parseMethodDescriptor yX4_put.desc).map (fun d => d.parameters.length) = some 3 := by decide +kernel
abbrev rm_X11_radar : Room := { frames := 2, cells := 0, slots := 0, locals := 45 }
set_option maxRecDepth 100000 in
theorem w_X11_radar_30 {p : Program} {l : Launch} {e : Env} {s : State} {m : MethodId} {args : Array Value} {below : List Frame} {meth : Method} {c : Code} {A : Nat → Prop} {D : va_G} {ad : Nat → Nat} {kK kV : Nat → Nat} {cI cZ : ClassId} {N : Nat} {Q : Int32 → UU → Prop} (C : Cx p m c cX11_radar 4 s args RX11 meth (some .int) A D [(cI, .int), (cZ, .boolean)] (EH kK kV)) : ∀ {u : UU}, m_X11_radar_30 N  u Q → WW p l e rm_X11_radar s m args below meth c 0 0 (MQ below (QI D A (wH ad cI cZ) Q) args s 0 0 A) A D 4 30 [(0, .ref (ad 0))] [] (wH ad cI cZ u) := by
  intro  u h
  unfold m_X11_radar_30 at h
  refine ww_aload_n C dX11_radar_30 rfl 0 rfl ?_
  refine ww_iconst (v := (-1)) C dX11_radar_31 (by decide) ?_
  refine ww_callVi (As := [.int ((-1) : Int32)]) (rest := []) C EH_ok (c_X11_refused h) tb_2_102 tb_2_104 tbs_0 tb_1_1 tb_2_105 rfl rfl ⟨rfl, hd_X11_refused⟩ ⟨Nat.le_of_ble_eq_true rfl, Nat.le_of_ble_eq_true rfl⟩ rfl HF_0_0 rfl rfl (Nat.le_of_ble_eq_true rfl) dX11_radar_32 ⟨Nat.zero_le _, Nat.zero_le _⟩ (fun r_2 u_1 h => ?_)
  exact ww_iret C h dX11_radar_35
set_option maxRecDepth 100000 in
theorem w_X11_radar {p : Program} {l : Launch} {e : Env} {s : State} {m : MethodId} {args : Array Value} {below : List Frame} {meth : Method} {c : Code} {A : Nat → Prop} {D : va_G} {ad : Nat → Nat} {kK kV : Nat → Nat} {cI cZ : ClassId} {N : Nat} {Q : Int32 → UU → Prop} (C : Cx p m c cX11_radar 4 s args RX11 meth (some .int) A D [(cI, .int), (cZ, .boolean)] (EH kK kV)) : ∀ {x1 : Int32} {x2 : Int32} {x3 : Int32} {u : UU}, m_X11_radar N x1 x2 x3 u Q → WW p l e rm_X11_radar s m args below meth c 0 0 (MQ below (QI D A (wH ad cI cZ) Q) args s 0 0 A) A D 4 0 [(0, .ref (ad 0)), (1, .int x1), (2, .int x2), (3, .int x3)] [] (wH ad cI cZ u) := by
  intro x1 x2 x3 u h
  unfold m_X11_radar at h
  refine ww_iload_n C dX11_radar_0 rfl 1 rfl ?_
  refine ww_iconst (v := 0) C dX11_radar_1 (by decide) ?_
  refine ww_bipush (v := 7) C dX11_radar_2 (by decide) ?_
  refine ww_callSi (As := [.int x1, .int (0 : Int32), .int (7 : Int32)]) (rest := []) C EH_ok (c_X11_isIn h) tb_2_99 tb_2_100 tb_1_1 tb_2_101 rfl rfl hd_X11_isIn ⟨Nat.le_of_ble_eq_true rfl, Nat.le_of_ble_eq_true rfl⟩ rfl rfl (Nat.le_of_ble_eq_true rfl) dX11_radar_4 ⟨Nat.zero_le _, Nat.zero_le _⟩ (fun r_2 u_1 h => ?_)
  refine ww_if_eq (tgt := 30) C dX11_radar_7 (by decide) (fun hc => ?_) (fun hc => ?_)
  · have h := ite_t h hc
    refine ww_sub [0] rfl ?_
    exact w_X11_radar_30 C h
  · have h := ite_f h hc
    refine ww_iload_n C dX11_radar_10 rfl 2 rfl ?_
    refine ww_iconst (v := 0) C dX11_radar_11 (by decide) ?_
    refine ww_bipush (v := 7) C dX11_radar_12 (by decide) ?_
    refine ww_callSi (As := [.int x2, .int (0 : Int32), .int (7 : Int32)]) (rest := []) C EH_ok (c_X11_isIn h) tb_2_99 tb_2_100 tb_1_1 tb_2_101 rfl rfl hd_X11_isIn ⟨Nat.le_of_ble_eq_true rfl, Nat.le_of_ble_eq_true rfl⟩ rfl rfl (Nat.le_of_ble_eq_true rfl) dX11_radar_14 ⟨Nat.zero_le _, Nat.zero_le _⟩ (fun r_4 u_3 h => ?_)
    refine ww_if_eq (tgt := 30) C dX11_radar_17 (by decide) (fun hc => ?_) (fun hc => ?_)
    · have h := ite_t h hc
      refine ww_sub [0] rfl ?_
      exact w_X11_radar_30 C h
    · have h := ite_f h hc
      refine ww_iload_n C dX11_radar_20 rfl 3 rfl ?_
      refine ww_iconst (v := (-1)) C dX11_radar_21 (by decide) ?_
      refine ww_bipush (v := 100) C dX11_radar_22 (by decide) ?_
      refine ww_callSi (As := [.int x3, .int ((-1) : Int32), .int (100 : Int32)]) (rest := []) C EH_ok (c_X11_isIn h) tb_2_99 tb_2_100 tb_1_1 tb_2_101 rfl rfl hd_X11_isIn ⟨Nat.le_of_ble_eq_true rfl, Nat.le_of_ble_eq_true rfl⟩ rfl rfl (Nat.le_of_ble_eq_true rfl) dX11_radar_24 ⟨Nat.zero_le _, Nat.zero_le _⟩ (fun r_6 u_5 h => ?_)
      refine ww_if_ne (tgt := 36) C dX11_radar_27 (by decide) (fun hc => ?_) (fun hc => ?_)
      · have h := ite_f h hc
        refine ww_aload_n C dX11_radar_36 rfl 0 rfl ?_
        refine ww_get C inX11 rfl 6 (by decide) tb_2_55 HF_0_6 dX11_radar_37 ?_
        refine ww_iload_n C dX11_radar_40 rfl 1 rfl ?_
        refine ww_iload_n C dX11_radar_41 rfl 2 rfl ?_
        refine ww_iload_n C dX11_radar_42 rfl 3 rfl ?_
        refine ww_callVv (As := [.int x1, .int x2, .int x3]) (rest := []) C EH_ok (c_X4_put h) tb_3_79 tb_3_80 tb_3_81 tb_1_8 tb_3_82 rfl rfl ⟨rfl, hd_X4_put⟩ ⟨Nat.le_of_ble_eq_true rfl, Nat.le_of_ble_eq_true rfl⟩ rfl HF_7_0 rfl rfl (Nat.le_of_ble_eq_true rfl) dX11_radar_43 ⟨Nat.zero_le _, Nat.zero_le _⟩ (fun u_7 h => ?_)
        refine ww_aload_n C dX11_radar_46 rfl 0 rfl ?_
        refine ww_iconst (v := 0) C dX11_radar_47 (by decide) ?_
        refine ww_callVi (As := [.int (0 : Int32)]) (rest := []) C EH_ok (c_X11_taken h) tb_2_110 tb_2_112 tbs_1 tb_1_1 tb_2_113 rfl rfl ⟨rfl, hd_X11_taken⟩ ⟨Nat.le_of_ble_eq_true rfl, Nat.le_of_ble_eq_true rfl⟩ rfl HF_0_0 rfl rfl (Nat.le_of_ble_eq_true rfl) dX11_radar_48 ⟨Nat.zero_le _, Nat.zero_le _⟩ (fun r_10 u_9 h => ?_)
        exact ww_iret C h dX11_radar_51
      · have h := ite_t h hc
        refine ww_sub [0] rfl ?_
        exact w_X11_radar_30 C h
theorem c_X11_radar {l : Launch} {D : va_G} {ad : Nat → Nat} {kK kV : Nat → Nat} {cI cZ : ClassId} {N : Nat} {x1 : Int32} {x2 : Int32} {x3 : Int32} {u : UU} {Q : Int32 → UU → Prop} (h : m_X11_radar N x1 x2 x3 u Q) : MI l D [(cI, .int), (cZ, .boolean)] (EH kK kV) yX11_radar (Cond.code yX11_radar cX11_radar 4 (some .int)) rm_X11_radar [.ref (ad 0), .int x1, .int x2, .int x3] (wH ad cI cZ u) (wH ad cI cZ) Q :=
  MI_of (own := RX11) (by decide) rfl (Nat.le_of_ble_eq_true rfl) rfl (fun p e s m args below meth c A C => w_X11_radar C h)
theorem hd_X11_radar : yX11_radar.cls ≠ "java/lang/invoke/MethodHandle" ∧ yX11_radar.cls ≠ "java/lang/invoke/VarHandle" ∧ (parseMethodDescriptor yX11_radar.desc).map (fun d => d.parameters.length) = some 3 := by decide +kernel
abbrev rm_X4_sizeAt : Room := { frames := 2, cells := 0, slots := 0, locals := 43 }
set_option maxRecDepth 100000 in
theorem w_X4_sizeAt {p : Program} {l : Launch} {e : Env} {s : State} {m : MethodId} {args : Array Value} {below : List Frame} {meth : Method} {c : Code} {A : Nat → Prop} {D : va_G} {ad : Nat → Nat} {kK kV : Nat → Nat} {cI cZ : ClassId} {N : Nat} {Q : Int32 → UU → Prop} (C : Cx p m c cX4_sizeAt 3 s args RX4 meth (some .int) A D [(cI, .int), (cZ, .boolean)] (EH kK kV)) : ∀ {x1 : Int32} {x2 : Int32} {u : UU}, m_X4_sizeAt N x1 x2 u Q → WW p l e rm_X4_sizeAt s m args below meth c 0 0 (MQ below (QI D A (wH ad cI cZ) Q) args s 0 0 A) A D 3 0 [(0, .ref (ad 7)), (1, .int x1), (2, .int x2)] [] (wH ad cI cZ u) := by
  intro x1 x2 u h
  unfold m_X4_sizeAt at h
  refine ww_iload_n C dX4_sizeAt_0 rfl 1 rfl ?_
  refine ww_iload_n C dX4_sizeAt_1 rfl 2 rfl ?_
  refine ww_callSNi (As := [.int x1, .int x2]) (rest := []) C EH_ok (c_X11_isPlace h) (C.2.2.2.2.1.1 _ (List.mem_of_getElem? (i := 12) rfl)) tb_1_1 tb_2_97 tb_2_98 rfl rfl hd_X11_isPlace ⟨Nat.le_of_ble_eq_true rfl, Nat.le_of_ble_eq_true rfl⟩ rfl rfl (Nat.le_of_ble_eq_true rfl) dX4_sizeAt_2 ⟨Nat.zero_le _, Nat.zero_le _⟩ (fun r_2 u_1 h => ?_)
  refine ww_if_eq (tgt := 30) C dX4_sizeAt_5 (by decide) (fun hc => ?_) (fun hc => ?_)
  · have h := ite_t h hc
    refine ww_iconst (v := (-1)) C dX4_sizeAt_30 (by decide) ?_
    exact ww_iret C h dX4_sizeAt_31
  · have h := ite_f h hc
    refine ww_aload_n C dX4_sizeAt_8 rfl 0 rfl ?_
    refine ww_get C inX4 rfl 0 (by decide) tb_1_191 HF_7_0 dX4_sizeAt_9 ?_
    refine ww_iload_n C dX4_sizeAt_12 rfl 1 rfl ?_
    refine ww_bipush (v := 8) C dX4_sizeAt_13 (by decide) ?_
    obtain ⟨hz, h⟩ := h
    refine ww_idiv C dX4_sizeAt_15 hz ?_
    refine ww_bipush (v := 8) C dX4_sizeAt_16 (by decide) ?_
    refine ww_imul C dX4_sizeAt_18 ?_
    refine ww_iload_n C dX4_sizeAt_19 rfl 2 rfl ?_
    refine ww_bipush (v := 8) C dX4_sizeAt_20 (by decide) ?_
    obtain ⟨hz, h⟩ := h
    refine ww_idiv C dX4_sizeAt_22 hz ?_
    refine ww_iadd C dX4_sizeAt_23 ?_
    obtain ⟨hin, h⟩ := h
    refine ww_iald C 0 rfl HA_31 hin dX4_sizeAt_24 ?_
    refine ww_iconst (v := 1) C dX4_sizeAt_25 (by decide) ?_
    refine ww_isub C dX4_sizeAt_26 ?_
    refine ww_goto (tgt := 31) C dX4_sizeAt_27 (by decide) ?_
    exact ww_iret C h dX4_sizeAt_31
theorem c_X4_sizeAt {l : Launch} {D : va_G} {ad : Nat → Nat} {kK kV : Nat → Nat} {cI cZ : ClassId} {N : Nat} {x1 : Int32} {x2 : Int32} {u : UU} {Q : Int32 → UU → Prop} (h : m_X4_sizeAt N x1 x2 u Q) : MI l D [(cI, .int), (cZ, .boolean)] (EH kK kV) yX4_sizeAt (Cond.code yX4_sizeAt cX4_sizeAt 3 (some .int)) rm_X4_sizeAt [.ref (ad 7), .int x1, .int x2] (wH ad cI cZ u) (wH ad cI cZ) Q :=
  MI_of (own := RX4) (by decide) rfl (Nat.le_of_ble_eq_true rfl) rfl (fun p e s m args below meth c A C => w_X4_sizeAt C h)
theorem hd_X4_sizeAt : yX4_sizeAt.cls ≠ "java/lang/invoke/MethodHandle" ∧ yX4_sizeAt.cls ≠ "java/lang/invoke/VarHandle" ∧ (parseMethodDescriptor yX4_sizeAt.desc).map (fun d => d.parameters.length) = some 2 := by decide +kernel
abbrev rm_X11_off : Room := { frames := 6, cells := 0, slots := 0, locals := 141 }
set_option maxRecDepth 100000 in
theorem w_X11_off {p : Program} {l : Launch} {e : Env} {s : State} {m : MethodId} {args : Array Value} {below : List Frame} {meth : Method} {c : Code} {A : Nat → Prop} {D : va_G} {ad : Nat → Nat} {kK kV : Nat → Nat} {cI cZ : ClassId} {N : Nat} {Q : Int32 → UU → Prop} (C : Cx p m c cX11_off 5 s args RX11 meth (some .int) A D [(cI, .int), (cZ, .boolean)] (EH kK kV)) : ∀ {x1 : Int32} {x2 : Int32} {x3 : Int32} {u : UU}, m_X11_off N x1 x2 x3 u Q → WW p l e rm_X11_off s m args below meth c 0 0 (MQ below (QI D A (wH ad cI cZ) Q) args s 0 0 A) A D 5 0 [(0, .ref (ad 0)), (1, .int x1), (2, .int x2), (3, .int x3)] [] (wH ad cI cZ u) := by
  intro x1 x2 x3 u h
  unfold m_X11_off at h
  refine ww_iload_n C dX11_off_0 rfl 1 rfl ?_
  refine ww_iload_n C dX11_off_1 rfl 2 rfl ?_
  refine ww_callSi (As := [.int x1, .int x2]) (rest := []) C EH_ok (c_X11_isPlace h) tb_2_96 tb_2_97 tb_1_1 tb_2_98 rfl rfl hd_X11_isPlace ⟨Nat.le_of_ble_eq_true rfl, Nat.le_of_ble_eq_true rfl⟩ rfl rfl (Nat.le_of_ble_eq_true rfl) dX11_off_2 ⟨Nat.zero_le _, Nat.zero_le _⟩ (fun r_2 u_1 h => ?_)
  refine ww_if_eq (tgt := 15) C dX11_off_5 (by decide) (fun hc => ?_) (fun hc => ?_)
  · have h := ite_t h hc
    refine ww_sipush (v := (-1000)) C dX11_off_15 (by decide) ?_
    exact ww_iret C h dX11_off_18
  · have h := ite_f h hc
    refine ww_iload_n C dX11_off_8 rfl 3 rfl ?_
    refine ww_callSi (As := [.int x3]) (rest := []) C EH_ok (c_X11_isHour h) tb_2_118 tb_2_119 tb_1_1 tb_2_120 rfl rfl hd_X11_isHour ⟨Nat.le_of_ble_eq_true rfl, Nat.le_of_ble_eq_true rfl⟩ rfl rfl (Nat.le_of_ble_eq_true rfl) dX11_off_9 ⟨Nat.zero_le _, Nat.zero_le _⟩ (fun r_4 u_3 h => ?_)
    refine ww_if_ne (tgt := 19) C dX11_off_12 (by decide) (fun hc => ?_) (fun hc => ?_)
    · have h := ite_f h hc
      refine ww_aload_n C dX11_off_19 rfl 0 rfl ?_
      refine ww_get C inX11 rfl 6 (by decide) tb_2_55 HF_0_6 dX11_off_20 ?_
      refine ww_iload_n C dX11_off_23 rfl 1 rfl ?_
      refine ww_iload_n C dX11_off_24 rfl 2 rfl ?_
      refine ww_callVi (As := [.int x1, .int x2]) (rest := []) C EH_ok (c_X4_sizeAt h) tb_3_88 tb_3_89 tb_3_90 tb_1_8 tb_3_91 rfl rfl ⟨rfl, hd_X4_sizeAt⟩ ⟨Nat.le_of_ble_eq_true rfl, Nat.le_of_ble_eq_true rfl⟩ rfl HF_7_0 rfl rfl (Nat.le_of_ble_eq_true rfl) dX11_off_25 ⟨Nat.zero_le _, Nat.zero_le _⟩ (fun r_6 u_5 h => ?_)
      refine ww_istore (i := 4) (lv' := [(4, .int r_6), (0, .ref (ad 0)), (1, .int x1), (2, .int x2), (3, .int x3)]) C dX11_off_28 (by decide) rfl ?_
      refine ww_iload C dX11_off_30 0 rfl ?_
      refine ww_iconst (v := (-1)) C dX11_off_32 (by decide) ?_
      refine ww_icmp_ne (tgt := 40) C dX11_off_33 (by decide) (fun hc => ?_) (fun hc => ?_)
      · have h := ite_f h hc
        refine ww_aload_n C dX11_off_40 rfl 1 rfl ?_
        refine ww_get C inX11 rfl 3 (by decide) tb_2_52 HF_0_3 dX11_off_41 ?_
        refine ww_iload_n C dX11_off_44 rfl 4 rfl ?_
        refine ww_callVv (As := [.int x3]) (rest := []) C EH_ok (c_X10_show h) tb_2_162 tb_2_163 tb_2_164 tb_1_5 tb_2_165 rfl rfl ⟨rfl, hd_X10_show⟩ ⟨Nat.le_of_ble_eq_true rfl, Nat.le_of_ble_eq_true rfl⟩ rfl HF_4_0 rfl rfl (Nat.le_of_ble_eq_true rfl) dX11_off_45 ⟨Nat.zero_le _, Nat.zero_le _⟩ (fun u_7 h => ?_)
        refine ww_aload_n C dX11_off_48 rfl 1 rfl ?_
        refine ww_get C inX11 rfl 5 (by decide) tb_2_54 HF_0_5 dX11_off_49 ?_
        refine ww_iload_n C dX11_off_52 rfl 2 rfl ?_
        refine ww_iload_n C dX11_off_53 rfl 3 rfl ?_
        refine ww_callVi (As := [.int x1, .int x2]) (rest := []) C EH_ok (c_X2_look h) tb_3_52 tb_3_53 tb_3_54 tb_1_7 tb_3_55 rfl rfl ⟨rfl, hd_X2_look⟩ ⟨Nat.le_of_ble_eq_true rfl, Nat.le_of_ble_eq_true rfl⟩ rfl HF_6_0 rfl rfl (Nat.le_of_ble_eq_true rfl) dX11_off_54 ⟨Nat.zero_le _, Nat.zero_le _⟩ (fun r_10 u_9 h => ?_)
        refine ww_if_eq (tgt := 73) C dX11_off_57 (by decide) (fun hc => ?_) (fun hc => ?_)
        · have h := ite_t h hc
          refine ww_sipush (v := (-1000)) C dX11_off_73 (by decide) ?_
          exact ww_iret C h dX11_off_76
        · have h := ite_f h hc
          refine ww_iload C dX11_off_60 0 rfl ?_
          refine ww_aload_n C dX11_off_62 rfl 1 rfl ?_
          refine ww_get C inX11 rfl 5 (by decide) tb_2_54 HF_0_5 dX11_off_63 ?_
          refine ww_callVi (As := []) (rest := [.int r_6]) C EH_ok (c_X2_size h) tb_3_62 tb_3_63 tb_3_64 tb_1_7 tb_3_65 rfl rfl ⟨rfl, hd_X2_size⟩ ⟨Nat.le_of_ble_eq_true rfl, Nat.le_of_ble_eq_true rfl⟩ rfl HF_6_0 rfl rfl (Nat.le_of_ble_eq_true rfl) dX11_off_66 ⟨Nat.zero_le _, Nat.zero_le _⟩ (fun r_12 u_11 h => ?_)
          refine ww_isub C dX11_off_69 ?_
          refine ww_goto (tgt := 76) C dX11_off_70 (by decide) ?_
          exact ww_iret C h dX11_off_76
      · have h := ite_t h hc
        refine ww_sipush (v := (-1000)) C dX11_off_36 (by decide) ?_
        exact ww_iret C h dX11_off_39
    · have h := ite_t h hc
      refine ww_sipush (v := (-1000)) C dX11_off_15 (by decide) ?_
      exact ww_iret C h dX11_off_18
theorem c_X11_off {l : Launch} {D : va_G} {ad : Nat → Nat} {kK kV : Nat → Nat} {cI cZ : ClassId} {N : Nat} {x1 : Int32} {x2 : Int32} {x3 : Int32} {u : UU} {Q : Int32 → UU → Prop} (h : m_X11_off N x1 x2 x3 u Q) : MI l D [(cI, .int), (cZ, .boolean)] (EH kK kV) yX11_off (Cond.code yX11_off cX11_off 5 (some .int)) rm_X11_off [.ref (ad 0), .int x1, .int x2, .int x3] (wH ad cI cZ u) (wH ad cI cZ) Q :=
  MI_of (own := RX11) (by decide) rfl (Nat.le_of_ble_eq_true rfl) rfl (fun p e s m args below meth c A C => w_X11_off C h)
theorem hd_X11_off : yX11_off.cls ≠ "java/lang/invoke/MethodHandle" ∧ yX11_off.cls ≠ "java/lang/invoke/VarHandle" ∧ (parseMethodDescriptor yX11_off.desc).map (fun d => d.parameters.length) = some 3 := by decide +kernel
