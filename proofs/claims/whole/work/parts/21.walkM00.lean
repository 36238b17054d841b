abbrev rm_X12_told : Room := { frames := 0, cells := 0, slots := 0, locals := 0 }
set_option maxRecDepth 100000 in
theorem w_X12_told_10 {p : Program} {l : Launch} {e : Env} {s : State} {m : MethodId} {args : Array Value} {below : List Frame} {meth : Method} {c : Code} {A : Nat → Prop} {D : va_G} {ad : Nat → Nat} {cI cZ : ClassId} {N : Nat} {Q : Int32 → UU → Prop} (C : Cx p m c cX12_told 2 s args RX12 meth (some .int) A D [(cI, .int), (cZ, .boolean)] EM) : ∀ {x1 : Int32} {y1 : Int32} {u : UU}, m_X12_told_10 N x1 y1 u Q → WW p l e rm_X12_told s m args below meth c 0 0 (MQ below (QI D A (wM ad cI cZ) Q) args s 0 0 A) A D 2 10 [(1, .int x1)] [.int y1, .ref (ad 0)] (wM ad cI cZ u) := by
  intro x1 y1 u h
  unfold m_X12_told_10 at h
  refine ww_put C inX12 rfl tyX12 tyX12_ok nmX12 1 (by decide) tb_4_37 rfl rfl rfl MS_0_1 dX12_told_10 ?_
  refine ww_nU (wM ad cI cZ) (fun u_1 eu_1 => ?_)
  have h := h u_1 eu_1
  refine ww_iload_n C dX12_told_13 rfl 0 rfl ?_
  exact ww_iret C h dX12_told_14
set_option maxRecDepth 100000 in
theorem w_X12_told {p : Program} {l : Launch} {e : Env} {s : State} {m : MethodId} {args : Array Value} {below : List Frame} {meth : Method} {c : Code} {A : Nat → Prop} {D : va_G} {ad : Nat → Nat} {cI cZ : ClassId} {N : Nat} {Q : Int32 → UU → Prop} (C : Cx p m c cX12_told 2 s args RX12 meth (some .int) A D [(cI, .int), (cZ, .boolean)] EM) : ∀ {x1 : Int32} {u : UU}, m_X12_told N x1 u Q → WW p l e rm_X12_told s m args below meth c 0 0 (MQ below (QI D A (wM ad cI cZ) Q) args s 0 0 A) A D 2 0 [(0, .ref (ad 0)), (1, .int x1)] [] (wM ad cI cZ u) := by
  intro x1 u h
  unfold m_X12_told at h
  refine ww_aload_n C dX12_told_0 rfl 0 rfl ?_
  refine ww_iload_n C dX12_told_1 rfl 1 rfl ?_
  refine ww_if_ge (tgt := 9) C dX12_told_2 (by decide) (fun hc => ?_) (fun hc => ?_)
  · have h := ite_t h hc
    refine ww_iconst (v := 0) C dX12_told_9 (by decide) ?_
    refine ww_sub [1] rfl ?_
    exact w_X12_told_10 C h
  · have h := ite_f h hc
    refine ww_iload_n C dX12_told_5 rfl 1 rfl ?_
    refine ww_goto (tgt := 10) C dX12_told_6 (by decide) ?_
    refine ww_sub [1] rfl ?_
    exact w_X12_told_10 C h
theorem c_X12_told {l : Launch} {D : va_G} {ad : Nat → Nat} {cI cZ : ClassId} {N : Nat} {x1 : Int32} {u : UU} {Q : Int32 → UU → Prop} (h : m_X12_told N x1 u Q) : MI l D [(cI, .int), (cZ, .boolean)] EM yX12_told (Cond.code yX12_told cX12_told 2 (some .int)) rm_X12_told [.ref (ad 0), .int x1] (wM ad cI cZ u) (wM ad cI cZ) Q :=
  MI_of (own := RX12) (by decide) rfl (Nat.le_of_ble_eq_true rfl) rfl (fun p e s m args below meth c A C => w_X12_told C h)
theorem hd_X12_told : yX12_told.cls ≠ "java/lang/invoke/MethodHandle" ∧ yX12_told.cls ≠ "java/lang/invoke/VarHandle" ∧ (parseMethodDescriptor yX12_told.desc).map (fun d => d.parameters.length) = some 1 := by decide +kernel
abbrev rm_X12_in : Room := { frames := 0, cells := 0, slots := 0, locals := 0 }
set_option maxRecDepth 100000 in
theorem w_X12_in {p : Program} {l : Launch} {e : Env} {s : State} {m : MethodId} {args : Array Value} {below : List Frame} {meth : Method} {c : Code} {A : Nat → Prop} {D : va_G} {ad : Nat → Nat} {cI cZ : ClassId} {N : Nat} {Q : Int32 → UU → Prop} (C : Cx p m c cX12_in 6 s args RX12 meth (some .boolean) A D [(cI, .int), (cZ, .boolean)] EM) : ∀ {x0 : Int64} {x2 : Int64} {x4 : Int64} {u : UU}, m_X12_in N x0 x2 x4 u Q → WW p l e rm_X12_in s m args below meth c 0 0 (MQ below (QI D A (wM ad cI cZ) Q) args s 0 0 A) A D 6 0 [(0, .long x0), (2, .long x2), (4, .long x4)] [] (wM ad cI cZ u) := by
  intro x0 x2 x4 u h
  unfold m_X12_in at h
  refine ww_lload_n C dX12_in_0 rfl 0 rfl ?_
  refine ww_lload_n C dX12_in_1 rfl 1 rfl ?_
  refine ww_lcmp C dX12_in_2 ?_
  refine ww_if_lt (tgt := 17) C dX12_in_3 (by decide) (fun hc => ?_) (fun hc => ?_)
  · have h := ite_t h hc
    refine ww_iconst (v := 0) C dX12_in_17 (by decide) ?_
    exact ww_zret C h.1 h.2 dX12_in_18
  · have h := ite_f h hc
    refine ww_lload_n C dX12_in_6 rfl 0 rfl ?_
    refine ww_lload C dX12_in_7 2 rfl ?_
    refine ww_lcmp C dX12_in_9 ?_
    refine ww_if_gt (tgt := 17) C dX12_in_10 (by decide) (fun hc => ?_) (fun hc => ?_)
    · have h := ite_t h hc
      refine ww_iconst (v := 0) C dX12_in_17 (by decide) ?_
      exact ww_zret C h.1 h.2 dX12_in_18
    · have h := ite_f h hc
      refine ww_iconst (v := 1) C dX12_in_13 (by decide) ?_
      refine ww_goto (tgt := 18) C dX12_in_14 (by decide) ?_
      exact ww_zret C h.1 h.2 dX12_in_18
theorem c_X12_in {l : Launch} {D : va_G} {ad : Nat → Nat} {cI cZ : ClassId} {N : Nat} {x0 : Int64} {x2 : Int64} {x4 : Int64} {u : UU} {Q : Int32 → UU → Prop} (h : m_X12_in N x0 x2 x4 u Q) : MI l D [(cI, .int), (cZ, .boolean)] EM yX12_in (Cond.code yX12_in cX12_in 6 (some .boolean)) rm_X12_in [.long x0, .long x2, .long x4] (wM ad cI cZ u) (wM ad cI cZ) Q :=
  MI_of (own := RX12) (by decide) rfl (Nat.le_of_ble_eq_true rfl) rfl (fun p e s m args below meth c A C => w_X12_in C h)
theorem hd_X12_in : yX12_in.cls ≠ "java/lang/invoke/MethodHandle" ∧ yX12_in.cls ≠ "java/lang/invoke/VarHandle" ∧ (parseMethodDescriptor yX12_in.desc).map (fun d => d.parameters.length) = some 3 := by decide +kernel
abbrev rm_X12_isPlace : Room := { frames := 1, cells := 0, slots := 0, locals := 25 }
set_option maxRecDepth 100000 in
theorem w_X12_isPlace {p : Program} {l : Launch} {e : Env} {s : State} {m : MethodId} {args : Array Value} {below : List Frame} {meth : Method} {c : Code} {A : Nat → Prop} {D : va_G} {ad : Nat → Nat} {cI cZ : ClassId} {N : Nat} {Q : Int32 → UU → Prop} (C : Cx p m c cX12_isPlace 1 s args RX12 meth (some .boolean) A D [(cI, .int), (cZ, .boolean)] EM) : ∀ {x0 : Int32} {u : UU}, m_X12_isPlace N x0 u Q → WW p l e rm_X12_isPlace s m args below meth c 0 0 (MQ below (QI D A (wM ad cI cZ) Q) args s 0 0 A) A D 1 0 [(0, .int x0)] [] (wM ad cI cZ u) := by
  intro x0 u h
  unfold m_X12_isPlace at h
  refine ww_iload_n C dX12_isPlace_0 rfl 0 rfl ?_
  refine ww_i2l C dX12_isPlace_1 ?_
  refine ww_lconst (v := 0) C dX12_isPlace_2 (by decide) ?_
  refine ww_ldc2 C tb_4_191 dX12_isPlace_3 ?_
  refine ww_callSi (As := [.long x0.toInt64, .long (0 : Int64), .long (63 : Int64)]) (rest := []) C EM_ok (c_X12_in h) tb_4_192 tb_4_193 tb_1_13 tb_4_194 rfl rfl hd_X12_in ⟨Nat.le_of_ble_eq_true rfl, Nat.le_of_ble_eq_true rfl⟩ rfl rfl (Nat.le_of_ble_eq_true rfl) dX12_isPlace_6 ⟨Nat.zero_le _, Nat.zero_le _⟩ (fun r_2 u_1 h => ?_)
  exact ww_zret C h.1 h.2 dX12_isPlace_9
theorem c_X12_isPlace {l : Launch} {D : va_G} {ad : Nat → Nat} {cI cZ : ClassId} {N : Nat} {x0 : Int32} {u : UU} {Q : Int32 → UU → Prop} (h : m_X12_isPlace N x0 u Q) : MI l D [(cI, .int), (cZ, .boolean)] EM yX12_isPlace (Cond.code yX12_isPlace cX12_isPlace 1 (some .boolean)) rm_X12_isPlace [.int x0] (wM ad cI cZ u) (wM ad cI cZ) Q :=
  MI_of (own := RX12) (by decide) rfl (Nat.le_of_ble_eq_true rfl) rfl (fun p e s m args below meth c A C => w_X12_isPlace C h)
theorem hd_X12_isPlace : yX12_isPlace.cls ≠ "java/lang/invoke/MethodHandle" ∧ yX12_isPlace.cls ≠ "java/lang/invoke/VarHandle" ∧ (parseMethodDescriptor yX12_isPlace.desc).map (fun d => d.parameters.length) = some 1 := by decide +kernel
abbrev rm_X12_board : Room := { frames := 2, cells := 0, slots := 0, locals := 45 }
set_option maxRecDepth 100000 in
theorem w_X12_board_19 {p : Program} {l : Launch} {e : Env} {s : State} {m : MethodId} {args : Array Value} {below : List Frame} {meth : Method} {c : Code} {A : Nat → Prop} {D : va_G} {ad : Nat → Nat} {cI cZ : ClassId} {N : Nat} {Q : Int32 → UU → Prop} (C : Cx p m c cX12_board 3 s args RX12 meth (some .int) A D [(cI, .int), (cZ, .boolean)] EM) : ∀ {u : UU}, m_X12_board_19 N  u Q → WW p l e rm_X12_board s m args below meth c 0 0 (MQ below (QI D A (wM ad cI cZ) Q) args s 0 0 A) A D 3 19 [(0, .ref (ad 0))] [] (wM ad cI cZ u) := by
  intro  u h
  unfold m_X12_board_19 at h
  refine ww_aload_n C dX12_board_19 rfl 0 rfl ?_
  refine ww_iconst (v := (-1)) C dX12_board_20 (by decide) ?_
  refine ww_callVi (As := [.int ((-1) : Int32)]) (rest := []) C EM_ok (c_X12_told h) tb_4_195 tb_4_197 tbs_18 tb_1_13 tb_4_198 rfl rfl ⟨rfl, hd_X12_told⟩ ⟨Nat.le_of_ble_eq_true rfl, Nat.le_of_ble_eq_true rfl⟩ rfl MF_0_0 rfl rfl (Nat.le_of_ble_eq_true rfl) dX12_board_21 ⟨Nat.zero_le _, Nat.zero_le _⟩ (fun r_2 u_1 h => ?_)
  exact ww_iret C h dX12_board_24
set_option maxRecDepth 100000 in
theorem w_X12_board {p : Program} {l : Launch} {e : Env} {s : State} {m : MethodId} {args : Array Value} {below : List Frame} {meth : Method} {c : Code} {A : Nat → Prop} {D : va_G} {ad : Nat → Nat} {cI cZ : ClassId} {N : Nat} {Q : Int32 → UU → Prop} (C : Cx p m c cX12_board 3 s args RX12 meth (some .int) A D [(cI, .int), (cZ, .boolean)] EM) : ∀ {x1 : Int32} {x2 : Int32} {u : UU}, m_X12_board N x1 x2 u Q → WW p l e rm_X12_board s m args below meth c 0 0 (MQ below (QI D A (wM ad cI cZ) Q) args s 0 0 A) A D 3 0 [(0, .ref (ad 0)), (1, .int x1), (2, .int x2)] [] (wM ad cI cZ u) := by
  intro x1 x2 u h
  unfold m_X12_board at h
  refine ww_aload_n C dX12_board_0 rfl 0 rfl ?_
  refine ww_iconst (v := 0) C dX12_board_1 (by decide) ?_
  refine ww_put C inX12 rfl tyX12 tyX12_ok nmX12 0 (by decide) tb_4_36 rfl rfl rfl MS_0_0 dX12_board_2 ?_
  refine ww_nU (wM ad cI cZ) (fun u_1 eu_1 => ?_)
  have h := h u_1 eu_1
  refine ww_iload_n C dX12_board_5 rfl 1 rfl ?_
  refine ww_callSi (As := [.int x1]) (rest := []) C EM_ok (c_X12_isPlace h) tb_4_188 tb_4_189 tb_1_13 tb_4_190 rfl rfl hd_X12_isPlace ⟨Nat.le_of_ble_eq_true rfl, Nat.le_of_ble_eq_true rfl⟩ rfl rfl (Nat.le_of_ble_eq_true rfl) dX12_board_6 ⟨Nat.zero_le _, Nat.zero_le _⟩ (fun r_3 u_2 h => ?_)
  refine ww_if_eq (tgt := 19) C dX12_board_9 (by decide) (fun hc => ?_) (fun hc => ?_)
  · have h := ite_t h hc
    refine ww_sub [0] rfl ?_
    exact w_X12_board_19 C h
  · have h := ite_f h hc
    refine ww_iload_n C dX12_board_12 rfl 2 rfl ?_
    refine ww_callSi (As := [.int x2]) (rest := []) C EM_ok (c_X12_isPlace h) tb_4_188 tb_4_189 tb_1_13 tb_4_190 rfl rfl hd_X12_isPlace ⟨Nat.le_of_ble_eq_true rfl, Nat.le_of_ble_eq_true rfl⟩ rfl rfl (Nat.le_of_ble_eq_true rfl) dX12_board_13 ⟨Nat.zero_le _, Nat.zero_le _⟩ (fun r_5 u_4 h => ?_)
    refine ww_if_ne (tgt := 25) C dX12_board_16 (by decide) (fun hc => ?_) (fun hc => ?_)
    · have h := ite_f h hc
      refine ww_aload_n C dX12_board_25 rfl 0 rfl ?_
      refine ww_get C inX12 rfl 2 (by decide) tb_4_38 MF_0_2 dX12_board_26 ?_
      refine ww_bipush (v := 30) C dX12_board_29 (by decide) ?_
      refine ww_icmp_ne (tgt := 41) C dX12_board_31 (by decide) (fun hc => ?_) (fun hc => ?_)
      · have h := ite_f h hc
        refine ww_aload_n C dX12_board_41 rfl 0 rfl ?_
        refine ww_get C inX12 rfl 3 (by decide) tb_4_39 MF_0_3 dX12_board_42 ?_
        refine ww_aload_n C dX12_board_45 rfl 0 rfl ?_
        refine ww_get C inX12 rfl 2 (by decide) tb_4_38 MF_0_2 dX12_board_46 ?_
        refine ww_iload_n C dX12_board_49 rfl 1 rfl ?_
        obtain ⟨hin, h⟩ := h
        refine ww_iast C 0 rfl MU_1 hin dX12_board_50 ?_
        refine ww_nU (wM ad cI cZ) (fun u_6 eu_6 => ?_)
        have h := h u_6 eu_6
        refine ww_aload_n C dX12_board_51 rfl 0 rfl ?_
        refine ww_get C inX12 rfl 4 (by decide) tb_4_40 MF_0_4 dX12_board_52 ?_
        refine ww_aload_n C dX12_board_55 rfl 0 rfl ?_
        refine ww_get C inX12 rfl 2 (by decide) tb_4_38 MF_0_2 dX12_board_56 ?_
        refine ww_iload_n C dX12_board_59 rfl 2 rfl ?_
        obtain ⟨hin, h⟩ := h
        refine ww_iast C 0 rfl MU_2 hin dX12_board_60 ?_
        refine ww_nU (wM ad cI cZ) (fun u_7 eu_7 => ?_)
        have h := h u_7 eu_7
        refine ww_aload_n C dX12_board_61 rfl 0 rfl ?_
        refine ww_get C inX12 rfl 5 (by decide) tb_4_41 MF_0_5 dX12_board_62 ?_
        refine ww_aload_n C dX12_board_65 rfl 0 rfl ?_
        refine ww_get C inX12 rfl 2 (by decide) tb_4_38 MF_0_2 dX12_board_66 ?_
        refine ww_iconst (v := (-1)) C dX12_board_69 (by decide) ?_
        obtain ⟨hin, h⟩ := h
        refine ww_iast C 0 rfl MU_3 hin dX12_board_70 ?_
        refine ww_nU (wM ad cI cZ) (fun u_8 eu_8 => ?_)
        have h := h u_8 eu_8
        refine ww_aload_n C dX12_board_71 rfl 0 rfl ?_
        refine ww_dup C dX12_board_72 rfl ?_
        refine ww_get C inX12 rfl 2 (by decide) tb_4_38 MF_0_2 dX12_board_73 ?_
        refine ww_iconst (v := 1) C dX12_board_76 (by decide) ?_
        refine ww_iadd C dX12_board_77 ?_
        refine ww_put C inX12 rfl tyX12 tyX12_ok nmX12 2 (by decide) tb_4_38 rfl rfl rfl MS_0_2 dX12_board_78 ?_
        refine ww_nU (wM ad cI cZ) (fun u_9 eu_9 => ?_)
        have h := h u_9 eu_9
        refine ww_aload_n C dX12_board_81 rfl 0 rfl ?_
        refine ww_aload_n C dX12_board_82 rfl 0 rfl ?_
        refine ww_get C inX12 rfl 2 (by decide) tb_4_38 MF_0_2 dX12_board_83 ?_
        refine ww_iconst (v := 1) C dX12_board_86 (by decide) ?_
        refine ww_isub C dX12_board_87 ?_
        refine ww_callVi (As := [.int ((u_9.1 2) - (1 : Int32))]) (rest := []) C EM_ok (c_X12_told h) tb_4_195 tb_4_197 tbs_18 tb_1_13 tb_4_198 rfl rfl ⟨rfl, hd_X12_told⟩ ⟨Nat.le_of_ble_eq_true rfl, Nat.le_of_ble_eq_true rfl⟩ rfl MF_0_0 rfl rfl (Nat.le_of_ble_eq_true rfl) dX12_board_88 ⟨Nat.zero_le _, Nat.zero_le _⟩ (fun r_11 u_10 h => ?_)
        exact ww_iret C h dX12_board_91
      · have h := ite_t h hc
        refine ww_aload_n C dX12_board_34 rfl 0 rfl ?_
        refine ww_bipush (v := (-5)) C dX12_board_35 (by decide) ?_
        refine ww_callVi (As := [.int ((-5) : Int32)]) (rest := []) C EM_ok (c_X12_told h) tb_4_195 tb_4_197 tbs_18 tb_1_13 tb_4_198 rfl rfl ⟨rfl, hd_X12_told⟩ ⟨Nat.le_of_ble_eq_true rfl, Nat.le_of_ble_eq_true rfl⟩ rfl MF_0_0 rfl rfl (Nat.le_of_ble_eq_true rfl) dX12_board_37 ⟨Nat.zero_le _, Nat.zero_le _⟩ (fun r_13 u_12 h => ?_)
        exact ww_iret C h dX12_board_40
    · have h := ite_t h hc
      refine ww_sub [0] rfl ?_
      exact w_X12_board_19 C h
theorem c_X12_board {l : Launch} {D : va_G} {ad : Nat → Nat} {cI cZ : ClassId} {N : Nat} {x1 : Int32} {x2 : Int32} {u : UU} {Q : Int32 → UU → Prop} (h : m_X12_board N x1 x2 u Q) : MI l D [(cI, .int), (cZ, .boolean)] EM yX12_board (Cond.code yX12_board cX12_board 3 (some .int)) rm_X12_board [.ref (ad 0), .int x1, .int x2] (wM ad cI cZ u) (wM ad cI cZ) Q :=
  MI_of (own := RX12) (by decide) rfl (Nat.le_of_ble_eq_true rfl) rfl (fun p e s m args below meth c A C => w_X12_board C h)
theorem hd_X12_board : yX12_board.cls ≠ "java/lang/invoke/MethodHandle" ∧ yX12_board.cls ≠ "java/lang/invoke/VarHandle" ∧ (parseMethodDescriptor yX12_board.desc).map (fun d => d.parameters.length) = some 2 := by decide +kernel
abbrev rm_X12_isKnown : Room := { frames := 1, cells := 0, slots := 0, locals := 25 }
set_option maxRecDepth 100000 in
theorem w_X12_isKnown {p : Program} {l : Launch} {e : Env} {s : State} {m : MethodId} {args : Array Value} {below : List Frame} {meth : Method} {c : Code} {A : Nat → Prop} {D : va_G} {ad : Nat → Nat} {cI cZ : ClassId} {N : Nat} {Q : Int32 → UU → Prop} (C : Cx p m c cX12_isKnown 1 s args RX12 meth (some .boolean) A D [(cI, .int), (cZ, .boolean)] EM) : ∀ {x0 : Int32} {u : UU}, m_X12_isKnown N x0 u Q → WW p l e rm_X12_isKnown s m args below meth c 0 0 (MQ below (QI D A (wM ad cI cZ) Q) args s 0 0 A) A D 1 0 [(0, .int x0)] [] (wM ad cI cZ u) := by
  intro x0 u h
  unfold m_X12_isKnown at h
  refine ww_iload_n C dX12_isKnown_0 rfl 0 rfl ?_
  refine ww_i2l C dX12_isKnown_1 ?_
  refine ww_lconst (v := 0) C dX12_isKnown_2 (by decide) ?_
  refine ww_ldc2 C tb_4_209 dX12_isKnown_3 ?_
  refine ww_callSi (As := [.long x0.toInt64, .long (0 : Int64), .long (1000 : Int64)]) (rest := []) C EM_ok (c_X12_in h) tb_4_192 tb_4_193 tb_1_13 tb_4_194 rfl rfl hd_X12_in ⟨Nat.le_of_ble_eq_true rfl, Nat.le_of_ble_eq_true rfl⟩ rfl rfl (Nat.le_of_ble_eq_true rfl) dX12_isKnown_6 ⟨Nat.zero_le _, Nat.zero_le _⟩ (fun r_2 u_1 h => ?_)
  exact ww_zret C h.1 h.2 dX12_isKnown_9
theorem c_X12_isKnown {l : Launch} {D : va_G} {ad : Nat → Nat} {cI cZ : ClassId} {N : Nat} {x0 : Int32} {u : UU} {Q : Int32 → UU → Prop} (h : m_X12_isKnown N x0 u Q) : MI l D [(cI, .int), (cZ, .boolean)] EM yX12_isKnown (Cond.code yX12_isKnown cX12_isKnown 1 (some .boolean)) rm_X12_isKnown [.int x0] (wM ad cI cZ u) (wM ad cI cZ) Q :=
  MI_of (own := RX12) (by decide) rfl (Nat.le_of_ble_eq_true rfl) rfl (fun p e s m args below meth c A C => w_X12_isKnown C h)
theorem hd_X12_isKnown : yX12_isKnown.cls ≠ "java/lang/invoke/MethodHandle" ∧ yX12_isKnown.cls ≠ "java/lang/invoke/VarHandle" ∧ (parseMethodDescriptor yX12_isKnown.desc).map (fun d => d.parameters.length) = some 1 := by decide +kernel
abbrev rm_X12_isBoard : Room := { frames := 1, cells := 0, slots := 0, locals := 25 }
set_option maxRecDepth 100000 in
theorem w_X12_isBoard {p : Program} {l : Launch} {e : Env} {s : State} {m : MethodId} {args : Array Value} {below : List Frame} {meth : Method} {c : Code} {A : Nat → Prop} {D : va_G} {ad : Nat → Nat} {cI cZ : ClassId} {N : Nat} {Q : Int32 → UU → Prop} (C : Cx p m c cX12_isBoard 2 s args RX12 meth (some .boolean) A D [(cI, .int), (cZ, .boolean)] EM) : ∀ {x1 : Int32} {u : UU}, m_X12_isBoard N x1 u Q → WW p l e rm_X12_isBoard s m args below meth c 0 0 (MQ below (QI D A (wM ad cI cZ) Q) args s 0 0 A) A D 2 0 [(0, .ref (ad 0)), (1, .int x1)] [] (wM ad cI cZ u) := by
  intro x1 u h
  unfold m_X12_isBoard at h
  refine ww_iload_n C dX12_isBoard_0 rfl 1 rfl ?_
  refine ww_i2l C dX12_isBoard_1 ?_
  refine ww_lconst (v := 0) C dX12_isBoard_2 (by decide) ?_
  refine ww_aload_n C dX12_isBoard_3 rfl 0 rfl ?_
  refine ww_get C inX12 rfl 2 (by decide) tb_4_38 MF_0_2 dX12_isBoard_4 ?_
  refine ww_i2l C dX12_isBoard_7 ?_
  refine ww_lconst (v := 1) C dX12_isBoard_8 (by decide) ?_
  refine ww_lsub C dX12_isBoard_9 ?_
  refine ww_callSi (As := [.long x1.toInt64, .long (0 : Int64), .long (((u.1 2).toInt64) - (1 : Int64))]) (rest := []) C EM_ok (c_X12_in h) tb_4_192 tb_4_193 tb_1_13 tb_4_194 rfl rfl hd_X12_in ⟨Nat.le_of_ble_eq_true rfl, Nat.le_of_ble_eq_true rfl⟩ rfl rfl (Nat.le_of_ble_eq_true rfl) dX12_isBoard_10 ⟨Nat.zero_le _, Nat.zero_le _⟩ (fun r_2 u_1 h => ?_)
  exact ww_zret C h.1 h.2 dX12_isBoard_13
theorem c_X12_isBoard {l : Launch} {D : va_G} {ad : Nat → Nat} {cI cZ : ClassId} {N : Nat} {x1 : Int32} {u : UU} {Q : Int32 → UU → Prop} (h : m_X12_isBoard N x1 u Q) : MI l D [(cI, .int), (cZ, .boolean)] EM yX12_isBoard (Cond.code yX12_isBoard cX12_isBoard 2 (some .boolean)) rm_X12_isBoard [.ref (ad 0), .int x1] (wM ad cI cZ u) (wM ad cI cZ) Q :=
  MI_of (own := RX12) (by decide) rfl (Nat.le_of_ble_eq_true rfl) rfl (fun p e s m args below meth c A C => w_X12_isBoard C h)
theorem hd_X12_isBoard : yX12_isBoard.cls ≠ "java/lang/invoke/MethodHandle" ∧ yX12_isBoard.cls ≠ "java/lang/invoke/VarHandle" ∧ (parseMethodDescriptor yX12_isBoard.desc).map (fun d => d.parameters.length) = some 1 := by decide +kernel
abbrev rm_X12_dent : Room := { frames := 2, cells := 0, slots := 0, locals := 46 }
set_option maxRecDepth 100000 in
theorem w_X12_dent_50 {p : Program} {l : Launch} {e : Env} {s : State} {m : MethodId} {args : Array Value} {below : List Frame} {meth : Method} {c : Code} {A : Nat → Prop} {D : va_G} {ad : Nat → Nat} {cI cZ : ClassId} {N : Nat} {Q : Int32 → UU → Prop} (C : Cx p m c cX12_dent 6 s args RX12 meth (some .int) A D [(cI, .int), (cZ, .boolean)] EM) : ∀ {u : UU}, m_X12_dent_50 N  u Q → WW p l e rm_X12_dent s m args below meth c 0 0 (MQ below (QI D A (wM ad cI cZ) Q) args s 0 0 A) A D 6 50 [(0, .ref (ad 0))] [] (wM ad cI cZ u) := by
  intro  u h
  unfold m_X12_dent_50 at h
  refine ww_aload_n C dX12_dent_50 rfl 0 rfl ?_
  refine ww_iconst (v := (-1)) C dX12_dent_51 (by decide) ?_
  refine ww_callVi (As := [.int ((-1) : Int32)]) (rest := []) C EM_ok (c_X12_told h) tb_4_195 tb_4_197 tbs_18 tb_1_13 tb_4_198 rfl rfl ⟨rfl, hd_X12_told⟩ ⟨Nat.le_of_ble_eq_true rfl, Nat.le_of_ble_eq_true rfl⟩ rfl MF_0_0 rfl rfl (Nat.le_of_ble_eq_true rfl) dX12_dent_52 ⟨Nat.zero_le _, Nat.zero_le _⟩ (fun r_2 u_1 h => ?_)
  exact ww_iret C h dX12_dent_55
set_option maxRecDepth 100000 in
theorem w_X12_dent {p : Program} {l : Launch} {e : Env} {s : State} {m : MethodId} {args : Array Value} {below : List Frame} {meth : Method} {c : Code} {A : Nat → Prop} {D : va_G} {ad : Nat → Nat} {cI cZ : ClassId} {N : Nat} {Q : Int32 → UU → Prop} (C : Cx p m c cX12_dent 6 s args RX12 meth (some .int) A D [(cI, .int), (cZ, .boolean)] EM) : ∀ {x1 : Int32} {x2 : Int32} {x3 : Int32} {x4 : Int32} {x5 : Int32} {u : UU}, m_X12_dent N x1 x2 x3 x4 x5 u Q → WW p l e rm_X12_dent s m args below meth c 0 0 (MQ below (QI D A (wM ad cI cZ) Q) args s 0 0 A) A D 6 0 [(0, .ref (ad 0)), (1, .int x1), (2, .int x2), (3, .int x3), (4, .int x4), (5, .int x5)] [] (wM ad cI cZ u) := by
  intro x1 x2 x3 x4 x5 u h
  unfold m_X12_dent at h
  refine ww_aload_n C dX12_dent_0 rfl 0 rfl ?_
  refine ww_iconst (v := 0) C dX12_dent_1 (by decide) ?_
  refine ww_put C inX12 rfl tyX12 tyX12_ok nmX12 0 (by decide) tb_4_36 rfl rfl rfl MS_0_0 dX12_dent_2 ?_
  refine ww_nU (wM ad cI cZ) (fun u_1 eu_1 => ?_)
  have h := h u_1 eu_1
  refine ww_iload_n C dX12_dent_5 rfl 2 rfl ?_
  refine ww_i2l C dX12_dent_6 ?_
  refine ww_lconst (v := 0) C dX12_dent_7 (by decide) ?_
  refine ww_ldc2 C tb_4_203 dX12_dent_8 ?_
  refine ww_callSi (As := [.long x2.toInt64, .long (0 : Int64), .long (9 : Int64)]) (rest := []) C EM_ok (c_X12_in h) tb_4_192 tb_4_193 tb_1_13 tb_4_194 rfl rfl hd_X12_in ⟨Nat.le_of_ble_eq_true rfl, Nat.le_of_ble_eq_true rfl⟩ rfl rfl (Nat.le_of_ble_eq_true rfl) dX12_dent_11 ⟨Nat.zero_le _, Nat.zero_le _⟩ (fun r_3 u_2 h => ?_)
  refine ww_if_eq (tgt := 50) C dX12_dent_14 (by decide) (fun hc => ?_) (fun hc => ?_)
  · have h := ite_t h hc
    refine ww_sub [0] rfl ?_
    exact w_X12_dent_50 C h
  · have h := ite_f h hc
    refine ww_iload_n C dX12_dent_17 rfl 3 rfl ?_
    refine ww_i2l C dX12_dent_18 ?_
    refine ww_lconst (v := 0) C dX12_dent_19 (by decide) ?_
    refine ww_ldc2 C tb_4_204 dX12_dent_20 ?_
    refine ww_callSi (As := [.long x3.toInt64, .long (0 : Int64), .long (7 : Int64)]) (rest := []) C EM_ok (c_X12_in h) tb_4_192 tb_4_193 tb_1_13 tb_4_194 rfl rfl hd_X12_in ⟨Nat.le_of_ble_eq_true rfl, Nat.le_of_ble_eq_true rfl⟩ rfl rfl (Nat.le_of_ble_eq_true rfl) dX12_dent_23 ⟨Nat.zero_le _, Nat.zero_le _⟩ (fun r_5 u_4 h => ?_)
    refine ww_if_eq (tgt := 50) C dX12_dent_26 (by decide) (fun hc => ?_) (fun hc => ?_)
    · have h := ite_t h hc
      refine ww_sub [0] rfl ?_
      exact w_X12_dent_50 C h
    · have h := ite_f h hc
      refine ww_iload C dX12_dent_29 4 rfl ?_
      refine ww_i2l C dX12_dent_31 ?_
      refine ww_lconst (v := 1) C dX12_dent_32 (by decide) ?_
      refine ww_ldc2 C tb_4_205 dX12_dent_33 ?_
      refine ww_callSi (As := [.long x4.toInt64, .long (1 : Int64), .long (400 : Int64)]) (rest := []) C EM_ok (c_X12_in h) tb_4_192 tb_4_193 tb_1_13 tb_4_194 rfl rfl hd_X12_in ⟨Nat.le_of_ble_eq_true rfl, Nat.le_of_ble_eq_true rfl⟩ rfl rfl (Nat.le_of_ble_eq_true rfl) dX12_dent_36 ⟨Nat.zero_le _, Nat.zero_le _⟩ (fun r_7 u_6 h => ?_)
      refine ww_if_eq (tgt := 50) C dX12_dent_39 (by decide) (fun hc => ?_) (fun hc => ?_)
      · have h := ite_t h hc
        refine ww_sub [0] rfl ?_
        exact w_X12_dent_50 C h
      · have h := ite_f h hc
        refine ww_iload C dX12_dent_42 5 rfl ?_
        refine ww_callSi (As := [.int x5]) (rest := []) C EM_ok (c_X12_isKnown h) tb_4_206 tb_4_207 tb_1_13 tb_4_208 rfl rfl hd_X12_isKnown ⟨Nat.le_of_ble_eq_true rfl, Nat.le_of_ble_eq_true rfl⟩ rfl rfl (Nat.le_of_ble_eq_true rfl) dX12_dent_44 ⟨Nat.zero_le _, Nat.zero_le _⟩ (fun r_9 u_8 h => ?_)
        refine ww_if_ne (tgt := 56) C dX12_dent_47 (by decide) (fun hc => ?_) (fun hc => ?_)
        · have h := ite_f h hc
          refine ww_aload_n C dX12_dent_56 rfl 0 rfl ?_
          refine ww_iload_n C dX12_dent_57 rfl 1 rfl ?_
          refine ww_callVi (As := [.int x1]) (rest := []) C EM_ok (c_X12_isBoard h) tb_4_210 tb_4_212 tbs_19 tb_1_13 tb_4_213 rfl rfl ⟨rfl, hd_X12_isBoard⟩ ⟨Nat.le_of_ble_eq_true rfl, Nat.le_of_ble_eq_true rfl⟩ rfl MF_0_0 rfl rfl (Nat.le_of_ble_eq_true rfl) dX12_dent_58 ⟨Nat.zero_le _, Nat.zero_le _⟩ (fun r_11 u_10 h => ?_)
          refine ww_if_ne (tgt := 71) C dX12_dent_61 (by decide) (fun hc => ?_) (fun hc => ?_)
          · have h := ite_f h hc
            refine ww_aload_n C dX12_dent_71 rfl 0 rfl ?_
            refine ww_get C inX12 rfl 6 (by decide) tb_4_42 MF_0_6 dX12_dent_72 ?_
            refine ww_sipush (v := 300) C dX12_dent_75 (by decide) ?_
            refine ww_icmp_ne (tgt := 88) C dX12_dent_78 (by decide) (fun hc => ?_) (fun hc => ?_)
            · have h := ite_f h hc
              refine ww_aload_n C dX12_dent_88 rfl 0 rfl ?_
              refine ww_get C inX12 rfl 7 (by decide) tb_4_43 MF_0_7 dX12_dent_89 ?_
              refine ww_aload_n C dX12_dent_92 rfl 0 rfl ?_
              refine ww_get C inX12 rfl 6 (by decide) tb_4_42 MF_0_6 dX12_dent_93 ?_
              refine ww_bipush (v := 80) C dX12_dent_96 (by decide) ?_
              refine ww_iload_n C dX12_dent_98 rfl 1 rfl ?_
              refine ww_imul C dX12_dent_99 ?_
              refine ww_bipush (v := 8) C dX12_dent_100 (by decide) ?_
              refine ww_iload_n C dX12_dent_102 rfl 2 rfl ?_
              refine ww_imul C dX12_dent_103 ?_
              refine ww_iadd C dX12_dent_104 ?_
              refine ww_iload_n C dX12_dent_105 rfl 3 rfl ?_
              refine ww_iadd C dX12_dent_106 ?_
              obtain ⟨hin, h⟩ := h
              refine ww_iast C 0 rfl MU_4 hin dX12_dent_107 ?_
              refine ww_nU (wM ad cI cZ) (fun u_12 eu_12 => ?_)
              have h := h u_12 eu_12
              refine ww_aload_n C dX12_dent_108 rfl 0 rfl ?_
              refine ww_get C inX12 rfl 8 (by decide) tb_4_44 MF_0_8 dX12_dent_109 ?_
              refine ww_aload_n C dX12_dent_112 rfl 0 rfl ?_
              refine ww_get C inX12 rfl 6 (by decide) tb_4_42 MF_0_6 dX12_dent_113 ?_
              refine ww_iload C dX12_dent_116 4 rfl ?_
              obtain ⟨hin, h⟩ := h
              refine ww_iast C 0 rfl MU_5 hin dX12_dent_118 ?_
              refine ww_nU (wM ad cI cZ) (fun u_13 eu_13 => ?_)
              have h := h u_13 eu_13
              refine ww_aload_n C dX12_dent_119 rfl 0 rfl ?_
              refine ww_get C inX12 rfl 9 (by decide) tb_4_45 MF_0_9 dX12_dent_120 ?_
              refine ww_aload_n C dX12_dent_123 rfl 0 rfl ?_
              refine ww_get C inX12 rfl 6 (by decide) tb_4_42 MF_0_6 dX12_dent_124 ?_
              refine ww_iload C dX12_dent_127 5 rfl ?_
              obtain ⟨hin, h⟩ := h
              refine ww_iast C 0 rfl MU_6 hin dX12_dent_129 ?_
              refine ww_nU (wM ad cI cZ) (fun u_14 eu_14 => ?_)
              have h := h u_14 eu_14
              refine ww_aload_n C dX12_dent_130 rfl 0 rfl ?_
              refine ww_dup C dX12_dent_131 rfl ?_
              refine ww_get C inX12 rfl 6 (by decide) tb_4_42 MF_0_6 dX12_dent_132 ?_
              refine ww_iconst (v := 1) C dX12_dent_135 (by decide) ?_
              refine ww_iadd C dX12_dent_136 ?_
              refine ww_put C inX12 rfl tyX12 tyX12_ok nmX12 6 (by decide) tb_4_42 rfl rfl rfl MS_0_6 dX12_dent_137 ?_
              refine ww_nU (wM ad cI cZ) (fun u_15 eu_15 => ?_)
              have h := h u_15 eu_15
              refine ww_aload_n C dX12_dent_140 rfl 0 rfl ?_
              refine ww_aload_n C dX12_dent_141 rfl 0 rfl ?_
              refine ww_get C inX12 rfl 6 (by decide) tb_4_42 MF_0_6 dX12_dent_142 ?_
              refine ww_callVi (As := [.int (u_15.1 3)]) (rest := []) C EM_ok (c_X12_told h) tb_4_195 tb_4_197 tbs_18 tb_1_13 tb_4_198 rfl rfl ⟨rfl, hd_X12_told⟩ ⟨Nat.le_of_ble_eq_true rfl, Nat.le_of_ble_eq_true rfl⟩ rfl MF_0_0 rfl rfl (Nat.le_of_ble_eq_true rfl) dX12_dent_145 ⟨Nat.zero_le _, Nat.zero_le _⟩ (fun r_17 u_16 h => ?_)
              exact ww_iret C h dX12_dent_148
            · have h := ite_t h hc
              refine ww_aload_n C dX12_dent_81 rfl 0 rfl ?_
              refine ww_bipush (v := (-5)) C dX12_dent_82 (by decide) ?_
              refine ww_callVi (As := [.int ((-5) : Int32)]) (rest := []) C EM_ok (c_X12_told h) tb_4_195 tb_4_197 tbs_18 tb_1_13 tb_4_198 rfl rfl ⟨rfl, hd_X12_told⟩ ⟨Nat.le_of_ble_eq_true rfl, Nat.le_of_ble_eq_true rfl⟩ rfl MF_0_0 rfl rfl (Nat.le_of_ble_eq_true rfl) dX12_dent_84 ⟨Nat.zero_le _, Nat.zero_le _⟩ (fun r_19 u_18 h => ?_)
              exact ww_iret C h dX12_dent_87
          · have h := ite_t h hc
            refine ww_aload_n C dX12_dent_64 rfl 0 rfl ?_
            refine ww_bipush (v := (-2)) C dX12_dent_65 (by decide) ?_
            refine ww_callVi (As := [.int ((-2) : Int32)]) (rest := []) C EM_ok (c_X12_told h) tb_4_195 tb_4_197 tbs_18 tb_1_13 tb_4_198 rfl rfl ⟨rfl, hd_X12_told⟩ ⟨Nat.le_of_ble_eq_true rfl, Nat.le_of_ble_eq_true rfl⟩ rfl MF_0_0 rfl rfl (Nat.le_of_ble_eq_true rfl) dX12_dent_67 ⟨Nat.zero_le _, Nat.zero_le _⟩ (fun r_21 u_20 h => ?_)
            exact ww_iret C h dX12_dent_70
        · have h := ite_t h hc
          refine ww_sub [0] rfl ?_
          exact w_X12_dent_50 C h
theorem c_X12_dent {l : Launch} {D : va_G} {ad : Nat → Nat} {cI cZ : ClassId} {N : Nat} {x1 : Int32} {x2 : Int32} {x3 : Int32} {x4 : Int32} {x5 : Int32} {u : UU} {Q : Int32 → UU → Prop} (h : m_X12_dent N x1 x2 x3 x4 x5 u Q) : MI l D [(cI, .int), (cZ, .boolean)] EM yX12_dent (Cond.code yX12_dent cX12_dent 6 (some .int)) rm_X12_dent [.ref (ad 0), .int x1, .int x2, .int x3, .int x4, .int x5] (wM ad cI cZ u) (wM ad cI cZ) Q :=
  MI_of (own := RX12) (by decide) rfl (Nat.le_of_ble_eq_true rfl) rfl (fun p e s m args below meth c A C => w_X12_dent C h)
theorem hd_X12_dent : yX12_dent.cls ≠ "java/lang/invoke/MethodHandle" ∧ yX12_dent.cls ≠ "java/lang/invoke/VarHandle" ∧ (parseMethodDescriptor yX12_dent.desc).map (fun d => d.parameters.length) = some 5 := by decide +kernel
abbrev rm_X12_clear : Room := { frames := 2, cells := 0, slots := 0, locals := 46 }
set_option maxRecDepth 100000 in
theorem w_X12_clear_68 {p : Program} {l : Launch} {e : Env} {s : State} {m : MethodId} {args : Array Value} {below : List Frame} {meth : Method} {c : Code} {A : Nat → Prop} {D : va_G} {ad : Nat → Nat} {cI cZ : ClassId} {N : Nat} {Q : Int32 → UU → Prop} (C : Cx p m c cX12_clear 3 s args RX12 meth (some .int) A D [(cI, .int), (cZ, .boolean)] EM) : ∀ {y1 : Int32} {y2 : Int32} {u : UU}, m_X12_clear_68 N y1 y2 u Q → WW p l e rm_X12_clear s m args below meth c 0 0 (MQ below (QI D A (wM ad cI cZ) Q) args s 0 0 A) A D 3 68 [(0, .ref (ad 0))] [.int y2, .int y1, .ref (ad 3)] (wM ad cI cZ u) := by
  intro y1 y2 u h
  unfold m_X12_clear_68 at h
  obtain ⟨hin, h⟩ := h
  refine ww_iast C 0 rfl MU_3 hin dX12_clear_68 ?_
  refine ww_nU (wM ad cI cZ) (fun u_1 eu_1 => ?_)
  have h := h u_1 eu_1
  refine ww_aload_n C dX12_clear_69 rfl 0 rfl ?_
  refine ww_iconst (v := 0) C dX12_clear_70 (by decide) ?_
  refine ww_callVi (As := [.int (0 : Int32)]) (rest := []) C EM_ok (c_X12_told h) tb_4_195 tb_4_197 tbs_18 tb_1_13 tb_4_198 rfl rfl ⟨rfl, hd_X12_told⟩ ⟨Nat.le_of_ble_eq_true rfl, Nat.le_of_ble_eq_true rfl⟩ rfl MF_0_0 rfl rfl (Nat.le_of_ble_eq_true rfl) dX12_clear_71 ⟨Nat.zero_le _, Nat.zero_le _⟩ (fun r_3 u_2 h => ?_)
  exact ww_iret C h dX12_clear_74
set_option maxRecDepth 100000 in
theorem w_X12_clear_58 {p : Program} {l : Launch} {e : Env} {s : State} {m : MethodId} {args : Array Value} {below : List Frame} {meth : Method} {c : Code} {A : Nat → Prop} {D : va_G} {ad : Nat → Nat} {cI cZ : ClassId} {N : Nat} {Q : Int32 → UU → Prop} (C : Cx p m c cX12_clear 3 s args RX12 meth (some .int) A D [(cI, .int), (cZ, .boolean)] EM) : ∀ {x2 : Int32} {y1 : Int32} {u : UU}, m_X12_clear_58 N x2 y1 u Q → WW p l e rm_X12_clear s m args below meth c 0 0 (MQ below (QI D A (wM ad cI cZ) Q) args s 0 0 A) A D 3 58 [(0, .ref (ad 0)), (2, .int x2)] [.int y1, .ref (ad 3)] (wM ad cI cZ u) := by
  intro x2 y1 u h
  unfold m_X12_clear_58 at h
  refine ww_iload_n C dX12_clear_58 rfl 1 rfl ?_
  refine ww_goto (tgt := 68) C dX12_clear_59 (by decide) ?_
  refine ww_sub [0] rfl ?_
  exact w_X12_clear_68 C h
set_option maxRecDepth 100000 in
theorem w_X12_clear {p : Program} {l : Launch} {e : Env} {s : State} {m : MethodId} {args : Array Value} {below : List Frame} {meth : Method} {c : Code} {A : Nat → Prop} {D : va_G} {ad : Nat → Nat} {cI cZ : ClassId} {N : Nat} {Q : Int32 → UU → Prop} (C : Cx p m c cX12_clear 3 s args RX12 meth (some .int) A D [(cI, .int), (cZ, .boolean)] EM) : ∀ {x1 : Int32} {x2 : Int32} {u : UU}, m_X12_clear N x1 x2 u Q → WW p l e rm_X12_clear s m args below meth c 0 0 (MQ below (QI D A (wM ad cI cZ) Q) args s 0 0 A) A D 3 0 [(0, .ref (ad 0)), (1, .int x1), (2, .int x2)] [] (wM ad cI cZ u) := by
  intro x1 x2 u h
  unfold m_X12_clear at h
  refine ww_aload_n C dX12_clear_0 rfl 0 rfl ?_
  refine ww_iconst (v := 0) C dX12_clear_1 (by decide) ?_
  refine ww_put C inX12 rfl tyX12 tyX12_ok nmX12 0 (by decide) tb_4_36 rfl rfl rfl MS_0_0 dX12_clear_2 ?_
  refine ww_nU (wM ad cI cZ) (fun u_1 eu_1 => ?_)
  have h := h u_1 eu_1
  refine ww_iload_n C dX12_clear_5 rfl 2 rfl ?_
  refine ww_callSi (As := [.int x2]) (rest := []) C EM_ok (c_X12_isKnown h) tb_4_206 tb_4_207 tb_1_13 tb_4_208 rfl rfl hd_X12_isKnown ⟨Nat.le_of_ble_eq_true rfl, Nat.le_of_ble_eq_true rfl⟩ rfl rfl (Nat.le_of_ble_eq_true rfl) dX12_clear_6 ⟨Nat.zero_le _, Nat.zero_le _⟩ (fun r_3 u_2 h => ?_)
  refine ww_if_ne (tgt := 18) C dX12_clear_9 (by decide) (fun hc => ?_) (fun hc => ?_)
  · have h := ite_f h hc
    refine ww_aload_n C dX12_clear_18 rfl 0 rfl ?_
    refine ww_iload_n C dX12_clear_19 rfl 1 rfl ?_
    refine ww_callVi (As := [.int x1]) (rest := []) C EM_ok (c_X12_isBoard h) tb_4_210 tb_4_212 tbs_19 tb_1_13 tb_4_213 rfl rfl ⟨rfl, hd_X12_isBoard⟩ ⟨Nat.le_of_ble_eq_true rfl, Nat.le_of_ble_eq_true rfl⟩ rfl MF_0_0 rfl rfl (Nat.le_of_ble_eq_true rfl) dX12_clear_20 ⟨Nat.zero_le _, Nat.zero_le _⟩ (fun r_5 u_4 h => ?_)
    refine ww_if_ne (tgt := 33) C dX12_clear_23 (by decide) (fun hc => ?_) (fun hc => ?_)
    · have h := ite_f h hc
      refine ww_aload_n C dX12_clear_33 rfl 0 rfl ?_
      refine ww_get C inX12 rfl 5 (by decide) tb_4_41 MF_0_5 dX12_clear_34 ?_
      refine ww_iload_n C dX12_clear_37 rfl 1 rfl ?_
      refine ww_aload_n C dX12_clear_38 rfl 0 rfl ?_
      refine ww_get C inX12 rfl 5 (by decide) tb_4_41 MF_0_5 dX12_clear_39 ?_
      refine ww_iload_n C dX12_clear_42 rfl 1 rfl ?_
      obtain ⟨hin, h⟩ := h
      refine ww_iald C 0 rfl MA_3 hin dX12_clear_43 ?_
      refine ww_iconst (v := (-1)) C dX12_clear_44 (by decide) ?_
      refine ww_icmp_eq (tgt := 58) C dX12_clear_45 (by decide) (fun hc => ?_) (fun hc => ?_)
      · have h := ite_t h hc
        refine ww_sub [0, 2] rfl ?_
        exact w_X12_clear_58 C h
      · have h := ite_f h hc
        refine ww_iload_n C dX12_clear_48 rfl 2 rfl ?_
        refine ww_aload_n C dX12_clear_49 rfl 0 rfl ?_
        refine ww_get C inX12 rfl 5 (by decide) tb_4_41 MF_0_5 dX12_clear_50 ?_
        refine ww_iload_n C dX12_clear_53 rfl 1 rfl ?_
        obtain ⟨hin, h⟩ := h
        refine ww_iald C 0 rfl MA_3 hin dX12_clear_54 ?_
        refine ww_icmp_ge (tgt := 62) C dX12_clear_55 (by decide) (fun hc => ?_) (fun hc => ?_)
        · have h := ite_t h hc
          refine ww_aload_n C dX12_clear_62 rfl 0 rfl ?_
          refine ww_get C inX12 rfl 5 (by decide) tb_4_41 MF_0_5 dX12_clear_63 ?_
          refine ww_iload_n C dX12_clear_66 rfl 1 rfl ?_
          obtain ⟨hin, h⟩ := h
          refine ww_iald C 0 rfl MA_3 hin dX12_clear_67 ?_
          refine ww_sub [0] rfl ?_
          exact w_X12_clear_68 C h
        · have h := ite_f h hc
          refine ww_sub [0, 2] rfl ?_
          exact w_X12_clear_58 C h
    · have h := ite_t h hc
      refine ww_aload_n C dX12_clear_26 rfl 0 rfl ?_
      refine ww_bipush (v := (-2)) C dX12_clear_27 (by decide) ?_
      refine ww_callVi (As := [.int ((-2) : Int32)]) (rest := []) C EM_ok (c_X12_told h) tb_4_195 tb_4_197 tbs_18 tb_1_13 tb_4_198 rfl rfl ⟨rfl, hd_X12_told⟩ ⟨Nat.le_of_ble_eq_true rfl, Nat.le_of_ble_eq_true rfl⟩ rfl MF_0_0 rfl rfl (Nat.le_of_ble_eq_true rfl) dX12_clear_29 ⟨Nat.zero_le _, Nat.zero_le _⟩ (fun r_7 u_6 h => ?_)
      exact ww_iret C h dX12_clear_32
  · have h := ite_t h hc
    refine ww_aload_n C dX12_clear_12 rfl 0 rfl ?_
    refine ww_iconst (v := (-1)) C dX12_clear_13 (by decide) ?_
    refine ww_callVi (As := [.int ((-1) : Int32)]) (rest := []) C EM_ok (c_X12_told h) tb_4_195 tb_4_197 tbs_18 tb_1_13 tb_4_198 rfl rfl ⟨rfl, hd_X12_told⟩ ⟨Nat.le_of_ble_eq_true rfl, Nat.le_of_ble_eq_true rfl⟩ rfl MF_0_0 rfl rfl (Nat.le_of_ble_eq_true rfl) dX12_clear_14 ⟨Nat.zero_le _, Nat.zero_le _⟩ (fun r_9 u_8 h => ?_)
    exact ww_iret C h dX12_clear_17
theorem c_X12_clear {l : Launch} {D : va_G} {ad : Nat → Nat} {cI cZ : ClassId} {N : Nat} {x1 : Int32} {x2 : Int32} {u : UU} {Q : Int32 → UU → Prop} (h : m_X12_clear N x1 x2 u Q) : MI l D [(cI, .int), (cZ, .boolean)] EM yX12_clear (Cond.code yX12_clear cX12_clear 3 (some .int)) rm_X12_clear [.ref (ad 0), .int x1, .int x2] (wM ad cI cZ u) (wM ad cI cZ) Q :=
  MI_of (own := RX12) (by decide) rfl (Nat.le_of_ble_eq_true rfl) rfl (fun p e s m args below meth c A C => w_X12_clear C h)
theorem hd_X12_clear : yX12_clear.cls ≠ "java/lang/invoke/MethodHandle" ∧ yX12_clear.cls ≠ "java/lang/invoke/VarHandle" ∧ (parseMethodDescriptor yX12_clear.desc).map (fun d => d.parameters.length) = some 2 := by decide +kernel
abbrev rm_X12_table : Room := { frames := 1, cells := 0, slots := 0, locals := 25 }
set_option maxRecDepth 100000 in
theorem w_X12_table_41 {p : Program} {l : Launch} {e : Env} {s : State} {m : MethodId} {args : Array Value} {below : List Frame} {meth : Method} {c : Code} {A : Nat → Prop} {D : va_G} {ad : Nat → Nat} {cI cZ : ClassId} {N : Nat} {Q : Int32 → UU → Prop} (C : Cx p m c cX12_table 4 s args RX12 meth (some .int) A D [(cI, .int), (cZ, .boolean)] EM) : ∀ {u : UU}, m_X12_table_41 N  u Q → WW p l e rm_X12_table s m args below meth c 0 0 (MQ below (QI D A (wM ad cI cZ) Q) args s 0 0 A) A D 4 41 [(0, .ref (ad 0))] [] (wM ad cI cZ u) := by
  intro  u h
  unfold m_X12_table_41 at h
  refine ww_aload_n C dX12_table_41 rfl 0 rfl ?_
  refine ww_iconst (v := (-1)) C dX12_table_42 (by decide) ?_
  refine ww_callVi (As := [.int ((-1) : Int32)]) (rest := []) C EM_ok (c_X12_told h) tb_4_195 tb_4_197 tbs_18 tb_1_13 tb_4_198 rfl rfl ⟨rfl, hd_X12_told⟩ ⟨Nat.le_of_ble_eq_true rfl, Nat.le_of_ble_eq_true rfl⟩ rfl MF_0_0 rfl rfl (Nat.le_of_ble_eq_true rfl) dX12_table_43 ⟨Nat.zero_le _, Nat.zero_le _⟩ (fun r_2 u_1 h => ?_)
  exact ww_iret C h dX12_table_46
set_option maxRecDepth 100000 in
theorem w_X12_table {p : Program} {l : Launch} {e : Env} {s : State} {m : MethodId} {args : Array Value} {below : List Frame} {meth : Method} {c : Code} {A : Nat → Prop} {D : va_G} {ad : Nat → Nat} {cI cZ : ClassId} {N : Nat} {Q : Int32 → UU → Prop} (C : Cx p m c cX12_table 4 s args RX12 meth (some .int) A D [(cI, .int), (cZ, .boolean)] EM) : ∀ {x1 : Int32} {x2 : Int32} {x3 : Int32} {u : UU}, m_X12_table N x1 x2 x3 u Q → WW p l e rm_X12_table s m args below meth c 0 0 (MQ below (QI D A (wM ad cI cZ) Q) args s 0 0 A) A D 4 0 [(0, .ref (ad 0)), (1, .int x1), (2, .int x2), (3, .int x3)] [] (wM ad cI cZ u) := by
  intro x1 x2 x3 u h
  unfold m_X12_table at h
  refine ww_aload_n C dX12_table_0 rfl 0 rfl ?_
  refine ww_iconst (v := 0) C dX12_table_1 (by decide) ?_
  refine ww_put C inX12 rfl tyX12 tyX12_ok nmX12 0 (by decide) tb_4_36 rfl rfl rfl MS_0_0 dX12_table_2 ?_
  refine ww_nU (wM ad cI cZ) (fun u_1 eu_1 => ?_)
  have h := h u_1 eu_1
  refine ww_iload_n C dX12_table_5 rfl 1 rfl ?_
  refine ww_i2l C dX12_table_6 ?_
  refine ww_lconst (v := 0) C dX12_table_7 (by decide) ?_
  refine ww_ldc2 C tb_4_204 dX12_table_8 ?_
  refine ww_callSi (As := [.long x1.toInt64, .long (0 : Int64), .long (7 : Int64)]) (rest := []) C EM_ok (c_X12_in h) tb_4_192 tb_4_193 tb_1_13 tb_4_194 rfl rfl hd_X12_in ⟨Nat.le_of_ble_eq_true rfl, Nat.le_of_ble_eq_true rfl⟩ rfl rfl (Nat.le_of_ble_eq_true rfl) dX12_table_11 ⟨Nat.zero_le _, Nat.zero_le _⟩ (fun r_3 u_2 h => ?_)
  refine ww_if_eq (tgt := 41) C dX12_table_14 (by decide) (fun hc => ?_) (fun hc => ?_)
  · have h := ite_t h hc
    refine ww_sub [0] rfl ?_
    exact w_X12_table_41 C h
  · have h := ite_f h hc
    refine ww_iload_n C dX12_table_17 rfl 2 rfl ?_
    refine ww_i2l C dX12_table_18 ?_
    refine ww_lconst (v := 0) C dX12_table_19 (by decide) ?_
    refine ww_ldc2 C tb_4_205 dX12_table_20 ?_
    refine ww_callSi (As := [.long x2.toInt64, .long (0 : Int64), .long (400 : Int64)]) (rest := []) C EM_ok (c_X12_in h) tb_4_192 tb_4_193 tb_1_13 tb_4_194 rfl rfl hd_X12_in ⟨Nat.le_of_ble_eq_true rfl, Nat.le_of_ble_eq_true rfl⟩ rfl rfl (Nat.le_of_ble_eq_true rfl) dX12_table_23 ⟨Nat.zero_le _, Nat.zero_le _⟩ (fun r_5 u_4 h => ?_)
    refine ww_if_eq (tgt := 41) C dX12_table_26 (by decide) (fun hc => ?_) (fun hc => ?_)
    · have h := ite_t h hc
      refine ww_sub [0] rfl ?_
      exact w_X12_table_41 C h
    · have h := ite_f h hc
      refine ww_iload_n C dX12_table_29 rfl 3 rfl ?_
      refine ww_i2l C dX12_table_30 ?_
      refine ww_lconst (v := 0) C dX12_table_31 (by decide) ?_
      refine ww_ldc2 C tb_4_222 dX12_table_32 ?_
      refine ww_callSi (As := [.long x3.toInt64, .long (0 : Int64), .long (100 : Int64)]) (rest := []) C EM_ok (c_X12_in h) tb_4_192 tb_4_193 tb_1_13 tb_4_194 rfl rfl hd_X12_in ⟨Nat.le_of_ble_eq_true rfl, Nat.le_of_ble_eq_true rfl⟩ rfl rfl (Nat.le_of_ble_eq_true rfl) dX12_table_35 ⟨Nat.zero_le _, Nat.zero_le _⟩ (fun r_7 u_6 h => ?_)
      refine ww_if_ne (tgt := 47) C dX12_table_38 (by decide) (fun hc => ?_) (fun hc => ?_)
      · have h := ite_f h hc
        refine ww_aload_n C dX12_table_47 rfl 0 rfl ?_
        refine ww_get C inX12 rfl 10 (by decide) tb_4_46 MF_0_10 dX12_table_48 ?_
        refine ww_iload_n C dX12_table_51 rfl 1 rfl ?_
        refine ww_iload_n C dX12_table_52 rfl 2 rfl ?_
        obtain ⟨hin, h⟩ := h
        refine ww_iast C 0 rfl MU_7 hin dX12_table_53 ?_
        refine ww_nU (wM ad cI cZ) (fun u_8 eu_8 => ?_)
        have h := h u_8 eu_8
        refine ww_aload_n C dX12_table_54 rfl 0 rfl ?_
        refine ww_get C inX12 rfl 11 (by decide) tb_4_47 MF_0_11 dX12_table_55 ?_
        refine ww_iload_n C dX12_table_58 rfl 1 rfl ?_
        refine ww_iload_n C dX12_table_59 rfl 3 rfl ?_
        obtain ⟨hin, h⟩ := h
        refine ww_iast C 0 rfl MU_8 hin dX12_table_60 ?_
        refine ww_nU (wM ad cI cZ) (fun u_9 eu_9 => ?_)
        have h := h u_9 eu_9
        refine ww_aload_n C dX12_table_61 rfl 0 rfl ?_
        refine ww_iconst (v := 0) C dX12_table_62 (by decide) ?_
        refine ww_callVi (As := [.int (0 : Int32)]) (rest := []) C EM_ok (c_X12_told h) tb_4_195 tb_4_197 tbs_18 tb_1_13 tb_4_198 rfl rfl ⟨rfl, hd_X12_told⟩ ⟨Nat.le_of_ble_eq_true rfl, Nat.le_of_ble_eq_true rfl⟩ rfl MF_0_0 rfl rfl (Nat.le_of_ble_eq_true rfl) dX12_table_63 ⟨Nat.zero_le _, Nat.zero_le _⟩ (fun r_11 u_10 h => ?_)
        exact ww_iret C h dX12_table_66
      · have h := ite_t h hc
        refine ww_sub [0] rfl ?_
        exact w_X12_table_41 C h
theorem c_X12_table {l : Launch} {D : va_G} {ad : Nat → Nat} {cI cZ : ClassId} {N : Nat} {x1 : Int32} {x2 : Int32} {x3 : Int32} {u : UU} {Q : Int32 → UU → Prop} (h : m_X12_table N x1 x2 x3 u Q) : MI l D [(cI, .int), (cZ, .boolean)] EM yX12_table (Cond.code yX12_table cX12_table 4 (some .int)) rm_X12_table [.ref (ad 0), .int x1, .int x2, .int x3] (wM ad cI cZ u) (wM ad cI cZ) Q :=
  MI_of (own := RX12) (by decide) rfl (Nat.le_of_ble_eq_true rfl) rfl (fun p e s m args below meth c A C => w_X12_table C h)
theorem hd_X12_table : yX12_table.cls ≠ "java/lang/invoke/MethodHandle" ∧ yX12_table.cls ≠ "java/lang/invoke/VarHandle" ∧ (parseMethodDescriptor yX12_table.desc).map (fun d => d.parameters.length) = some 3 := by decide +kernel
abbrev rm_X12_middle : Room := { frames := 0, cells := 0, slots := 0, locals := 0 }
set_option maxRecDepth 100000 in
theorem w_X12_middle {p : Program} {l : Launch} {e : Env} {s : State} {m : MethodId} {args : Array Value} {below : List Frame} {meth : Method} {c : Code} {A : Nat → Prop} {D : va_G} {ad : Nat → Nat} {cI cZ : ClassId} {N : Nat} {Q : Int32 → UU → Prop} (C : Cx p m c cX12_middle 1 s args RX12 meth (some .int) A D [(cI, .int), (cZ, .boolean)] EM) : ∀ {u : UU}, m_X12_middle N  u Q → WW p l e rm_X12_middle s m args below meth c 0 0 (MQ below (QI D A (wM ad cI cZ) Q) args s 0 0 A) A D 1 0 [(0, .ref (ad 0))] [] (wM ad cI cZ u) := by
  intro  u h
  unfold m_X12_middle at h
  refine ww_aload_n C dX12_middle_0 rfl 0 rfl ?_
  refine ww_get C inX12 rfl 17 (by decide) tb_4_53 MF_0_17 dX12_middle_1 ?_
  refine ww_aload_n C dX12_middle_4 rfl 0 rfl ?_
  refine ww_get C inX12 rfl 18 (by decide) tb_4_54 MF_0_18 dX12_middle_5 ?_
  refine ww_iconst (v := 1) C dX12_middle_8 (by decide) ?_
  refine ww_isub C dX12_middle_9 ?_
  refine ww_iconst (v := 2) C dX12_middle_10 (by decide) ?_
  obtain ⟨hz, h⟩ := h
  refine ww_idiv C dX12_middle_11 hz ?_
  obtain ⟨hin, h⟩ := h
  refine ww_iald C 0 rfl MA_14 hin dX12_middle_12 ?_
  exact ww_iret C h dX12_middle_13
theorem c_X12_middle {l : Launch} {D : va_G} {ad : Nat → Nat} {cI cZ : ClassId} {N : Nat}  {u : UU} {Q : Int32 → UU → Prop} (h : m_X12_middle N  u Q) : MI l D [(cI, .int), (cZ, .boolean)] EM yX12_middle (Cond.code yX12_middle cX12_middle 1 (some .int)) rm_X12_middle [.ref (ad 0)] (wM ad cI cZ u) (wM ad cI cZ) Q :=
  MI_of (own := RX12) (by decide) rfl (Nat.le_of_ble_eq_true rfl) rfl (fun p e s m args below meth c A C => w_X12_middle C h)
theorem hd_X12_middle : yX12_middle.cls ≠ "java/lang/invoke/MethodHandle" ∧ yX12_middle.cls ≠ "java/lang/invoke/VarHandle" ∧ (parseMethodDescriptor yX12_middle.desc).map (fun d => d.parameters.length) = some 0 := by decide +kernel
abbrev rm_X12_add : Room := { frames := 0, cells := 0, slots := 0, locals := 0 }
set_option maxRecDepth 100000 in
theorem w_X12_add_41 {p : Program} {l : Launch} {e : Env} {s : State} {m : MethodId} {args : Array Value} {below : List Frame} {meth : Method} {c : Code} {A : Nat → Prop} {D : va_G} {ad : Nat → Nat} {cI cZ : ClassId} {N : Nat} {Q : UU → Prop} (C : Cx p m c cX12_add 3 s args RX12 meth none A D [(cI, .int), (cZ, .boolean)] EM) : ∀ {x1 : Int32} {x2 : Int32} {u : UU}, m_X12_add_41 N x1 x2 u Q → WW p l e rm_X12_add s m args below meth c 0 0 (MQ below (QV D A (wM ad cI cZ) Q) args s 0 0 A) A D 3 41 [(0, .ref (ad 0)), (1, .int x1), (2, .int x2)] [] (wM ad cI cZ u) := by
  intro x1 x2 u h
  unfold m_X12_add_41 at h
  refine ww_aload_n C dX12_add_41 rfl 0 rfl ?_
  refine ww_get C inX12 rfl 17 (by decide) tb_4_53 MF_0_17 dX12_add_42 ?_
  refine ww_iload_n C dX12_add_45 rfl 2 rfl ?_
  refine ww_iload_n C dX12_add_46 rfl 1 rfl ?_
  obtain ⟨hin, h⟩ := h
  refine ww_iast C 0 rfl MU_14 hin dX12_add_47 ?_
  refine ww_nU (wM ad cI cZ) (fun u_1 eu_1 => ?_)
  have h := h u_1 eu_1
  refine ww_aload_n C dX12_add_48 rfl 0 rfl ?_
  refine ww_dup C dX12_add_49 rfl ?_
  refine ww_get C inX12 rfl 18 (by decide) tb_4_54 MF_0_18 dX12_add_50 ?_
  refine ww_iconst (v := 1) C dX12_add_53 (by decide) ?_
  refine ww_iadd C dX12_add_54 ?_
  refine ww_put C inX12 rfl tyX12 tyX12_ok nmX12 18 (by decide) tb_4_54 rfl rfl rfl MS_0_18 dX12_add_55 ?_
  refine ww_nU (wM ad cI cZ) (fun u_2 eu_2 => ?_)
  have h := h u_2 eu_2
  exact ww_vret C h dX12_add_58
set_option maxRecDepth 100000 in
theorem w_X12_add_5 {p : Program} {l : Launch} {e : Env} {s : State} {m : MethodId} {args : Array Value} {below : List Frame} {meth : Method} {c : Code} {A : Nat → Prop} {D : va_G} {ad : Nat → Nat} {cI cZ : ClassId} {N : Nat} {Q : UU → Prop} (C : Cx p m c cX12_add 3 s args RX12 meth none A D [(cI, .int), (cZ, .boolean)] EM) : ∀ (n : Nat) (x1 : Int32) (x2 : Int32) (u : UU), m_X12_add_5 N Q n x1 x2 u → WW p l e rm_X12_add s m args below meth c 0 0 (MQ below (QV D A (wM ad cI cZ) Q) args s 0 0 A) A D 3 5 [(0, .ref (ad 0)), (1, .int x1), (2, .int x2)] [] (wM ad cI cZ u) := by
  intro n
  induction n with
  | zero => intro x1 x2 u h; rw [m_X12_add_5] at h; exact h.elim
  | succ n ih =>
    intro x1 x2 u h
    rw [m_X12_add_5] at h
    refine ww_iload_n C dX12_add_5 rfl 2 rfl ?_
    refine ww_if_le (tgt := 41) C dX12_add_6 (by decide) (fun hc => ?_) (fun hc => ?_)
    · have h := ite_t h hc
      exact w_X12_add_41 C h
    · have h := ite_f h hc
      refine ww_aload_n C dX12_add_9 rfl 0 rfl ?_
      refine ww_get C inX12 rfl 17 (by decide) tb_4_53 MF_0_17 dX12_add_10 ?_
      refine ww_iload_n C dX12_add_13 rfl 2 rfl ?_
      refine ww_iconst (v := 1) C dX12_add_14 (by decide) ?_
      refine ww_isub C dX12_add_15 ?_
      obtain ⟨hin, h⟩ := h
      refine ww_iald C 0 rfl MA_14 hin dX12_add_16 ?_
      refine ww_iload_n C dX12_add_17 rfl 1 rfl ?_
      refine ww_icmp_le (tgt := 41) C dX12_add_18 (by decide) (fun hc => ?_) (fun hc => ?_)
      · have h := ite_t h hc
        exact w_X12_add_41 C h
      · have h := ite_f h hc
        refine ww_aload_n C dX12_add_21 rfl 0 rfl ?_
        refine ww_get C inX12 rfl 17 (by decide) tb_4_53 MF_0_17 dX12_add_22 ?_
        refine ww_iload_n C dX12_add_25 rfl 2 rfl ?_
        refine ww_aload_n C dX12_add_26 rfl 0 rfl ?_
        refine ww_get C inX12 rfl 17 (by decide) tb_4_53 MF_0_17 dX12_add_27 ?_
        refine ww_iload_n C dX12_add_30 rfl 2 rfl ?_
        refine ww_iconst (v := 1) C dX12_add_31 (by decide) ?_
        refine ww_isub C dX12_add_32 ?_
        obtain ⟨hin, h⟩ := h
        refine ww_iald C 0 rfl MA_14 hin dX12_add_33 ?_
        obtain ⟨hin, h⟩ := h
        refine ww_iast C 0 rfl MU_14 hin dX12_add_34 ?_
        refine ww_nU (wM ad cI cZ) (fun u_1 eu_1 => ?_)
        have h := h u_1 eu_1
        obtain ⟨z_2, ez_2⟩ : ∃ z_2 : Int32, z_2 = x2 + ((-1) : Int32) := ⟨_, rfl⟩
        have h := h z_2 ez_2
        refine ww_iinc (i := 2) (j := 2) (v := z_2) (lv' := [(2, .int z_2), (0, .ref (ad 0)), (1, .int x1)]) C dX12_add_35 rfl (by rw [ez_2]; rfl) (by decide) rfl ?_
        refine ww_goto (tgt := 5) C dX12_add_38 (by decide) ?_
        refine ww_sub [1, 2, 0] rfl ?_
        exact ih _ _ _ h
set_option maxRecDepth 100000 in
theorem w_X12_add {p : Program} {l : Launch} {e : Env} {s : State} {m : MethodId} {args : Array Value} {below : List Frame} {meth : Method} {c : Code} {A : Nat → Prop} {D : va_G} {ad : Nat → Nat} {cI cZ : ClassId} {N : Nat} {Q : UU → Prop} (C : Cx p m c cX12_add 3 s args RX12 meth none A D [(cI, .int), (cZ, .boolean)] EM) : ∀ {x1 : Int32} {u : UU}, m_X12_add N x1 u Q → WW p l e rm_X12_add s m args below meth c 0 0 (MQ below (QV D A (wM ad cI cZ) Q) args s 0 0 A) A D 3 0 [(0, .ref (ad 0)), (1, .int x1)] [] (wM ad cI cZ u) := by
  intro x1 u h
  unfold m_X12_add at h
  refine ww_aload_n C dX12_add_0 rfl 0 rfl ?_
  refine ww_get C inX12 rfl 18 (by decide) tb_4_54 MF_0_18 dX12_add_1 ?_
  refine ww_nI (fun z_1 ez_1 => ?_)
  have h := h z_1 ez_1
  refine ww_istore_n (i := 2) (lv' := [(2, .int z_1), (0, .ref (ad 0)), (1, .int x1)]) C dX12_add_4 rfl (by decide) rfl ?_
  refine ww_sub [1, 2, 0] rfl ?_
  exact w_X12_add_5 C N _ _ _ h
theorem c_X12_add {l : Launch} {D : va_G} {ad : Nat → Nat} {cI cZ : ClassId} {N : Nat} {x1 : Int32} {u : UU} {Q : UU → Prop} (h : m_X12_add N x1 u Q) : MV l D [(cI, .int), (cZ, .boolean)] EM yX12_add (Cond.code yX12_add cX12_add 3 none) rm_X12_add [.ref (ad 0), .int x1] (wM ad cI cZ u) (wM ad cI cZ) Q 0 0 :=
  MV_of (own := RX12) (by decide) rfl (Nat.le_of_ble_eq_true rfl) rfl (fun p e s m args below meth c A C => w_X12_add C h)
theorem hd_X12_add : yX12_add.cls ≠ "java/lang/invoke/MethodHandle" ∧ yX12_add.cls ≠ "java/lang/invoke/VarHandle" ∧ (parseMethodDescriptor yX12_add.desc).map (fun d => d.parameters.length) = some 1 := by decide +kernel
abbrev rm_X12_sizeOf : Room := { frames := 0, cells := 0, slots := 0, locals := 0 }
set_option maxRecDepth 100000 in
theorem w_X12_sizeOf_44 {p : Program} {l : Launch} {e : Env} {s : State} {m : MethodId} {args : Array Value} {below : List Frame} {meth : Method} {c : Code} {A : Nat → Prop} {D : va_G} {ad : Nat → Nat} {cI cZ : ClassId} {N : Nat} {Q : Int32 → UU → Prop} {k4 : Int32 → Int32 → Int32 → UU → Prop} (C : Cx p m c cX12_sizeOf 4 s args RX12 meth (some .int) A D [(cI, .int), (cZ, .boolean)] EM) (hk4 : ∀ (x1 : Int32) (x2 : Int32) (x3 : Int32) (u : UU), k4 x1 x2 x3 u → WW p l e rm_X12_sizeOf s m args below meth c 0 0 (MQ below (QI D A (wM ad cI cZ) Q) args s 0 0 A) A D 4 4 [(0, .ref (ad 0)), (1, .int x1), (2, .int x2), (3, .int x3)] [] (wM ad cI cZ u)) : ∀ {x1 : Int32} {x3 : Int32} {y0 : Int32} {u : UU}, m_X12_sizeOf_44 N k4 x1 x3 y0 u Q → WW p l e rm_X12_sizeOf s m args below meth c 0 0 (MQ below (QI D A (wM ad cI cZ) Q) args s 0 0 A) A D 4 44 [(0, .ref (ad 0)), (1, .int x1), (3, .int x3)] [.int y0] (wM ad cI cZ u) := by
  intro x1 x3 y0 u h
  unfold m_X12_sizeOf_44 at h
  refine ww_istore_n (i := 2) (lv' := [(2, .int y0), (0, .ref (ad 0)), (1, .int x1), (3, .int x3)]) C dX12_sizeOf_44 rfl (by decide) rfl ?_
  obtain ⟨z_1, ez_1⟩ : ∃ z_1 : Int32, z_1 = x3 + (1 : Int32) := ⟨_, rfl⟩
  have h := h z_1 ez_1
  refine ww_iinc (i := 3) (j := 3) (v := z_1) (lv' := [(3, .int z_1), (2, .int y0), (0, .ref (ad 0)), (1, .int x1)]) C dX12_sizeOf_45 rfl (by rw [ez_1]; rfl) (by decide) rfl ?_
  refine ww_goto (tgt := 4) C dX12_sizeOf_48 (by decide) ?_
  refine ww_sub [2, 3, 1, 0] rfl ?_
  exact hk4 _ _ _ _ h
set_option maxRecDepth 100000 in
theorem w_X12_sizeOf_39 {p : Program} {l : Launch} {e : Env} {s : State} {m : MethodId} {args : Array Value} {below : List Frame} {meth : Method} {c : Code} {A : Nat → Prop} {D : va_G} {ad : Nat → Nat} {cI cZ : ClassId} {N : Nat} {Q : Int32 → UU → Prop} {k4 : Int32 → Int32 → Int32 → UU → Prop} (C : Cx p m c cX12_sizeOf 4 s args RX12 meth (some .int) A D [(cI, .int), (cZ, .boolean)] EM) (hk4 : ∀ (x1 : Int32) (x2 : Int32) (x3 : Int32) (u : UU), k4 x1 x2 x3 u → WW p l e rm_X12_sizeOf s m args below meth c 0 0 (MQ below (QI D A (wM ad cI cZ) Q) args s 0 0 A) A D 4 4 [(0, .ref (ad 0)), (1, .int x1), (2, .int x2), (3, .int x3)] [] (wM ad cI cZ u)) : ∀ {x1 : Int32} {x3 : Int32} {u : UU}, m_X12_sizeOf_39 N k4 x1 x3 u Q → WW p l e rm_X12_sizeOf s m args below meth c 0 0 (MQ below (QI D A (wM ad cI cZ) Q) args s 0 0 A) A D 4 39 [(0, .ref (ad 0)), (1, .int x1), (3, .int x3)] [] (wM ad cI cZ u) := by
  intro x1 x3 u h
  unfold m_X12_sizeOf_39 at h
  refine ww_iload_n C dX12_sizeOf_39 rfl 2 rfl ?_
  refine ww_goto (tgt := 44) C dX12_sizeOf_40 (by decide) ?_
  exact w_X12_sizeOf_44 C hk4 h
set_option maxRecDepth 100000 in
theorem w_X12_sizeOf_43 {p : Program} {l : Launch} {e : Env} {s : State} {m : MethodId} {args : Array Value} {below : List Frame} {meth : Method} {c : Code} {A : Nat → Prop} {D : va_G} {ad : Nat → Nat} {cI cZ : ClassId} {N : Nat} {Q : Int32 → UU → Prop} {k4 : Int32 → Int32 → Int32 → UU → Prop} (C : Cx p m c cX12_sizeOf 4 s args RX12 meth (some .int) A D [(cI, .int), (cZ, .boolean)] EM) (hk4 : ∀ (x1 : Int32) (x2 : Int32) (x3 : Int32) (u : UU), k4 x1 x2 x3 u → WW p l e rm_X12_sizeOf s m args below meth c 0 0 (MQ below (QI D A (wM ad cI cZ) Q) args s 0 0 A) A D 4 4 [(0, .ref (ad 0)), (1, .int x1), (2, .int x2), (3, .int x3)] [] (wM ad cI cZ u)) : ∀ {x1 : Int32} {x2 : Int32} {x3 : Int32} {u : UU}, m_X12_sizeOf_43 N k4 x1 x2 x3 u Q → WW p l e rm_X12_sizeOf s m args below meth c 0 0 (MQ below (QI D A (wM ad cI cZ) Q) args s 0 0 A) A D 4 43 [(0, .ref (ad 0)), (1, .int x1), (2, .int x2), (3, .int x3)] [] (wM ad cI cZ u) := by
  intro x1 x2 x3 u h
  unfold m_X12_sizeOf_43 at h
  refine ww_iload_n C dX12_sizeOf_43 rfl 2 rfl ?_
  refine ww_sub [0, 1, 3] rfl ?_
  exact w_X12_sizeOf_44 C hk4 h
set_option maxRecDepth 100000 in
theorem w_X12_sizeOf_4 {p : Program} {l : Launch} {e : Env} {s : State} {m : MethodId} {args : Array Value} {below : List Frame} {meth : Method} {c : Code} {A : Nat → Prop} {D : va_G} {ad : Nat → Nat} {cI cZ : ClassId} {N : Nat} {Q : Int32 → UU → Prop} (C : Cx p m c cX12_sizeOf 4 s args RX12 meth (some .int) A D [(cI, .int), (cZ, .boolean)] EM) : ∀ (n : Nat) (x1 : Int32) (x2 : Int32) (x3 : Int32) (u : UU), m_X12_sizeOf_4 N Q n x1 x2 x3 u → WW p l e rm_X12_sizeOf s m args below meth c 0 0 (MQ below (QI D A (wM ad cI cZ) Q) args s 0 0 A) A D 4 4 [(0, .ref (ad 0)), (1, .int x1), (2, .int x2), (3, .int x3)] [] (wM ad cI cZ u) := by
  intro n
  induction n with
  | zero => intro x1 x2 x3 u h; rw [m_X12_sizeOf_4] at h; exact h.elim
  | succ n ih =>
    intro x1 x2 x3 u h
    rw [m_X12_sizeOf_4] at h
    refine ww_iload_n C dX12_sizeOf_4 rfl 3 rfl ?_
    refine ww_bipush (v := 8) C dX12_sizeOf_5 (by decide) ?_
    refine ww_icmp_ge (tgt := 51) C dX12_sizeOf_7 (by decide) (fun hc => ?_) (fun hc => ?_)
    · have h := ite_t h hc
      refine ww_iload_n C dX12_sizeOf_51 rfl 2 rfl ?_
      refine ww_if_ge (tgt := 59) C dX12_sizeOf_52 (by decide) (fun hc => ?_) (fun hc => ?_)
      · have h := ite_t h hc
        refine ww_aload_n C dX12_sizeOf_59 rfl 0 rfl ?_
        refine ww_get C inX12 rfl 11 (by decide) tb_4_47 MF_0_11 dX12_sizeOf_60 ?_
        refine ww_iload_n C dX12_sizeOf_63 rfl 2 rfl ?_
        obtain ⟨hin, h⟩ := h
        refine ww_iald C 0 rfl MA_8 hin dX12_sizeOf_64 ?_
        exact ww_iret C h dX12_sizeOf_65
      · have h := ite_f h hc
        refine ww_iconst (v := 0) C dX12_sizeOf_55 (by decide) ?_
        refine ww_goto (tgt := 65) C dX12_sizeOf_56 (by decide) ?_
        exact ww_iret C h dX12_sizeOf_65
    · have h := ite_f h hc
      refine ww_aload_n C dX12_sizeOf_10 rfl 0 rfl ?_
      refine ww_get C inX12 rfl 10 (by decide) tb_4_46 MF_0_10 dX12_sizeOf_11 ?_
      refine ww_iload_n C dX12_sizeOf_14 rfl 3 rfl ?_
      obtain ⟨hin, h⟩ := h
      refine ww_iald C 0 rfl MA_7 hin dX12_sizeOf_15 ?_
      refine ww_iload_n C dX12_sizeOf_16 rfl 1 rfl ?_
      refine ww_icmp_gt (tgt := 43) C dX12_sizeOf_17 (by decide) (fun hc => ?_) (fun hc => ?_)
      · have h := ite_t h hc
        exact w_X12_sizeOf_43 C ih h
      · have h := ite_f h hc
        refine ww_iload_n C dX12_sizeOf_20 rfl 2 rfl ?_
        refine ww_if_lt (tgt := 39) C dX12_sizeOf_21 (by decide) (fun hc => ?_) (fun hc => ?_)
        · have h := ite_t h hc
          refine ww_sub [0, 1, 3] rfl ?_
          exact w_X12_sizeOf_39 C ih h
        · have h := ite_f h hc
          refine ww_aload_n C dX12_sizeOf_24 rfl 0 rfl ?_
          refine ww_get C inX12 rfl 10 (by decide) tb_4_46 MF_0_10 dX12_sizeOf_25 ?_
          refine ww_iload_n C dX12_sizeOf_28 rfl 3 rfl ?_
          obtain ⟨hin, h⟩ := h
          refine ww_iald C 0 rfl MA_7 hin dX12_sizeOf_29 ?_
          refine ww_aload_n C dX12_sizeOf_30 rfl 0 rfl ?_
          refine ww_get C inX12 rfl 10 (by decide) tb_4_46 MF_0_10 dX12_sizeOf_31 ?_
          refine ww_iload_n C dX12_sizeOf_34 rfl 2 rfl ?_
          obtain ⟨hin, h⟩ := h
          refine ww_iald C 0 rfl MA_7 hin dX12_sizeOf_35 ?_
          refine ww_icmp_lt (tgt := 43) C dX12_sizeOf_36 (by decide) (fun hc => ?_) (fun hc => ?_)
          · have h := ite_t h hc
            exact w_X12_sizeOf_43 C ih h
          · have h := ite_f h hc
            refine ww_sub [0, 1, 3] rfl ?_
            exact w_X12_sizeOf_39 C ih h
set_option maxRecDepth 100000 in
theorem w_X12_sizeOf {p : Program} {l : Launch} {e : Env} {s : State} {m : MethodId} {args : Array Value} {below : List Frame} {meth : Method} {c : Code} {A : Nat → Prop} {D : va_G} {ad : Nat → Nat} {cI cZ : ClassId} {N : Nat} {Q : Int32 → UU → Prop} (C : Cx p m c cX12_sizeOf 4 s args RX12 meth (some .int) A D [(cI, .int), (cZ, .boolean)] EM) : ∀ {x1 : Int32} {u : UU}, m_X12_sizeOf N x1 u Q → WW p l e rm_X12_sizeOf s m args below meth c 0 0 (MQ below (QI D A (wM ad cI cZ) Q) args s 0 0 A) A D 4 0 [(0, .ref (ad 0)), (1, .int x1)] [] (wM ad cI cZ u) := by
  intro x1 u h
  unfold m_X12_sizeOf at h
  refine ww_iconst (v := (-1)) C dX12_sizeOf_0 (by decide) ?_
  refine ww_istore_n (i := 2) (lv' := [(2, .int ((-1) : Int32)), (0, .ref (ad 0)), (1, .int x1)]) C dX12_sizeOf_1 rfl (by decide) rfl ?_
  refine ww_iconst (v := 0) C dX12_sizeOf_2 (by decide) ?_
  refine ww_istore_n (i := 3) (lv' := [(3, .int (0 : Int32)), (2, .int ((-1) : Int32)), (0, .ref (ad 0)), (1, .int x1)]) C dX12_sizeOf_3 rfl (by decide) rfl ?_
  refine ww_sub [2, 3, 1, 0] rfl ?_
  exact w_X12_sizeOf_4 C N _ _ _ _ h
theorem c_X12_sizeOf {l : Launch} {D : va_G} {ad : Nat → Nat} {cI cZ : ClassId} {N : Nat} {x1 : Int32} {u : UU} {Q : Int32 → UU → Prop} (h : m_X12_sizeOf N x1 u Q) : MI l D [(cI, .int), (cZ, .boolean)] EM yX12_sizeOf (Cond.code yX12_sizeOf cX12_sizeOf 4 (some .int)) rm_X12_sizeOf [.ref (ad 0), .int x1] (wM ad cI cZ u) (wM ad cI cZ) Q :=
  MI_of (own := RX12) (by decide) rfl (Nat.le_of_ble_eq_true rfl) rfl (fun p e s m args below meth c A C => w_X12_sizeOf C h)
theorem hd_X12_sizeOf : yX12_sizeOf.cls ≠ "java/lang/invoke/MethodHandle" ∧ yX12_sizeOf.cls ≠ "java/lang/invoke/VarHandle" ∧ (parseMethodDescriptor yX12_sizeOf.desc).map (fun d => d.parameters.length) = some 1 := by decide +kernel
abbrev rm_X12_find : Room := { frames := 1, cells := 0, slots := 0, locals := 23 }
set_option maxRecDepth 100000 in
theorem w_X12_find_59 {p : Program} {l : Launch} {e : Env} {s : State} {m : MethodId} {args : Array Value} {below : List Frame} {meth : Method} {c : Code} {A : Nat → Prop} {D : va_G} {ad : Nat → Nat} {cI cZ : ClassId} {N : Nat} {Q : UU → Prop} {k24 : Int32 → Int32 → UU → Prop} (C : Cx p m c cX12_find 6 s args RX12 meth none A D [(cI, .int), (cZ, .boolean)] EM) (hk24 : ∀ (x1 : Int32) (x2 : Int32) (u : UU), k24 x1 x2 u → WW p l e rm_X12_find s m args below meth c 0 0 (MQ below (QV D A (wM ad cI cZ) Q) args s 0 0 A) A D 6 24 [(0, .ref (ad 0)), (1, .int x1), (2, .int x2)] [] (wM ad cI cZ u)) : ∀ {x1 : Int32} {x2 : Int32} {u : UU}, m_X12_find_59 N k24 x1 x2 u Q → WW p l e rm_X12_find s m args below meth c 0 0 (MQ below (QV D A (wM ad cI cZ) Q) args s 0 0 A) A D 6 59 [(0, .ref (ad 0)), (1, .int x1), (2, .int x2)] [] (wM ad cI cZ u) := by
  intro x1 x2 u h
  unfold m_X12_find_59 at h
  obtain ⟨z_1, ez_1⟩ : ∃ z_1 : Int32, z_1 = x2 + (1 : Int32) := ⟨_, rfl⟩
  have h := h z_1 ez_1
  refine ww_iinc (i := 2) (j := 2) (v := z_1) (lv' := [(2, .int z_1), (0, .ref (ad 0)), (1, .int x1)]) C dX12_find_59 rfl (by rw [ez_1]; rfl) (by decide) rfl ?_
  refine ww_goto (tgt := 24) C dX12_find_62 (by decide) ?_
  refine ww_sub [1, 2, 0] rfl ?_
  exact hk24 _ _ _ h
set_option maxRecDepth 100000 in
theorem w_X12_find_116 {p : Program} {l : Launch} {e : Env} {s : State} {m : MethodId} {args : Array Value} {below : List Frame} {meth : Method} {c : Code} {A : Nat → Prop} {D : va_G} {ad : Nat → Nat} {cI cZ : ClassId} {N : Nat} {Q : UU → Prop} {k67 : Int32 → Int32 → UU → Prop} {k81 : Int32 → Int32 → Int32 → UU → Prop} (C : Cx p m c cX12_find 6 s args RX12 meth none A D [(cI, .int), (cZ, .boolean)] EM) (hk67 : ∀ (x1 : Int32) (x2 : Int32) (u : UU), k67 x1 x2 u → WW p l e rm_X12_find s m args below meth c 0 0 (MQ below (QV D A (wM ad cI cZ) Q) args s 0 0 A) A D 6 67 [(0, .ref (ad 0)), (1, .int x1), (2, .int x2)] [] (wM ad cI cZ u)) (hk81 : ∀ (x1 : Int32) (x2 : Int32) (x3 : Int32) (u : UU), k81 x1 x2 x3 u → WW p l e rm_X12_find s m args below meth c 0 0 (MQ below (QV D A (wM ad cI cZ) Q) args s 0 0 A) A D 6 81 [(0, .ref (ad 0)), (1, .int x1), (2, .int x2), (3, .int x3)] [] (wM ad cI cZ u)) : ∀ {x1 : Int32} {x2 : Int32} {x3 : Int32} {u : UU}, m_X12_find_116 N k67 k81 x1 x2 x3 u Q → WW p l e rm_X12_find s m args below meth c 0 0 (MQ below (QV D A (wM ad cI cZ) Q) args s 0 0 A) A D 6 116 [(0, .ref (ad 0)), (1, .int x1), (2, .int x2), (3, .int x3)] [] (wM ad cI cZ u) := by
  intro x1 x2 x3 u h
  unfold m_X12_find_116 at h
  obtain ⟨z_1, ez_1⟩ : ∃ z_1 : Int32, z_1 = x3 + (1 : Int32) := ⟨_, rfl⟩
  have h := h z_1 ez_1
  refine ww_iinc (i := 3) (j := 3) (v := z_1) (lv' := [(3, .int z_1), (0, .ref (ad 0)), (1, .int x1), (2, .int x2)]) C dX12_find_116 rfl (by rw [ez_1]; rfl) (by decide) rfl ?_
  refine ww_goto (tgt := 81) C dX12_find_119 (by decide) ?_
  refine ww_sub [1, 2, 3, 0] rfl ?_
  exact hk81 _ _ _ _ h
set_option maxRecDepth 100000 in
theorem w_X12_find_152 {p : Program} {l : Launch} {e : Env} {s : State} {m : MethodId} {args : Array Value} {below : List Frame} {meth : Method} {c : Code} {A : Nat → Prop} {D : va_G} {ad : Nat → Nat} {cI cZ : ClassId} {N : Nat} {Q : UU → Prop} {k67 : Int32 → Int32 → UU → Prop} (C : Cx p m c cX12_find 6 s args RX12 meth none A D [(cI, .int), (cZ, .boolean)] EM) (hk67 : ∀ (x1 : Int32) (x2 : Int32) (u : UU), k67 x1 x2 u → WW p l e rm_X12_find s m args below meth c 0 0 (MQ below (QV D A (wM ad cI cZ) Q) args s 0 0 A) A D 6 67 [(0, .ref (ad 0)), (1, .int x1), (2, .int x2)] [] (wM ad cI cZ u)) : ∀ {x1 : Int32} {x2 : Int32} {y1 : Int32} {y2 : Int32} {u : UU}, m_X12_find_152 N k67 x1 x2 y1 y2 u Q → WW p l e rm_X12_find s m args below meth c 0 0 (MQ below (QV D A (wM ad cI cZ) Q) args s 0 0 A) A D 6 152 [(0, .ref (ad 0)), (1, .int x1), (2, .int x2)] [.int y2, .int y1, .ref (ad 10)] (wM ad cI cZ u) := by
  intro x1 x2 y1 y2 u h
  unfold m_X12_find_152 at h
  obtain ⟨hin, h⟩ := h
  refine ww_iast C 0 rfl MU_10 hin dX12_find_152 ?_
  refine ww_nU (wM ad cI cZ) (fun u_1 eu_1 => ?_)
  have h := h u_1 eu_1
  obtain ⟨z_2, ez_2⟩ : ∃ z_2 : Int32, z_2 = x2 + (1 : Int32) := ⟨_, rfl⟩
  have h := h z_2 ez_2
  refine ww_iinc (i := 2) (j := 2) (v := z_2) (lv' := [(2, .int z_2), (0, .ref (ad 0)), (1, .int x1)]) C dX12_find_153 rfl (by rw [ez_2]; rfl) (by decide) rfl ?_
  refine ww_goto (tgt := 67) C dX12_find_156 (by decide) ?_
  refine ww_sub [1, 2, 0] rfl ?_
  exact hk67 _ _ _ h
set_option maxRecDepth 100000 in
theorem w_X12_find_81 {p : Program} {l : Launch} {e : Env} {s : State} {m : MethodId} {args : Array Value} {below : List Frame} {meth : Method} {c : Code} {A : Nat → Prop} {D : va_G} {ad : Nat → Nat} {cI cZ : ClassId} {N : Nat} {Q : UU → Prop} {k67 : Int32 → Int32 → UU → Prop} (C : Cx p m c cX12_find 6 s args RX12 meth none A D [(cI, .int), (cZ, .boolean)] EM) (hk67 : ∀ (x1 : Int32) (x2 : Int32) (u : UU), k67 x1 x2 u → WW p l e rm_X12_find s m args below meth c 0 0 (MQ below (QV D A (wM ad cI cZ) Q) args s 0 0 A) A D 6 67 [(0, .ref (ad 0)), (1, .int x1), (2, .int x2)] [] (wM ad cI cZ u)) : ∀ (n : Nat) (x1 : Int32) (x2 : Int32) (x3 : Int32) (u : UU), m_X12_find_81 N k67 Q n x1 x2 x3 u → WW p l e rm_X12_find s m args below meth c 0 0 (MQ below (QV D A (wM ad cI cZ) Q) args s 0 0 A) A D 6 81 [(0, .ref (ad 0)), (1, .int x1), (2, .int x2), (3, .int x3)] [] (wM ad cI cZ u) := by
  intro n
  induction n with
  | zero => intro x1 x2 x3 u h; rw [m_X12_find_81] at h; exact h.elim
  | succ n ih =>
    intro x1 x2 x3 u h
    rw [m_X12_find_81] at h
    refine ww_iload_n C dX12_find_81 rfl 3 rfl ?_
    refine ww_bipush (v := 8) C dX12_find_82 (by decide) ?_
    refine ww_icmp_ge (tgt := 122) C dX12_find_84 (by decide) (fun hc => ?_) (fun hc => ?_)
    · have h := ite_t h hc
      refine ww_aload_n C dX12_find_122 rfl 0 rfl ?_
      refine ww_get C inX12 rfl 15 (by decide) tb_4_51 MF_0_15 dX12_find_123 ?_
      refine ww_iload_n C dX12_find_126 rfl 2 rfl ?_
      refine ww_aload_n C dX12_find_127 rfl 0 rfl ?_
      refine ww_get C inX12 rfl 18 (by decide) tb_4_54 MF_0_18 dX12_find_128 ?_
      obtain ⟨hin, h⟩ := h
      refine ww_iast C 0 rfl MU_12 hin dX12_find_131 ?_
      refine ww_nU (wM ad cI cZ) (fun u_1 eu_1 => ?_)
      have h := h u_1 eu_1
      refine ww_aload_n C dX12_find_132 rfl 0 rfl ?_
      refine ww_get C inX12 rfl 13 (by decide) tb_4_49 MF_0_13 dX12_find_133 ?_
      refine ww_iload_n C dX12_find_136 rfl 2 rfl ?_
      refine ww_aload_n C dX12_find_137 rfl 0 rfl ?_
      refine ww_get C inX12 rfl 18 (by decide) tb_4_54 MF_0_18 dX12_find_138 ?_
      refine ww_if_ne (tgt := 148) C dX12_find_141 (by decide) (fun hc => ?_) (fun hc => ?_)
      · have h := ite_f h hc
        refine ww_aload_n C dX12_find_148 rfl 0 rfl ?_
        refine ww_callVi (As := []) (rest := [.int x2, .ref (ad 10)]) C EM_ok (c_X12_middle h) tb_4_235 tb_4_237 tbs_22 tb_1_13 tb_4_238 rfl rfl ⟨rfl, hd_X12_middle⟩ ⟨Nat.le_of_ble_eq_true rfl, Nat.le_of_ble_eq_true rfl⟩ rfl MF_0_0 rfl rfl (Nat.le_of_ble_eq_true rfl) dX12_find_149 ⟨Nat.zero_le _, Nat.zero_le _⟩ (fun r_3 u_2 h => ?_)
        refine ww_sub [0, 1, 2] rfl ?_
        exact w_X12_find_152 C hk67 h
      · have h := ite_t h hc
        refine ww_iconst (v := (-1)) C dX12_find_144 (by decide) ?_
        refine ww_goto (tgt := 152) C dX12_find_145 (by decide) ?_
        refine ww_sub [0, 1, 2] rfl ?_
        exact w_X12_find_152 C hk67 h
    · have h := ite_f h hc
      refine ww_aload_n C dX12_find_87 rfl 0 rfl ?_
      refine ww_get C inX12 rfl 12 (by decide) tb_4_48 MF_0_12 dX12_find_88 ?_
      refine ww_bipush (v := 8) C dX12_find_91 (by decide) ?_
      refine ww_iload_n C dX12_find_93 rfl 2 rfl ?_
      refine ww_imul C dX12_find_94 ?_
      refine ww_iload_n C dX12_find_95 rfl 3 rfl ?_
      refine ww_iadd C dX12_find_96 ?_
      obtain ⟨hin, h⟩ := h
      refine ww_iald C 0 rfl MA_9 hin dX12_find_97 ?_
      refine ww_if_le (tgt := 116) C dX12_find_98 (by decide) (fun hc => ?_) (fun hc => ?_)
      · have h := ite_t h hc
        exact w_X12_find_116 C hk67 ih h
      · have h := ite_f h hc
        refine ww_aload_n C dX12_find_101 rfl 0 rfl ?_
        refine ww_aload_n C dX12_find_102 rfl 0 rfl ?_
        refine ww_get C inX12 rfl 12 (by decide) tb_4_48 MF_0_12 dX12_find_103 ?_
        refine ww_bipush (v := 8) C dX12_find_106 (by decide) ?_
        refine ww_iload_n C dX12_find_108 rfl 2 rfl ?_
        refine ww_imul C dX12_find_109 ?_
        refine ww_iload_n C dX12_find_110 rfl 3 rfl ?_
        refine ww_iadd C dX12_find_111 ?_
        obtain ⟨hin, h⟩ := h
        refine ww_iald C 0 rfl MA_9 hin dX12_find_112 ?_
        refine ww_callVv (As := [.int (u.2.1 8 (((8 : Int32) * x2) + x3).toNatClampNeg)]) (rest := []) C EM_ok (c_X12_add h) tb_4_231 tb_4_233 tbs_21 tb_1_13 tb_4_234 rfl rfl ⟨rfl, hd_X12_add⟩ ⟨Nat.le_of_ble_eq_true rfl, Nat.le_of_ble_eq_true rfl⟩ rfl MF_0_0 rfl rfl (Nat.le_of_ble_eq_true rfl) dX12_find_113 ⟨Nat.zero_le _, Nat.zero_le _⟩ (fun u_4 h => ?_)
        exact w_X12_find_116 C hk67 ih h
set_option maxRecDepth 100000 in
theorem w_X12_find_227 {p : Program} {l : Launch} {e : Env} {s : State} {m : MethodId} {args : Array Value} {below : List Frame} {meth : Method} {c : Code} {A : Nat → Prop} {D : va_G} {ad : Nat → Nat} {cI cZ : ClassId} {N : Nat} {Q : UU → Prop} {k161 : Int32 → Int32 → UU → Prop} {k174 : Int32 → Int32 → Int32 → UU → Prop} (C : Cx p m c cX12_find 6 s args RX12 meth none A D [(cI, .int), (cZ, .boolean)] EM) (hk161 : ∀ (x1 : Int32) (x2 : Int32) (u : UU), k161 x1 x2 u → WW p l e rm_X12_find s m args below meth c 0 0 (MQ below (QV D A (wM ad cI cZ) Q) args s 0 0 A) A D 6 161 [(0, .ref (ad 0)), (1, .int x1), (2, .int x2)] [] (wM ad cI cZ u)) (hk174 : ∀ (x1 : Int32) (x2 : Int32) (x3 : Int32) (u : UU), k174 x1 x2 x3 u → WW p l e rm_X12_find s m args below meth c 0 0 (MQ below (QV D A (wM ad cI cZ) Q) args s 0 0 A) A D 6 174 [(0, .ref (ad 0)), (1, .int x1), (2, .int x2), (3, .int x3)] [] (wM ad cI cZ u)) : ∀ {x1 : Int32} {x2 : Int32} {x3 : Int32} {u : UU}, m_X12_find_227 N k161 k174 x1 x2 x3 u Q → WW p l e rm_X12_find s m args below meth c 0 0 (MQ below (QV D A (wM ad cI cZ) Q) args s 0 0 A) A D 6 227 [(0, .ref (ad 0)), (1, .int x1), (2, .int x2), (3, .int x3)] [] (wM ad cI cZ u) := by
  intro x1 x2 x3 u h
  unfold m_X12_find_227 at h
  obtain ⟨z_1, ez_1⟩ : ∃ z_1 : Int32, z_1 = x3 + (1 : Int32) := ⟨_, rfl⟩
  have h := h z_1 ez_1
  refine ww_iinc (i := 3) (j := 3) (v := z_1) (lv' := [(3, .int z_1), (0, .ref (ad 0)), (1, .int x1), (2, .int x2)]) C dX12_find_227 rfl (by rw [ez_1]; rfl) (by decide) rfl ?_
  refine ww_goto (tgt := 174) C dX12_find_230 (by decide) ?_
  refine ww_sub [1, 2, 3, 0] rfl ?_
  exact hk174 _ _ _ _ h
set_option maxRecDepth 100000 in
theorem w_X12_find_253 {p : Program} {l : Launch} {e : Env} {s : State} {m : MethodId} {args : Array Value} {below : List Frame} {meth : Method} {c : Code} {A : Nat → Prop} {D : va_G} {ad : Nat → Nat} {cI cZ : ClassId} {N : Nat} {Q : UU → Prop} {k161 : Int32 → Int32 → UU → Prop} (C : Cx p m c cX12_find 6 s args RX12 meth none A D [(cI, .int), (cZ, .boolean)] EM) (hk161 : ∀ (x1 : Int32) (x2 : Int32) (u : UU), k161 x1 x2 u → WW p l e rm_X12_find s m args below meth c 0 0 (MQ below (QV D A (wM ad cI cZ) Q) args s 0 0 A) A D 6 161 [(0, .ref (ad 0)), (1, .int x1), (2, .int x2)] [] (wM ad cI cZ u)) : ∀ {x1 : Int32} {x2 : Int32} {y1 : Int32} {y2 : Int32} {u : UU}, m_X12_find_253 N k161 x1 x2 y1 y2 u Q → WW p l e rm_X12_find s m args below meth c 0 0 (MQ below (QV D A (wM ad cI cZ) Q) args s 0 0 A) A D 6 253 [(0, .ref (ad 0)), (1, .int x1), (2, .int x2)] [.int y2, .int y1, .ref (ad 13)] (wM ad cI cZ u) := by
  intro x1 x2 y1 y2 u h
  unfold m_X12_find_253 at h
  obtain ⟨hin, h⟩ := h
  refine ww_iast C 0 rfl MU_13 hin dX12_find_253 ?_
  refine ww_nU (wM ad cI cZ) (fun u_1 eu_1 => ?_)
  have h := h u_1 eu_1
  obtain ⟨z_2, ez_2⟩ : ∃ z_2 : Int32, z_2 = x2 + (1 : Int32) := ⟨_, rfl⟩
  have h := h z_2 ez_2
  refine ww_iinc (i := 2) (j := 2) (v := z_2) (lv' := [(2, .int z_2), (0, .ref (ad 0)), (1, .int x1)]) C dX12_find_254 rfl (by rw [ez_2]; rfl) (by decide) rfl ?_
  refine ww_goto (tgt := 161) C dX12_find_257 (by decide) ?_
  refine ww_sub [1, 2, 0] rfl ?_
  exact hk161 _ _ _ h
set_option maxRecDepth 100000 in
theorem w_X12_find_174 {p : Program} {l : Launch} {e : Env} {s : State} {m : MethodId} {args : Array Value} {below : List Frame} {meth : Method} {c : Code} {A : Nat → Prop} {D : va_G} {ad : Nat → Nat} {cI cZ : ClassId} {N : Nat} {Q : UU → Prop} {k161 : Int32 → Int32 → UU → Prop} (C : Cx p m c cX12_find 6 s args RX12 meth none A D [(cI, .int), (cZ, .boolean)] EM) (hk161 : ∀ (x1 : Int32) (x2 : Int32) (u : UU), k161 x1 x2 u → WW p l e rm_X12_find s m args below meth c 0 0 (MQ below (QV D A (wM ad cI cZ) Q) args s 0 0 A) A D 6 161 [(0, .ref (ad 0)), (1, .int x1), (2, .int x2)] [] (wM ad cI cZ u)) : ∀ (n : Nat) (x1 : Int32) (x2 : Int32) (x3 : Int32) (u : UU), m_X12_find_174 N k161 Q n x1 x2 x3 u → WW p l e rm_X12_find s m args below meth c 0 0 (MQ below (QV D A (wM ad cI cZ) Q) args s 0 0 A) A D 6 174 [(0, .ref (ad 0)), (1, .int x1), (2, .int x2), (3, .int x3)] [] (wM ad cI cZ u) := by
  intro n
  induction n with
  | zero => intro x1 x2 x3 u h; rw [m_X12_find_174] at h; exact h.elim
  | succ n ih =>
    intro x1 x2 x3 u h
    rw [m_X12_find_174] at h
    refine ww_iload_n C dX12_find_174 rfl 3 rfl ?_
    refine ww_sipush (v := 300) C dX12_find_175 (by decide) ?_
    refine ww_icmp_ge (tgt := 233) C dX12_find_178 (by decide) (fun hc => ?_) (fun hc => ?_)
    · have h := ite_t h hc
      refine ww_aload_n C dX12_find_233 rfl 0 rfl ?_
      refine ww_get C inX12 rfl 16 (by decide) tb_4_52 MF_0_16 dX12_find_234 ?_
      refine ww_iload_n C dX12_find_237 rfl 2 rfl ?_
      refine ww_aload_n C dX12_find_238 rfl 0 rfl ?_
      refine ww_get C inX12 rfl 18 (by decide) tb_4_54 MF_0_18 dX12_find_239 ?_
      refine ww_if_ne (tgt := 249) C dX12_find_242 (by decide) (fun hc => ?_) (fun hc => ?_)
      · have h := ite_f h hc
        refine ww_aload_n C dX12_find_249 rfl 0 rfl ?_
        refine ww_callVi (As := []) (rest := [.int x2, .ref (ad 13)]) C EM_ok (c_X12_middle h) tb_4_235 tb_4_237 tbs_22 tb_1_13 tb_4_238 rfl rfl ⟨rfl, hd_X12_middle⟩ ⟨Nat.le_of_ble_eq_true rfl, Nat.le_of_ble_eq_true rfl⟩ rfl MF_0_0 rfl rfl (Nat.le_of_ble_eq_true rfl) dX12_find_250 ⟨Nat.zero_le _, Nat.zero_le _⟩ (fun r_2 u_1 h => ?_)
        refine ww_sub [0, 1, 2] rfl ?_
        exact w_X12_find_253 C hk161 h
      · have h := ite_t h hc
        refine ww_iconst (v := 0) C dX12_find_245 (by decide) ?_
        refine ww_goto (tgt := 253) C dX12_find_246 (by decide) ?_
        refine ww_sub [0, 1, 2] rfl ?_
        exact w_X12_find_253 C hk161 h
    · have h := ite_f h hc
      refine ww_aload_n C dX12_find_181 rfl 0 rfl ?_
      refine ww_get C inX12 rfl 12 (by decide) tb_4_48 MF_0_12 dX12_find_182 ?_
      refine ww_bipush (v := 8) C dX12_find_185 (by decide) ?_
      refine ww_iload_n C dX12_find_187 rfl 3 rfl ?_
      refine ww_imul C dX12_find_188 ?_
      refine ww_iload_n C dX12_find_189 rfl 2 rfl ?_
      refine ww_iadd C dX12_find_190 ?_
      obtain ⟨hin, h⟩ := h
      refine ww_iald C 0 rfl MA_9 hin dX12_find_191 ?_
      refine ww_if_le (tgt := 227) C dX12_find_192 (by decide) (fun hc => ?_) (fun hc => ?_)
      · have h := ite_t h hc
        exact w_X12_find_227 C hk161 ih h
      · have h := ite_f h hc
        refine ww_aload_n C dX12_find_195 rfl 0 rfl ?_
        refine ww_get C inX12 rfl 15 (by decide) tb_4_51 MF_0_15 dX12_find_196 ?_
        refine ww_iload_n C dX12_find_199 rfl 3 rfl ?_
        obtain ⟨hin, h⟩ := h
        refine ww_iald C 0 rfl MA_12 hin dX12_find_200 ?_
        refine ww_iconst (v := 1) C dX12_find_201 (by decide) ?_
        refine ww_icmp_le (tgt := 227) C dX12_find_202 (by decide) (fun hc => ?_) (fun hc => ?_)
        · have h := ite_t h hc
          exact w_X12_find_227 C hk161 ih h
        · have h := ite_f h hc
          refine ww_aload_n C dX12_find_205 rfl 0 rfl ?_
          refine ww_aload_n C dX12_find_206 rfl 0 rfl ?_
          refine ww_get C inX12 rfl 12 (by decide) tb_4_48 MF_0_12 dX12_find_207 ?_
          refine ww_bipush (v := 8) C dX12_find_210 (by decide) ?_
          refine ww_iload_n C dX12_find_212 rfl 3 rfl ?_
          refine ww_imul C dX12_find_213 ?_
          refine ww_iload_n C dX12_find_214 rfl 2 rfl ?_
          refine ww_iadd C dX12_find_215 ?_
          obtain ⟨hin, h⟩ := h
          refine ww_iald C 0 rfl MA_9 hin dX12_find_216 ?_
          refine ww_aload_n C dX12_find_217 rfl 0 rfl ?_
          refine ww_get C inX12 rfl 13 (by decide) tb_4_49 MF_0_13 dX12_find_218 ?_
          refine ww_iload_n C dX12_find_221 rfl 3 rfl ?_
          obtain ⟨hin, h⟩ := h
          refine ww_iald C 0 rfl MA_10 hin dX12_find_222 ?_
          refine ww_isub C dX12_find_223 ?_
          refine ww_callVv (As := [.int ((u.2.1 8 (((8 : Int32) * x3) + x2).toNatClampNeg) - (u.2.1 9 x3.toNatClampNeg))]) (rest := []) C EM_ok (c_X12_add h) tb_4_231 tb_4_233 tbs_21 tb_1_13 tb_4_234 rfl rfl ⟨rfl, hd_X12_add⟩ ⟨Nat.le_of_ble_eq_true rfl, Nat.le_of_ble_eq_true rfl⟩ rfl MF_0_0 rfl rfl (Nat.le_of_ble_eq_true rfl) dX12_find_224 ⟨Nat.zero_le _, Nat.zero_le _⟩ (fun u_3 h => ?_)
          exact w_X12_find_227 C hk161 ih h
set_option maxRecDepth 100000 in
theorem w_X12_find_332 {p : Program} {l : Launch} {e : Env} {s : State} {m : MethodId} {args : Array Value} {below : List Frame} {meth : Method} {c : Code} {A : Nat → Prop} {D : va_G} {ad : Nat → Nat} {cI cZ : ClassId} {N : Nat} {Q : UU → Prop} {k262 : Int32 → Int32 → UU → Prop} {k276 : Int32 → Int32 → Int32 → UU → Prop} (C : Cx p m c cX12_find 6 s args RX12 meth none A D [(cI, .int), (cZ, .boolean)] EM) (hk262 : ∀ (x1 : Int32) (x2 : Int32) (u : UU), k262 x1 x2 u → WW p l e rm_X12_find s m args below meth c 0 0 (MQ below (QV D A (wM ad cI cZ) Q) args s 0 0 A) A D 6 262 [(0, .ref (ad 0)), (1, .int x1), (2, .int x2)] [] (wM ad cI cZ u)) (hk276 : ∀ (x1 : Int32) (x2 : Int32) (x3 : Int32) (u : UU), k276 x1 x2 x3 u → WW p l e rm_X12_find s m args below meth c 0 0 (MQ below (QV D A (wM ad cI cZ) Q) args s 0 0 A) A D 6 276 [(0, .ref (ad 0)), (1, .int x1), (2, .int x2), (3, .int x3)] [] (wM ad cI cZ u)) : ∀ {x1 : Int32} {x2 : Int32} {x3 : Int32} {u : UU}, m_X12_find_332 N k262 k276 x1 x2 x3 u Q → WW p l e rm_X12_find s m args below meth c 0 0 (MQ below (QV D A (wM ad cI cZ) Q) args s 0 0 A) A D 6 332 [(0, .ref (ad 0)), (1, .int x1), (2, .int x2), (3, .int x3)] [] (wM ad cI cZ u) := by
  intro x1 x2 x3 u h
  unfold m_X12_find_332 at h
  obtain ⟨z_1, ez_1⟩ : ∃ z_1 : Int32, z_1 = x3 + (1 : Int32) := ⟨_, rfl⟩
  have h := h z_1 ez_1
  refine ww_iinc (i := 3) (j := 3) (v := z_1) (lv' := [(3, .int z_1), (0, .ref (ad 0)), (1, .int x1), (2, .int x2)]) C dX12_find_332 rfl (by rw [ez_1]; rfl) (by decide) rfl ?_
  refine ww_goto (tgt := 276) C dX12_find_335 (by decide) ?_
  refine ww_sub [1, 2, 3, 0] rfl ?_
  exact hk276 _ _ _ _ h
set_option maxRecDepth 100000 in
theorem w_X12_find_329 {p : Program} {l : Launch} {e : Env} {s : State} {m : MethodId} {args : Array Value} {below : List Frame} {meth : Method} {c : Code} {A : Nat → Prop} {D : va_G} {ad : Nat → Nat} {cI cZ : ClassId} {N : Nat} {Q : UU → Prop} {k262 : Int32 → Int32 → UU → Prop} {k276 : Int32 → Int32 → Int32 → UU → Prop} (C : Cx p m c cX12_find 6 s args RX12 meth none A D [(cI, .int), (cZ, .boolean)] EM) (hk262 : ∀ (x1 : Int32) (x2 : Int32) (u : UU), k262 x1 x2 u → WW p l e rm_X12_find s m args below meth c 0 0 (MQ below (QV D A (wM ad cI cZ) Q) args s 0 0 A) A D 6 262 [(0, .ref (ad 0)), (1, .int x1), (2, .int x2)] [] (wM ad cI cZ u)) (hk276 : ∀ (x1 : Int32) (x2 : Int32) (x3 : Int32) (u : UU), k276 x1 x2 x3 u → WW p l e rm_X12_find s m args below meth c 0 0 (MQ below (QV D A (wM ad cI cZ) Q) args s 0 0 A) A D 6 276 [(0, .ref (ad 0)), (1, .int x1), (2, .int x2), (3, .int x3)] [] (wM ad cI cZ u)) : ∀ {x1 : Int32} {x2 : Int32} {x3 : Int32} {y1 : Int32} {u : UU}, m_X12_find_329 N k262 k276 x1 x2 x3 y1 u Q → WW p l e rm_X12_find s m args below meth c 0 0 (MQ below (QV D A (wM ad cI cZ) Q) args s 0 0 A) A D 6 329 [(0, .ref (ad 0)), (1, .int x1), (2, .int x2), (3, .int x3)] [.int y1, .ref (ad 0)] (wM ad cI cZ u) := by
  intro x1 x2 x3 y1 u h
  unfold m_X12_find_329 at h
  refine ww_callVv (As := [.int y1]) (rest := []) C EM_ok (c_X12_add h) tb_4_231 tb_4_233 tbs_21 tb_1_13 tb_4_234 rfl rfl ⟨rfl, hd_X12_add⟩ ⟨Nat.le_of_ble_eq_true rfl, Nat.le_of_ble_eq_true rfl⟩ rfl MF_0_0 rfl rfl (Nat.le_of_ble_eq_true rfl) dX12_find_329 ⟨Nat.zero_le _, Nat.zero_le _⟩ (fun u_1 h => ?_)
  exact w_X12_find_332 C hk262 hk276 h
set_option maxRecDepth 100000 in
theorem w_X12_find_358 {p : Program} {l : Launch} {e : Env} {s : State} {m : MethodId} {args : Array Value} {below : List Frame} {meth : Method} {c : Code} {A : Nat → Prop} {D : va_G} {ad : Nat → Nat} {cI cZ : ClassId} {N : Nat} {Q : UU → Prop} {k262 : Int32 → Int32 → UU → Prop} (C : Cx p m c cX12_find 6 s args RX12 meth none A D [(cI, .int), (cZ, .boolean)] EM) (hk262 : ∀ (x1 : Int32) (x2 : Int32) (u : UU), k262 x1 x2 u → WW p l e rm_X12_find s m args below meth c 0 0 (MQ below (QV D A (wM ad cI cZ) Q) args s 0 0 A) A D 6 262 [(0, .ref (ad 0)), (1, .int x1), (2, .int x2)] [] (wM ad cI cZ u)) : ∀ {x1 : Int32} {x2 : Int32} {y1 : Int32} {y2 : Int32} {u : UU}, m_X12_find_358 N k262 x1 x2 y1 y2 u Q → WW p l e rm_X12_find s m args below meth c 0 0 (MQ below (QV D A (wM ad cI cZ) Q) args s 0 0 A) A D 6 358 [(0, .ref (ad 0)), (1, .int x1), (2, .int x2)] [.int y2, .int y1, .ref (ad 11)] (wM ad cI cZ u) := by
  intro x1 x2 y1 y2 u h
  unfold m_X12_find_358 at h
  obtain ⟨hin, h⟩ := h
  refine ww_iast C 0 rfl MU_11 hin dX12_find_358 ?_
  refine ww_nU (wM ad cI cZ) (fun u_1 eu_1 => ?_)
  have h := h u_1 eu_1
  obtain ⟨z_2, ez_2⟩ : ∃ z_2 : Int32, z_2 = x2 + (1 : Int32) := ⟨_, rfl⟩
  have h := h z_2 ez_2
  refine ww_iinc (i := 2) (j := 2) (v := z_2) (lv' := [(2, .int z_2), (0, .ref (ad 0)), (1, .int x1)]) C dX12_find_359 rfl (by rw [ez_2]; rfl) (by decide) rfl ?_
  refine ww_goto (tgt := 262) C dX12_find_362 (by decide) ?_
  refine ww_sub [1, 2, 0] rfl ?_
  exact hk262 _ _ _ h
set_option maxRecDepth 100000 in
theorem w_X12_find_276 {p : Program} {l : Launch} {e : Env} {s : State} {m : MethodId} {args : Array Value} {below : List Frame} {meth : Method} {c : Code} {A : Nat → Prop} {D : va_G} {ad : Nat → Nat} {cI cZ : ClassId} {N : Nat} {Q : UU → Prop} {k262 : Int32 → Int32 → UU → Prop} (C : Cx p m c cX12_find 6 s args RX12 meth none A D [(cI, .int), (cZ, .boolean)] EM) (hk262 : ∀ (x1 : Int32) (x2 : Int32) (u : UU), k262 x1 x2 u → WW p l e rm_X12_find s m args below meth c 0 0 (MQ below (QV D A (wM ad cI cZ) Q) args s 0 0 A) A D 6 262 [(0, .ref (ad 0)), (1, .int x1), (2, .int x2)] [] (wM ad cI cZ u)) : ∀ (n : Nat) (x1 : Int32) (x2 : Int32) (x3 : Int32) (u : UU), m_X12_find_276 N k262 Q n x1 x2 x3 u → WW p l e rm_X12_find s m args below meth c 0 0 (MQ below (QV D A (wM ad cI cZ) Q) args s 0 0 A) A D 6 276 [(0, .ref (ad 0)), (1, .int x1), (2, .int x2), (3, .int x3)] [] (wM ad cI cZ u) := by
  intro n
  induction n with
  | zero => intro x1 x2 x3 u h; rw [m_X12_find_276] at h; exact h.elim
  | succ n ih =>
    intro x1 x2 x3 u h
    rw [m_X12_find_276] at h
    refine ww_iload_n C dX12_find_276 rfl 3 rfl ?_
    refine ww_bipush (v := 8) C dX12_find_277 (by decide) ?_
    refine ww_icmp_ge (tgt := 338) C dX12_find_279 (by decide) (fun hc => ?_) (fun hc => ?_)
    · have h := ite_t h hc
      refine ww_aload_n C dX12_find_338 rfl 0 rfl ?_
      refine ww_get C inX12 rfl 14 (by decide) tb_4_50 MF_0_14 dX12_find_339 ?_
      refine ww_iload_n C dX12_find_342 rfl 2 rfl ?_
      refine ww_aload_n C dX12_find_343 rfl 0 rfl ?_
      refine ww_get C inX12 rfl 18 (by decide) tb_4_54 MF_0_18 dX12_find_344 ?_
      refine ww_if_ne (tgt := 354) C dX12_find_347 (by decide) (fun hc => ?_) (fun hc => ?_)
      · have h := ite_f h hc
        refine ww_aload_n C dX12_find_354 rfl 0 rfl ?_
        refine ww_callVi (As := []) (rest := [.int x2, .ref (ad 11)]) C EM_ok (c_X12_middle h) tb_4_235 tb_4_237 tbs_22 tb_1_13 tb_4_238 rfl rfl ⟨rfl, hd_X12_middle⟩ ⟨Nat.le_of_ble_eq_true rfl, Nat.le_of_ble_eq_true rfl⟩ rfl MF_0_0 rfl rfl (Nat.le_of_ble_eq_true rfl) dX12_find_355 ⟨Nat.zero_le _, Nat.zero_le _⟩ (fun r_2 u_1 h => ?_)
        refine ww_sub [0, 1, 2] rfl ?_
        exact w_X12_find_358 C hk262 h
      · have h := ite_t h hc
        refine ww_iconst (v := (-1)) C dX12_find_350 (by decide) ?_
        refine ww_goto (tgt := 358) C dX12_find_351 (by decide) ?_
        refine ww_sub [0, 1, 2] rfl ?_
        exact w_X12_find_358 C hk262 h
    · have h := ite_f h hc
      refine ww_aload_n C dX12_find_282 rfl 0 rfl ?_
      refine ww_get C inX12 rfl 12 (by decide) tb_4_48 MF_0_12 dX12_find_283 ?_
      refine ww_bipush (v := 8) C dX12_find_286 (by decide) ?_
      refine ww_iload_n C dX12_find_288 rfl 2 rfl ?_
      refine ww_imul C dX12_find_289 ?_
      refine ww_iload_n C dX12_find_290 rfl 3 rfl ?_
      refine ww_iadd C dX12_find_291 ?_
      obtain ⟨hin, h⟩ := h
      refine ww_iald C 0 rfl MA_9 hin dX12_find_292 ?_
      refine ww_if_le (tgt := 332) C dX12_find_293 (by decide) (fun hc => ?_) (fun hc => ?_)
      · have h := ite_t h hc
        exact w_X12_find_332 C hk262 ih h
      · have h := ite_f h hc
        refine ww_aload_n C dX12_find_296 rfl 0 rfl ?_
        refine ww_get C inX12 rfl 12 (by decide) tb_4_48 MF_0_12 dX12_find_297 ?_
        refine ww_bipush (v := 8) C dX12_find_300 (by decide) ?_
        refine ww_iload_n C dX12_find_302 rfl 2 rfl ?_
        refine ww_imul C dX12_find_303 ?_
        refine ww_iload_n C dX12_find_304 rfl 3 rfl ?_
        refine ww_iadd C dX12_find_305 ?_
        obtain ⟨hin, h⟩ := h
        refine ww_iald C 0 rfl MA_9 hin dX12_find_306 ?_
        refine ww_aload_n C dX12_find_307 rfl 0 rfl ?_
        refine ww_get C inX12 rfl 16 (by decide) tb_4_52 MF_0_16 dX12_find_308 ?_
        refine ww_iload_n C dX12_find_311 rfl 3 rfl ?_
        obtain ⟨hin, h⟩ := h
        refine ww_iald C 0 rfl MA_13 hin dX12_find_312 ?_
        refine ww_isub C dX12_find_313 ?_
        refine ww_nI (fun z_3 ez_3 => ?_)
        have h := h z_3 ez_3
        refine ww_istore (i := 4) (lv' := [(4, .int z_3), (0, .ref (ad 0)), (1, .int x1), (2, .int x2), (3, .int x3)]) C dX12_find_314 (by decide) rfl ?_
        refine ww_aload_n C dX12_find_316 rfl 1 rfl ?_
        refine ww_iload C dX12_find_317 0 rfl ?_
        refine ww_iconst (v := 1) C dX12_find_319 (by decide) ?_
        refine ww_icmp_ge (tgt := 327) C dX12_find_320 (by decide) (fun hc => ?_) (fun hc => ?_)
        · have h := ite_t h hc
          refine ww_iload C dX12_find_327 0 rfl ?_
          refine ww_sub [1, 2, 3, 4] rfl ?_
          exact w_X12_find_329 C hk262 ih h
        · have h := ite_f h hc
          refine ww_iconst (v := 1) C dX12_find_323 (by decide) ?_
          refine ww_goto (tgt := 329) C dX12_find_324 (by decide) ?_
          refine ww_sub [1, 2, 3, 4] rfl ?_
          exact w_X12_find_329 C hk262 ih h
set_option maxRecDepth 100000 in
theorem w_X12_find_466 {p : Program} {l : Launch} {e : Env} {s : State} {m : MethodId} {args : Array Value} {below : List Frame} {meth : Method} {c : Code} {A : Nat → Prop} {D : va_G} {ad : Nat → Nat} {cI cZ : ClassId} {N : Nat} {Q : UU → Prop} {k367 : Int32 → Int32 → UU → Prop} {k391 : Int32 → Int32 → Int32 → UU → Prop} (C : Cx p m c cX12_find 6 s args RX12 meth none A D [(cI, .int), (cZ, .boolean)] EM) (hk367 : ∀ (x1 : Int32) (x2 : Int32) (u : UU), k367 x1 x2 u → WW p l e rm_X12_find s m args below meth c 0 0 (MQ below (QV D A (wM ad cI cZ) Q) args s 0 0 A) A D 6 367 [(0, .ref (ad 0)), (1, .int x1), (2, .int x2)] [] (wM ad cI cZ u)) (hk391 : ∀ (x1 : Int32) (x2 : Int32) (x3 : Int32) (u : UU), k391 x1 x2 x3 u → WW p l e rm_X12_find s m args below meth c 0 0 (MQ below (QV D A (wM ad cI cZ) Q) args s 0 0 A) A D 6 391 [(0, .ref (ad 0)), (1, .int x1), (2, .int x2), (3, .int x3)] [] (wM ad cI cZ u)) : ∀ {x1 : Int32} {x2 : Int32} {x3 : Int32} {u : UU}, m_X12_find_466 N k367 k391 x1 x2 x3 u Q → WW p l e rm_X12_find s m args below meth c 0 0 (MQ below (QV D A (wM ad cI cZ) Q) args s 0 0 A) A D 6 466 [(0, .ref (ad 0)), (1, .int x1), (2, .int x2), (3, .int x3)] [] (wM ad cI cZ u) := by
  intro x1 x2 x3 u h
  unfold m_X12_find_466 at h
  obtain ⟨z_1, ez_1⟩ : ∃ z_1 : Int32, z_1 = x3 + (1 : Int32) := ⟨_, rfl⟩
  have h := h z_1 ez_1
  refine ww_iinc (i := 3) (j := 3) (v := z_1) (lv' := [(3, .int z_1), (0, .ref (ad 0)), (1, .int x1), (2, .int x2)]) C dX12_find_466 rfl (by rw [ez_1]; rfl) (by decide) rfl ?_
  refine ww_goto (tgt := 391) C dX12_find_469 (by decide) ?_
  refine ww_sub [1, 2, 3, 0] rfl ?_
  exact hk391 _ _ _ _ h
set_option maxRecDepth 100000 in
theorem w_X12_find_465 {p : Program} {l : Launch} {e : Env} {s : State} {m : MethodId} {args : Array Value} {below : List Frame} {meth : Method} {c : Code} {A : Nat → Prop} {D : va_G} {ad : Nat → Nat} {cI cZ : ClassId} {N : Nat} {Q : UU → Prop} {k367 : Int32 → Int32 → UU → Prop} {k391 : Int32 → Int32 → Int32 → UU → Prop} (C : Cx p m c cX12_find 6 s args RX12 meth none A D [(cI, .int), (cZ, .boolean)] EM) (hk367 : ∀ (x1 : Int32) (x2 : Int32) (u : UU), k367 x1 x2 u → WW p l e rm_X12_find s m args below meth c 0 0 (MQ below (QV D A (wM ad cI cZ) Q) args s 0 0 A) A D 6 367 [(0, .ref (ad 0)), (1, .int x1), (2, .int x2)] [] (wM ad cI cZ u)) (hk391 : ∀ (x1 : Int32) (x2 : Int32) (x3 : Int32) (u : UU), k391 x1 x2 x3 u → WW p l e rm_X12_find s m args below meth c 0 0 (MQ below (QV D A (wM ad cI cZ) Q) args s 0 0 A) A D 6 391 [(0, .ref (ad 0)), (1, .int x1), (2, .int x2), (3, .int x3)] [] (wM ad cI cZ u)) : ∀ {x1 : Int32} {x2 : Int32} {x3 : Int32} {y1 : Int32} {y2 : Int32} {u : UU}, m_X12_find_465 N k367 k391 x1 x2 x3 y1 y2 u Q → WW p l e rm_X12_find s m args below meth c 0 0 (MQ below (QV D A (wM ad cI cZ) Q) args s 0 0 A) A D 6 465 [(0, .ref (ad 0)), (1, .int x1), (2, .int x2), (3, .int x3)] [.int y2, .int y1, .ref (ad 15)] (wM ad cI cZ u) := by
  intro x1 x2 x3 y1 y2 u h
  unfold m_X12_find_465 at h
  obtain ⟨hin, h⟩ := h
  refine ww_iast C 0 rfl MU_15 hin dX12_find_465 ?_
  refine ww_nU (wM ad cI cZ) (fun u_1 eu_1 => ?_)
  have h := h u_1 eu_1
  exact w_X12_find_466 C hk367 hk391 h
set_option maxRecDepth 100000 in
theorem w_X12_find_511 {p : Program} {l : Launch} {e : Env} {s : State} {m : MethodId} {args : Array Value} {below : List Frame} {meth : Method} {c : Code} {A : Nat → Prop} {D : va_G} {ad : Nat → Nat} {cI cZ : ClassId} {N : Nat} {Q : UU → Prop} {k367 : Int32 → Int32 → UU → Prop} (C : Cx p m c cX12_find 6 s args RX12 meth none A D [(cI, .int), (cZ, .boolean)] EM) (hk367 : ∀ (x1 : Int32) (x2 : Int32) (u : UU), k367 x1 x2 u → WW p l e rm_X12_find s m args below meth c 0 0 (MQ below (QV D A (wM ad cI cZ) Q) args s 0 0 A) A D 6 367 [(0, .ref (ad 0)), (1, .int x1), (2, .int x2)] [] (wM ad cI cZ u)) : ∀ {x1 : Int32} {x2 : Int32} {y1 : Int32} {y2 : Int32} {u : UU}, m_X12_find_511 N k367 x1 x2 y1 y2 u Q → WW p l e rm_X12_find s m args below meth c 0 0 (MQ below (QV D A (wM ad cI cZ) Q) args s 0 0 A) A D 6 511 [(0, .ref (ad 0)), (1, .int x1), (2, .int x2)] [.int y2, .int y1, .ref (ad 17)] (wM ad cI cZ u) := by
  intro x1 x2 y1 y2 u h
  unfold m_X12_find_511 at h
  obtain ⟨hin, h⟩ := h
  refine ww_zast C 1 rfl MU_17 hin dX12_find_511 ?_
  refine ww_nU (wM ad cI cZ) (fun u_1 eu_1 => ?_)
  have h := h u_1 eu_1
  obtain ⟨z_2, ez_2⟩ : ∃ z_2 : Int32, z_2 = x2 + (1 : Int32) := ⟨_, rfl⟩
  have h := h z_2 ez_2
  refine ww_iinc (i := 2) (j := 2) (v := z_2) (lv' := [(2, .int z_2), (0, .ref (ad 0)), (1, .int x1)]) C dX12_find_512 rfl (by rw [ez_2]; rfl) (by decide) rfl ?_
  refine ww_goto (tgt := 367) C dX12_find_515 (by decide) ?_
  refine ww_sub [1, 2, 0] rfl ?_
  exact hk367 _ _ _ h
set_option maxRecDepth 100000 in
theorem w_X12_find_506 {p : Program} {l : Launch} {e : Env} {s : State} {m : MethodId} {args : Array Value} {below : List Frame} {meth : Method} {c : Code} {A : Nat → Prop} {D : va_G} {ad : Nat → Nat} {cI cZ : ClassId} {N : Nat} {Q : UU → Prop} {k367 : Int32 → Int32 → UU → Prop} (C : Cx p m c cX12_find 6 s args RX12 meth none A D [(cI, .int), (cZ, .boolean)] EM) (hk367 : ∀ (x1 : Int32) (x2 : Int32) (u : UU), k367 x1 x2 u → WW p l e rm_X12_find s m args below meth c 0 0 (MQ below (QV D A (wM ad cI cZ) Q) args s 0 0 A) A D 6 367 [(0, .ref (ad 0)), (1, .int x1), (2, .int x2)] [] (wM ad cI cZ u)) : ∀ {x1 : Int32} {x2 : Int32} {y1 : Int32} {u : UU}, m_X12_find_506 N k367 x1 x2 y1 u Q → WW p l e rm_X12_find s m args below meth c 0 0 (MQ below (QV D A (wM ad cI cZ) Q) args s 0 0 A) A D 6 506 [(0, .ref (ad 0)), (1, .int x1), (2, .int x2)] [.int y1, .ref (ad 17)] (wM ad cI cZ u) := by
  intro x1 x2 y1 u h
  unfold m_X12_find_506 at h
  refine ww_iconst (v := 1) C dX12_find_506 (by decide) ?_
  refine ww_goto (tgt := 511) C dX12_find_507 (by decide) ?_
  exact w_X12_find_511 C hk367 h
set_option maxRecDepth 100000 in
theorem w_X12_find_510 {p : Program} {l : Launch} {e : Env} {s : State} {m : MethodId} {args : Array Value} {below : List Frame} {meth : Method} {c : Code} {A : Nat → Prop} {D : va_G} {ad : Nat → Nat} {cI cZ : ClassId} {N : Nat} {Q : UU → Prop} {k367 : Int32 → Int32 → UU → Prop} (C : Cx p m c cX12_find 6 s args RX12 meth none A D [(cI, .int), (cZ, .boolean)] EM) (hk367 : ∀ (x1 : Int32) (x2 : Int32) (u : UU), k367 x1 x2 u → WW p l e rm_X12_find s m args below meth c 0 0 (MQ below (QV D A (wM ad cI cZ) Q) args s 0 0 A) A D 6 367 [(0, .ref (ad 0)), (1, .int x1), (2, .int x2)] [] (wM ad cI cZ u)) : ∀ {x1 : Int32} {x2 : Int32} {y1 : Int32} {u : UU}, m_X12_find_510 N k367 x1 x2 y1 u Q → WW p l e rm_X12_find s m args below meth c 0 0 (MQ below (QV D A (wM ad cI cZ) Q) args s 0 0 A) A D 6 510 [(0, .ref (ad 0)), (1, .int x1), (2, .int x2)] [.int y1, .ref (ad 17)] (wM ad cI cZ u) := by
  intro x1 x2 y1 u h
  unfold m_X12_find_510 at h
  refine ww_iconst (v := 0) C dX12_find_510 (by decide) ?_
  exact w_X12_find_511 C hk367 h
set_option maxRecDepth 100000 in
theorem w_X12_find_391 {p : Program} {l : Launch} {e : Env} {s : State} {m : MethodId} {args : Array Value} {below : List Frame} {meth : Method} {c : Code} {A : Nat → Prop} {D : va_G} {ad : Nat → Nat} {cI cZ : ClassId} {N : Nat} {Q : UU → Prop} {k367 : Int32 → Int32 → UU → Prop} (C : Cx p m c cX12_find 6 s args RX12 meth none A D [(cI, .int), (cZ, .boolean)] EM) (hk367 : ∀ (x1 : Int32) (x2 : Int32) (u : UU), k367 x1 x2 u → WW p l e rm_X12_find s m args below meth c 0 0 (MQ below (QV D A (wM ad cI cZ) Q) args s 0 0 A) A D 6 367 [(0, .ref (ad 0)), (1, .int x1), (2, .int x2)] [] (wM ad cI cZ u)) : ∀ (n : Nat) (x1 : Int32) (x2 : Int32) (x3 : Int32) (u : UU), m_X12_find_391 N k367 Q n x1 x2 x3 u → WW p l e rm_X12_find s m args below meth c 0 0 (MQ below (QV D A (wM ad cI cZ) Q) args s 0 0 A) A D 6 391 [(0, .ref (ad 0)), (1, .int x1), (2, .int x2), (3, .int x3)] [] (wM ad cI cZ u) := by
  intro n
  induction n with
  | zero => intro x1 x2 x3 u h; rw [m_X12_find_391] at h; exact h.elim
  | succ n ih =>
    intro x1 x2 x3 u h
    rw [m_X12_find_391] at h
    refine ww_iload_n C dX12_find_391 rfl 3 rfl ?_
    refine ww_bipush (v := 10) C dX12_find_392 (by decide) ?_
    refine ww_icmp_ge (tgt := 472) C dX12_find_394 (by decide) (fun hc => ?_) (fun hc => ?_)
    · have h := ite_t h hc
      refine ww_aload_n C dX12_find_472 rfl 0 rfl ?_
      refine ww_get C inX12 rfl 21 (by decide) tb_4_57 MF_0_21 dX12_find_473 ?_
      refine ww_iload_n C dX12_find_476 rfl 2 rfl ?_
      refine ww_aload_n C dX12_find_477 rfl 0 rfl ?_
      refine ww_get C inX12 rfl 20 (by decide) tb_4_56 MF_0_20 dX12_find_478 ?_
      refine ww_iload_n C dX12_find_481 rfl 2 rfl ?_
      obtain ⟨hin, h⟩ := h
      refine ww_iald C 0 rfl MA_16 hin dX12_find_482 ?_
      refine ww_if_gt (tgt := 506) C dX12_find_483 (by decide) (fun hc => ?_) (fun hc => ?_)
      · have h := ite_t h hc
        refine ww_sub [0, 1, 2] rfl ?_
        exact w_X12_find_506 C hk367 h
      · have h := ite_f h hc
        refine ww_aload_n C dX12_find_486 rfl 0 rfl ?_
        refine ww_get C inX12 rfl 5 (by decide) tb_4_41 MF_0_5 dX12_find_487 ?_
        refine ww_iload_n C dX12_find_490 rfl 2 rfl ?_
        obtain ⟨hin, h⟩ := h
        refine ww_iald C 0 rfl MA_3 hin dX12_find_491 ?_
        refine ww_iconst (v := (-1)) C dX12_find_492 (by decide) ?_
        refine ww_icmp_eq (tgt := 510) C dX12_find_493 (by decide) (fun hc => ?_) (fun hc => ?_)
        · have h := ite_t h hc
          refine ww_sub [0, 1, 2] rfl ?_
          exact w_X12_find_510 C hk367 h
        · have h := ite_f h hc
          refine ww_aload_n C dX12_find_496 rfl 0 rfl ?_
          refine ww_get C inX12 rfl 5 (by decide) tb_4_41 MF_0_5 dX12_find_497 ?_
          refine ww_iload_n C dX12_find_500 rfl 2 rfl ?_
          obtain ⟨hin, h⟩ := h
          refine ww_iald C 0 rfl MA_3 hin dX12_find_501 ?_
          refine ww_iload_n C dX12_find_502 rfl 1 rfl ?_
          refine ww_icmp_gt (tgt := 510) C dX12_find_503 (by decide) (fun hc => ?_) (fun hc => ?_)
          · have h := ite_t h hc
            refine ww_sub [0, 1, 2] rfl ?_
            exact w_X12_find_510 C hk367 h
          · have h := ite_f h hc
            refine ww_sub [0, 1, 2] rfl ?_
            exact w_X12_find_506 C hk367 h
    · have h := ite_f h hc
      refine ww_bipush (v := 10) C dX12_find_397 (by decide) ?_
      refine ww_iload_n C dX12_find_399 rfl 2 rfl ?_
      refine ww_imul C dX12_find_400 ?_
      refine ww_iload_n C dX12_find_401 rfl 3 rfl ?_
      refine ww_iadd C dX12_find_402 ?_
      refine ww_nI (fun z_1 ez_1 => ?_)
      have h := h z_1 ez_1
      refine ww_istore (i := 4) (lv' := [(4, .int z_1), (0, .ref (ad 0)), (1, .int x1), (2, .int x2), (3, .int x3)]) C dX12_find_403 (by decide) rfl ?_
      refine ww_aload_n C dX12_find_405 rfl 1 rfl ?_
      refine ww_get C inX12 rfl 15 (by decide) tb_4_51 MF_0_15 dX12_find_406 ?_
      refine ww_iload C dX12_find_409 0 rfl ?_
      obtain ⟨hin, h⟩ := h
      refine ww_iald C 0 rfl MA_12 hin dX12_find_411 ?_
      refine ww_if_le (tgt := 466) C dX12_find_412 (by decide) (fun hc => ?_) (fun hc => ?_)
      · have h := ite_t h hc
        refine ww_sub [1, 2, 3, 4] rfl ?_
        exact w_X12_find_466 C hk367 ih h
      · have h := ite_f h hc
        refine ww_aload_n C dX12_find_415 rfl 1 rfl ?_
        refine ww_get C inX12 rfl 20 (by decide) tb_4_56 MF_0_20 dX12_find_416 ?_
        refine ww_iload_n C dX12_find_419 rfl 3 rfl ?_
        refine ww_dup2 C dX12_find_420 rfl rfl ?_
        obtain ⟨hin, h⟩ := h
        refine ww_iald C 0 rfl MA_16 hin dX12_find_421 ?_
        refine ww_iconst (v := 1) C dX12_find_422 (by decide) ?_
        refine ww_iadd C dX12_find_423 ?_
        obtain ⟨hin, h⟩ := h
        refine ww_iast C 0 rfl MU_16 hin dX12_find_424 ?_
        refine ww_nU (wM ad cI cZ) (fun u_2 eu_2 => ?_)
        have h := h u_2 eu_2
        refine ww_aload_n C dX12_find_425 rfl 1 rfl ?_
        refine ww_aload_n C dX12_find_426 rfl 1 rfl ?_
        refine ww_get C inX12 rfl 14 (by decide) tb_4_50 MF_0_14 dX12_find_427 ?_
        refine ww_iload C dX12_find_430 0 rfl ?_
        obtain ⟨hin, h⟩ := h
        refine ww_iald C 0 rfl MA_11 hin dX12_find_432 ?_
        refine ww_callVi (As := [.int (u_2.2.1 10 z_1.toNatClampNeg)]) (rest := []) C EM_ok (c_X12_sizeOf h) tb_4_239 tb_5_1 tbs_23 tb_1_13 tb_5_2 rfl rfl ⟨rfl, hd_X12_sizeOf⟩ ⟨Nat.le_of_ble_eq_true rfl, Nat.le_of_ble_eq_true rfl⟩ rfl MF_0_0 rfl rfl (Nat.le_of_ble_eq_true rfl) dX12_find_433 ⟨Nat.zero_le _, Nat.zero_le _⟩ (fun r_4 u_3 h => ?_)
        refine ww_istore (i := 5) (lv' := [(5, .int r_4), (4, .int z_1), (0, .ref (ad 0)), (1, .int x1), (2, .int x2), (3, .int x3)]) C dX12_find_436 (by decide) rfl ?_
        refine ww_aload_n C dX12_find_438 rfl 2 rfl ?_
        refine ww_get C inX12 rfl 19 (by decide) tb_4_55 MF_0_19 dX12_find_439 ?_
        refine ww_iload_n C dX12_find_442 rfl 4 rfl ?_
        refine ww_iload C dX12_find_443 0 rfl ?_
        refine ww_aload_n C dX12_find_445 rfl 2 rfl ?_
        refine ww_get C inX12 rfl 19 (by decide) tb_4_55 MF_0_19 dX12_find_446 ?_
        refine ww_iload_n C dX12_find_449 rfl 4 rfl ?_
        obtain ⟨hin, h⟩ := h
        refine ww_iald C 0 rfl MA_15 hin dX12_find_450 ?_
        refine ww_icmp_le (tgt := 459) C dX12_find_451 (by decide) (fun hc => ?_) (fun hc => ?_)
        · have h := ite_t h hc
          refine ww_aload_n C dX12_find_459 rfl 2 rfl ?_
          refine ww_get C inX12 rfl 19 (by decide) tb_4_55 MF_0_19 dX12_find_460 ?_
          refine ww_iload_n C dX12_find_463 rfl 4 rfl ?_
          obtain ⟨hin, h⟩ := h
          refine ww_iald C 0 rfl MA_15 hin dX12_find_464 ?_
          refine ww_sub [2, 3, 4, 5] rfl ?_
          exact w_X12_find_465 C hk367 ih h
        · have h := ite_f h hc
          refine ww_iload C dX12_find_454 0 rfl ?_
          refine ww_goto (tgt := 465) C dX12_find_456 (by decide) ?_
          refine ww_sub [2, 3, 4, 5] rfl ?_
          exact w_X12_find_465 C hk367 ih h
set_option maxRecDepth 100000 in
theorem w_X12_find_367 {p : Program} {l : Launch} {e : Env} {s : State} {m : MethodId} {args : Array Value} {below : List Frame} {meth : Method} {c : Code} {A : Nat → Prop} {D : va_G} {ad : Nat → Nat} {cI cZ : ClassId} {N : Nat} {Q : UU → Prop} (C : Cx p m c cX12_find 6 s args RX12 meth none A D [(cI, .int), (cZ, .boolean)] EM) : ∀ (n : Nat) (x1 : Int32) (x2 : Int32) (u : UU), m_X12_find_367 N Q n x1 x2 u → WW p l e rm_X12_find s m args below meth c 0 0 (MQ below (QV D A (wM ad cI cZ) Q) args s 0 0 A) A D 6 367 [(0, .ref (ad 0)), (1, .int x1), (2, .int x2)] [] (wM ad cI cZ u) := by
  intro n
  induction n with
  | zero => intro x1 x2 u h; rw [m_X12_find_367] at h; exact h.elim
  | succ n ih =>
    intro x1 x2 u h
    rw [m_X12_find_367] at h
    refine ww_iload_n C dX12_find_367 rfl 2 rfl ?_
    refine ww_aload_n C dX12_find_368 rfl 0 rfl ?_
    refine ww_get C inX12 rfl 2 (by decide) tb_4_38 MF_0_2 dX12_find_369 ?_
    refine ww_icmp_ge (tgt := 518) C dX12_find_372 (by decide) (fun hc => ?_) (fun hc => ?_)
    · have h := ite_t h hc
      exact ww_vret C h dX12_find_518
    · have h := ite_f h hc
      refine ww_aload_n C dX12_find_375 rfl 0 rfl ?_
      refine ww_get C inX12 rfl 19 (by decide) tb_4_55 MF_0_19 dX12_find_376 ?_
      refine ww_iload_n C dX12_find_379 rfl 2 rfl ?_
      refine ww_iconst (v := 0) C dX12_find_380 (by decide) ?_
      obtain ⟨hin, h⟩ := h
      refine ww_iast C 0 rfl MU_15 hin dX12_find_381 ?_
      refine ww_nU (wM ad cI cZ) (fun u_1 eu_1 => ?_)
      have h := h u_1 eu_1
      refine ww_aload_n C dX12_find_382 rfl 0 rfl ?_
      refine ww_get C inX12 rfl 20 (by decide) tb_4_56 MF_0_20 dX12_find_383 ?_
      refine ww_iload_n C dX12_find_386 rfl 2 rfl ?_
      refine ww_iconst (v := 0) C dX12_find_387 (by decide) ?_
      obtain ⟨hin, h⟩ := h
      refine ww_iast C 0 rfl MU_16 hin dX12_find_388 ?_
      refine ww_nU (wM ad cI cZ) (fun u_2 eu_2 => ?_)
      have h := h u_2 eu_2
      refine ww_iconst (v := 0) C dX12_find_389 (by decide) ?_
      refine ww_istore_n (i := 3) (lv' := [(3, .int (0 : Int32)), (0, .ref (ad 0)), (1, .int x1), (2, .int x2)]) C dX12_find_390 rfl (by decide) rfl ?_
      refine ww_sub [1, 2, 3, 0] rfl ?_
      exact w_X12_find_391 C ih N _ _ _ _ h
set_option maxRecDepth 100000 in
theorem w_X12_find_262 {p : Program} {l : Launch} {e : Env} {s : State} {m : MethodId} {args : Array Value} {below : List Frame} {meth : Method} {c : Code} {A : Nat → Prop} {D : va_G} {ad : Nat → Nat} {cI cZ : ClassId} {N : Nat} {Q : UU → Prop} (C : Cx p m c cX12_find 6 s args RX12 meth none A D [(cI, .int), (cZ, .boolean)] EM) : ∀ (n : Nat) (x1 : Int32) (x2 : Int32) (u : UU), m_X12_find_262 N Q n x1 x2 u → WW p l e rm_X12_find s m args below meth c 0 0 (MQ below (QV D A (wM ad cI cZ) Q) args s 0 0 A) A D 6 262 [(0, .ref (ad 0)), (1, .int x1), (2, .int x2)] [] (wM ad cI cZ u) := by
  intro n
  induction n with
  | zero => intro x1 x2 u h; rw [m_X12_find_262] at h; exact h.elim
  | succ n ih =>
    intro x1 x2 u h
    rw [m_X12_find_262] at h
    refine ww_iload_n C dX12_find_262 rfl 2 rfl ?_
    refine ww_sipush (v := 300) C dX12_find_263 (by decide) ?_
    refine ww_icmp_ge (tgt := 365) C dX12_find_266 (by decide) (fun hc => ?_) (fun hc => ?_)
    · have h := ite_t h hc
      refine ww_iconst (v := 0) C dX12_find_365 (by decide) ?_
      refine ww_istore_n (i := 2) (lv' := [(2, .int (0 : Int32)), (0, .ref (ad 0)), (1, .int x1)]) C dX12_find_366 rfl (by decide) rfl ?_
      refine ww_sub [1, 2, 0] rfl ?_
      exact w_X12_find_367 C N _ _ _ h
    · have h := ite_f h hc
      refine ww_aload_n C dX12_find_269 rfl 0 rfl ?_
      refine ww_iconst (v := 0) C dX12_find_270 (by decide) ?_
      refine ww_put C inX12 rfl tyX12 tyX12_ok nmX12 18 (by decide) tb_4_54 rfl rfl rfl MS_0_18 dX12_find_271 ?_
      refine ww_nU (wM ad cI cZ) (fun u_1 eu_1 => ?_)
      have h := h u_1 eu_1
      refine ww_iconst (v := 0) C dX12_find_274 (by decide) ?_
      refine ww_istore_n (i := 3) (lv' := [(3, .int (0 : Int32)), (0, .ref (ad 0)), (1, .int x1), (2, .int x2)]) C dX12_find_275 rfl (by decide) rfl ?_
      refine ww_sub [1, 2, 3, 0] rfl ?_
      exact w_X12_find_276 C ih N _ _ _ _ h
set_option maxRecDepth 100000 in
theorem w_X12_find_161 {p : Program} {l : Launch} {e : Env} {s : State} {m : MethodId} {args : Array Value} {below : List Frame} {meth : Method} {c : Code} {A : Nat → Prop} {D : va_G} {ad : Nat → Nat} {cI cZ : ClassId} {N : Nat} {Q : UU → Prop} (C : Cx p m c cX12_find 6 s args RX12 meth none A D [(cI, .int), (cZ, .boolean)] EM) : ∀ (n : Nat) (x1 : Int32) (x2 : Int32) (u : UU), m_X12_find_161 N Q n x1 x2 u → WW p l e rm_X12_find s m args below meth c 0 0 (MQ below (QV D A (wM ad cI cZ) Q) args s 0 0 A) A D 6 161 [(0, .ref (ad 0)), (1, .int x1), (2, .int x2)] [] (wM ad cI cZ u) := by
  intro n
  induction n with
  | zero => intro x1 x2 u h; rw [m_X12_find_161] at h; exact h.elim
  | succ n ih =>
    intro x1 x2 u h
    rw [m_X12_find_161] at h
    refine ww_iload_n C dX12_find_161 rfl 2 rfl ?_
    refine ww_bipush (v := 8) C dX12_find_162 (by decide) ?_
    refine ww_icmp_ge (tgt := 260) C dX12_find_164 (by decide) (fun hc => ?_) (fun hc => ?_)
    · have h := ite_t h hc
      refine ww_iconst (v := 0) C dX12_find_260 (by decide) ?_
      refine ww_istore_n (i := 2) (lv' := [(2, .int (0 : Int32)), (0, .ref (ad 0)), (1, .int x1)]) C dX12_find_261 rfl (by decide) rfl ?_
      refine ww_sub [1, 2, 0] rfl ?_
      exact w_X12_find_262 C N _ _ _ h
    · have h := ite_f h hc
      refine ww_aload_n C dX12_find_167 rfl 0 rfl ?_
      refine ww_iconst (v := 0) C dX12_find_168 (by decide) ?_
      refine ww_put C inX12 rfl tyX12 tyX12_ok nmX12 18 (by decide) tb_4_54 rfl rfl rfl MS_0_18 dX12_find_169 ?_
      refine ww_nU (wM ad cI cZ) (fun u_1 eu_1 => ?_)
      have h := h u_1 eu_1
      refine ww_iconst (v := 0) C dX12_find_172 (by decide) ?_
      refine ww_istore_n (i := 3) (lv' := [(3, .int (0 : Int32)), (0, .ref (ad 0)), (1, .int x1), (2, .int x2)]) C dX12_find_173 rfl (by decide) rfl ?_
      refine ww_sub [1, 2, 3, 0] rfl ?_
      exact w_X12_find_174 C ih N _ _ _ _ h
set_option maxRecDepth 100000 in
theorem w_X12_find_67 {p : Program} {l : Launch} {e : Env} {s : State} {m : MethodId} {args : Array Value} {below : List Frame} {meth : Method} {c : Code} {A : Nat → Prop} {D : va_G} {ad : Nat → Nat} {cI cZ : ClassId} {N : Nat} {Q : UU → Prop} (C : Cx p m c cX12_find 6 s args RX12 meth none A D [(cI, .int), (cZ, .boolean)] EM) : ∀ (n : Nat) (x1 : Int32) (x2 : Int32) (u : UU), m_X12_find_67 N Q n x1 x2 u → WW p l e rm_X12_find s m args below meth c 0 0 (MQ below (QV D A (wM ad cI cZ) Q) args s 0 0 A) A D 6 67 [(0, .ref (ad 0)), (1, .int x1), (2, .int x2)] [] (wM ad cI cZ u) := by
  intro n
  induction n with
  | zero => intro x1 x2 u h; rw [m_X12_find_67] at h; exact h.elim
  | succ n ih =>
    intro x1 x2 u h
    rw [m_X12_find_67] at h
    refine ww_iload_n C dX12_find_67 rfl 2 rfl ?_
    refine ww_sipush (v := 300) C dX12_find_68 (by decide) ?_
    refine ww_icmp_ge (tgt := 159) C dX12_find_71 (by decide) (fun hc => ?_) (fun hc => ?_)
    · have h := ite_t h hc
      refine ww_iconst (v := 0) C dX12_find_159 (by decide) ?_
      refine ww_istore_n (i := 2) (lv' := [(2, .int (0 : Int32)), (0, .ref (ad 0)), (1, .int x1)]) C dX12_find_160 rfl (by decide) rfl ?_
      refine ww_sub [1, 2, 0] rfl ?_
      exact w_X12_find_161 C N _ _ _ h
    · have h := ite_f h hc
      refine ww_aload_n C dX12_find_74 rfl 0 rfl ?_
      refine ww_iconst (v := 0) C dX12_find_75 (by decide) ?_
      refine ww_put C inX12 rfl tyX12 tyX12_ok nmX12 18 (by decide) tb_4_54 rfl rfl rfl MS_0_18 dX12_find_76 ?_
      refine ww_nU (wM ad cI cZ) (fun u_1 eu_1 => ?_)
      have h := h u_1 eu_1
      refine ww_iconst (v := 0) C dX12_find_79 (by decide) ?_
      refine ww_istore_n (i := 3) (lv' := [(3, .int (0 : Int32)), (0, .ref (ad 0)), (1, .int x1), (2, .int x2)]) C dX12_find_80 rfl (by decide) rfl ?_
      refine ww_sub [1, 2, 3, 0] rfl ?_
      exact w_X12_find_81 C ih N _ _ _ _ h
set_option maxRecDepth 100000 in
theorem w_X12_find_24 {p : Program} {l : Launch} {e : Env} {s : State} {m : MethodId} {args : Array Value} {below : List Frame} {meth : Method} {c : Code} {A : Nat → Prop} {D : va_G} {ad : Nat → Nat} {cI cZ : ClassId} {N : Nat} {Q : UU → Prop} (C : Cx p m c cX12_find 6 s args RX12 meth none A D [(cI, .int), (cZ, .boolean)] EM) : ∀ (n : Nat) (x1 : Int32) (x2 : Int32) (u : UU), m_X12_find_24 N Q n x1 x2 u → WW p l e rm_X12_find s m args below meth c 0 0 (MQ below (QV D A (wM ad cI cZ) Q) args s 0 0 A) A D 6 24 [(0, .ref (ad 0)), (1, .int x1), (2, .int x2)] [] (wM ad cI cZ u) := by
  intro n
  induction n with
  | zero => intro x1 x2 u h; rw [m_X12_find_24] at h; exact h.elim
  | succ n ih =>
    intro x1 x2 u h
    rw [m_X12_find_24] at h
    refine ww_iload_n C dX12_find_24 rfl 2 rfl ?_
    refine ww_aload_n C dX12_find_25 rfl 0 rfl ?_
    refine ww_get C inX12 rfl 6 (by decide) tb_4_42 MF_0_6 dX12_find_26 ?_
    refine ww_icmp_ge (tgt := 65) C dX12_find_29 (by decide) (fun hc => ?_) (fun hc => ?_)
    · have h := ite_t h hc
      refine ww_iconst (v := 0) C dX12_find_65 (by decide) ?_
      refine ww_istore_n (i := 2) (lv' := [(2, .int (0 : Int32)), (0, .ref (ad 0)), (1, .int x1)]) C dX12_find_66 rfl (by decide) rfl ?_
      refine ww_sub [1, 2, 0] rfl ?_
      exact w_X12_find_67 C N _ _ _ h
    · have h := ite_f h hc
      refine ww_aload_n C dX12_find_32 rfl 0 rfl ?_
      refine ww_get C inX12 rfl 9 (by decide) tb_4_45 MF_0_9 dX12_find_33 ?_
      refine ww_iload_n C dX12_find_36 rfl 2 rfl ?_
      obtain ⟨hin, h⟩ := h
      refine ww_iald C 0 rfl MA_6 hin dX12_find_37 ?_
      refine ww_iload_n C dX12_find_38 rfl 1 rfl ?_
      refine ww_icmp_gt (tgt := 59) C dX12_find_39 (by decide) (fun hc => ?_) (fun hc => ?_)
      · have h := ite_t h hc
        exact w_X12_find_59 C ih h
      · have h := ite_f h hc
        refine ww_aload_n C dX12_find_42 rfl 0 rfl ?_
        refine ww_get C inX12 rfl 12 (by decide) tb_4_48 MF_0_12 dX12_find_43 ?_
        refine ww_aload_n C dX12_find_46 rfl 0 rfl ?_
        refine ww_get C inX12 rfl 7 (by decide) tb_4_43 MF_0_7 dX12_find_47 ?_
        refine ww_iload_n C dX12_find_50 rfl 2 rfl ?_
        obtain ⟨hin, h⟩ := h
        refine ww_iald C 0 rfl MA_4 hin dX12_find_51 ?_
        refine ww_aload_n C dX12_find_52 rfl 0 rfl ?_
        refine ww_get C inX12 rfl 8 (by decide) tb_4_44 MF_0_8 dX12_find_53 ?_
        refine ww_iload_n C dX12_find_56 rfl 2 rfl ?_
        obtain ⟨hin, h⟩ := h
        refine ww_iald C 0 rfl MA_5 hin dX12_find_57 ?_
        obtain ⟨hin, h⟩ := h
        refine ww_iast C 0 rfl MU_9 hin dX12_find_58 ?_
        refine ww_nU (wM ad cI cZ) (fun u_1 eu_1 => ?_)
        have h := h u_1 eu_1
        exact w_X12_find_59 C ih h
set_option maxRecDepth 100000 in
theorem w_X12_find_2 {p : Program} {l : Launch} {e : Env} {s : State} {m : MethodId} {args : Array Value} {below : List Frame} {meth : Method} {c : Code} {A : Nat → Prop} {D : va_G} {ad : Nat → Nat} {cI cZ : ClassId} {N : Nat} {Q : UU → Prop} (C : Cx p m c cX12_find 6 s args RX12 meth none A D [(cI, .int), (cZ, .boolean)] EM) : ∀ (n : Nat) (x1 : Int32) (x2 : Int32) (u : UU), m_X12_find_2 N Q n x1 x2 u → WW p l e rm_X12_find s m args below meth c 0 0 (MQ below (QV D A (wM ad cI cZ) Q) args s 0 0 A) A D 6 2 [(0, .ref (ad 0)), (1, .int x1), (2, .int x2)] [] (wM ad cI cZ u) := by
  intro n
  induction n with
  | zero => intro x1 x2 u h; rw [m_X12_find_2] at h; exact h.elim
  | succ n ih =>
    intro x1 x2 u h
    rw [m_X12_find_2] at h
    refine ww_iload_n C dX12_find_2 rfl 2 rfl ?_
    refine ww_sipush (v := 2400) C dX12_find_3 (by decide) ?_
    refine ww_icmp_ge (tgt := 22) C dX12_find_6 (by decide) (fun hc => ?_) (fun hc => ?_)
    · have h := ite_t h hc
      refine ww_iconst (v := 0) C dX12_find_22 (by decide) ?_
      refine ww_istore_n (i := 2) (lv' := [(2, .int (0 : Int32)), (0, .ref (ad 0)), (1, .int x1)]) C dX12_find_23 rfl (by decide) rfl ?_
      refine ww_sub [1, 2, 0] rfl ?_
      exact w_X12_find_24 C N _ _ _ h
    · have h := ite_f h hc
      refine ww_aload_n C dX12_find_9 rfl 0 rfl ?_
      refine ww_get C inX12 rfl 12 (by decide) tb_4_48 MF_0_12 dX12_find_10 ?_
      refine ww_iload_n C dX12_find_13 rfl 2 rfl ?_
      refine ww_iconst (v := 0) C dX12_find_14 (by decide) ?_
      obtain ⟨hin, h⟩ := h
      refine ww_iast C 0 rfl MU_9 hin dX12_find_15 ?_
      refine ww_nU (wM ad cI cZ) (fun u_1 eu_1 => ?_)
      have h := h u_1 eu_1
      obtain ⟨z_2, ez_2⟩ : ∃ z_2 : Int32, z_2 = x2 + (1 : Int32) := ⟨_, rfl⟩
      have h := h z_2 ez_2
      refine ww_iinc (i := 2) (j := 2) (v := z_2) (lv' := [(2, .int z_2), (0, .ref (ad 0)), (1, .int x1)]) C dX12_find_16 rfl (by rw [ez_2]; rfl) (by decide) rfl ?_
      refine ww_goto (tgt := 2) C dX12_find_19 (by decide) ?_
      refine ww_sub [1, 2, 0] rfl ?_
      exact ih _ _ _ h
set_option maxRecDepth 100000 in
theorem w_X12_find {p : Program} {l : Launch} {e : Env} {s : State} {m : MethodId} {args : Array Value} {below : List Frame} {meth : Method} {c : Code} {A : Nat → Prop} {D : va_G} {ad : Nat → Nat} {cI cZ : ClassId} {N : Nat} {Q : UU → Prop} (C : Cx p m c cX12_find 6 s args RX12 meth none A D [(cI, .int), (cZ, .boolean)] EM) : ∀ {x1 : Int32} {u : UU}, m_X12_find N x1 u Q → WW p l e rm_X12_find s m args below meth c 0 0 (MQ below (QV D A (wM ad cI cZ) Q) args s 0 0 A) A D 6 0 [(0, .ref (ad 0)), (1, .int x1)] [] (wM ad cI cZ u) := by
  intro x1 u h
  unfold m_X12_find at h
  refine ww_iconst (v := 0) C dX12_find_0 (by decide) ?_
  refine ww_istore_n (i := 2) (lv' := [(2, .int (0 : Int32)), (0, .ref (ad 0)), (1, .int x1)]) C dX12_find_1 rfl (by decide) rfl ?_
  refine ww_sub [1, 2, 0] rfl ?_
  exact w_X12_find_2 C N _ _ _ h
theorem c_X12_find {l : Launch} {D : va_G} {ad : Nat → Nat} {cI cZ : ClassId} {N : Nat} {x1 : Int32} {u : UU} {Q : UU → Prop} (h : m_X12_find N x1 u Q) : MV l D [(cI, .int), (cZ, .boolean)] EM yX12_find (Cond.code yX12_find cX12_find 6 none) rm_X12_find [.ref (ad 0), .int x1] (wM ad cI cZ u) (wM ad cI cZ) Q 0 0 :=
  MV_of (own := RX12) (by decide) rfl (Nat.le_of_ble_eq_true rfl) rfl (fun p e s m args below meth c A C => w_X12_find C h)
theorem hd_X12_find : yX12_find.cls ≠ "java/lang/invoke/MethodHandle" ∧ yX12_find.cls ≠ "java/lang/invoke/VarHandle" ∧ (parseMethodDescriptor yX12_find.desc).map (fun d => d.parameters.length) = some 1 := by decide +kernel
abbrev rm_X12_of : Room := { frames := 2, cells := 0, slots := 0, locals := 48 }
set_option maxRecDepth 100000 in
theorem w_X12_of {p : Program} {l : Launch} {e : Env} {s : State} {m : MethodId} {args : Array Value} {below : List Frame} {meth : Method} {c : Code} {A : Nat → Prop} {D : va_G} {ad : Nat → Nat} {cI cZ : ClassId} {N : Nat} {Q : Int32 → UU → Prop} (C : Cx p m c cX12_of 6 s args RX12 meth (some .int) A D [(cI, .int), (cZ, .boolean)] EM) : ∀ {x1 : Int32} {x2 : Int32} {x3 : Int32} {x4 : Int32} {u : UU}, m_X12_of N x1 x2 x3 x4 u Q → WW p l e rm_X12_of s m args below meth c 0 0 (MQ below (QI D A (wM ad cI cZ) Q) args s 0 0 A) A D 6 0 [(0, .ref (ad 0)), (1, .int x1), (2, .int x2), (3, .int x3), (4, .int x4)] [] (wM ad cI cZ u) := by
  intro x1 x2 x3 x4 u h
  unfold m_X12_of at h
  refine ww_aload_n C dX12_of_0 rfl 0 rfl ?_
  refine ww_iconst (v := 0) C dX12_of_1 (by decide) ?_
  refine ww_put C inX12 rfl tyX12 tyX12_ok nmX12 0 (by decide) tb_4_36 rfl rfl rfl MS_0_0 dX12_of_2 ?_
  refine ww_nU (wM ad cI cZ) (fun u_1 eu_1 => ?_)
  have h := h u_1 eu_1
  refine ww_aload_n C dX12_of_5 rfl 0 rfl ?_
  refine ww_iload_n C dX12_of_6 rfl 1 rfl ?_
  refine ww_callVi (As := [.int x1]) (rest := []) C EM_ok (c_X12_isBoard h) tb_4_210 tb_4_212 tbs_19 tb_1_13 tb_4_213 rfl rfl ⟨rfl, hd_X12_isBoard⟩ ⟨Nat.le_of_ble_eq_true rfl, Nat.le_of_ble_eq_true rfl⟩ rfl MF_0_0 rfl rfl (Nat.le_of_ble_eq_true rfl) dX12_of_7 ⟨Nat.zero_le _, Nat.zero_le _⟩ (fun r_3 u_2 h => ?_)
  refine ww_if_eq (tgt := 32) C dX12_of_10 (by decide) (fun hc => ?_) (fun hc => ?_)
  · have h := ite_t h hc
    refine ww_iconst (v := (-1)) C dX12_of_32 (by decide) ?_
    exact ww_iret C h dX12_of_33
  · have h := ite_f h hc
    refine ww_iload_n C dX12_of_13 rfl 2 rfl ?_
    refine ww_i2l C dX12_of_14 ?_
    refine ww_lconst (v := 0) C dX12_of_15 (by decide) ?_
    refine ww_ldc2 C tb_4_203 dX12_of_16 ?_
    refine ww_callSi (As := [.long x2.toInt64, .long (0 : Int64), .long (9 : Int64)]) (rest := []) C EM_ok (c_X12_in h) tb_4_192 tb_4_193 tb_1_13 tb_4_194 rfl rfl hd_X12_in ⟨Nat.le_of_ble_eq_true rfl, Nat.le_of_ble_eq_true rfl⟩ rfl rfl (Nat.le_of_ble_eq_true rfl) dX12_of_19 ⟨Nat.zero_le _, Nat.zero_le _⟩ (fun r_5 u_4 h => ?_)
    refine ww_if_eq (tgt := 32) C dX12_of_22 (by decide) (fun hc => ?_) (fun hc => ?_)
    · have h := ite_t h hc
      refine ww_iconst (v := (-1)) C dX12_of_32 (by decide) ?_
      exact ww_iret C h dX12_of_33
    · have h := ite_f h hc
      refine ww_iload_n C dX12_of_25 rfl 3 rfl ?_
      refine ww_callSi (As := [.int x3]) (rest := []) C EM_ok (c_X12_isKnown h) tb_4_206 tb_4_207 tb_1_13 tb_4_208 rfl rfl hd_X12_isKnown ⟨Nat.le_of_ble_eq_true rfl, Nat.le_of_ble_eq_true rfl⟩ rfl rfl (Nat.le_of_ble_eq_true rfl) dX12_of_26 ⟨Nat.zero_le _, Nat.zero_le _⟩ (fun r_7 u_6 h => ?_)
      refine ww_if_ne (tgt := 34) C dX12_of_29 (by decide) (fun hc => ?_) (fun hc => ?_)
      · have h := ite_f h hc
        refine ww_aload_n C dX12_of_34 rfl 0 rfl ?_
        refine ww_iload_n C dX12_of_35 rfl 3 rfl ?_
        refine ww_callVv (As := [.int x3]) (rest := []) C EM_ok (c_X12_find h) tb_4_227 tb_4_229 tbs_20 tb_1_13 tb_4_230 rfl rfl ⟨rfl, hd_X12_find⟩ ⟨Nat.le_of_ble_eq_true rfl, Nat.le_of_ble_eq_true rfl⟩ rfl MF_0_0 rfl rfl (Nat.le_of_ble_eq_true rfl) dX12_of_36 ⟨Nat.zero_le _, Nat.zero_le _⟩ (fun u_8 h => ?_)
        refine ww_bipush (v := 10) C dX12_of_39 (by decide) ?_
        refine ww_iload_n C dX12_of_41 rfl 1 rfl ?_
        refine ww_imul C dX12_of_42 ?_
        refine ww_iload_n C dX12_of_43 rfl 2 rfl ?_
        refine ww_iadd C dX12_of_44 ?_
        refine ww_nI (fun z_10 ez_10 => ?_)
        have h := h z_10 ez_10
        refine ww_istore (i := 5) (lv' := [(5, .int z_10), (0, .ref (ad 0)), (1, .int x1), (2, .int x2), (3, .int x3), (4, .int x4)]) C dX12_of_45 (by decide) rfl ?_
        refine ww_aload_n C dX12_of_47 rfl 1 rfl ?_
        refine ww_get C inX12 rfl 15 (by decide) tb_4_51 MF_0_15 dX12_of_48 ?_
        refine ww_iload C dX12_of_51 0 rfl ?_
        obtain ⟨hin, h⟩ := h
        refine ww_iald C 0 rfl MA_12 hin dX12_of_53 ?_
        refine ww_if_ne (tgt := 59) C dX12_of_54 (by decide) (fun hc => ?_) (fun hc => ?_)
        · have h := ite_f h hc
          refine ww_iload C dX12_of_59 5 rfl ?_
          refine ww_if_ne (tgt := 74) C dX12_of_61 (by decide) (fun hc => ?_) (fun hc => ?_)
          · have h := ite_f h hc
            refine ww_iload C dX12_of_74 5 rfl ?_
            refine ww_iconst (v := 1) C dX12_of_76 (by decide) ?_
            refine ww_icmp_ne (tgt := 90) C dX12_of_77 (by decide) (fun hc => ?_) (fun hc => ?_)
            · have h := ite_f h hc
              refine ww_iload C dX12_of_90 5 rfl ?_
              refine ww_iconst (v := 2) C dX12_of_92 (by decide) ?_
              refine ww_icmp_ne (tgt := 110) C dX12_of_93 (by decide) (fun hc => ?_) (fun hc => ?_)
              · have h := ite_f h hc
                refine ww_iload C dX12_of_110 5 rfl ?_
                refine ww_iconst (v := 3) C dX12_of_112 (by decide) ?_
                refine ww_icmp_ne (tgt := 126) C dX12_of_113 (by decide) (fun hc => ?_) (fun hc => ?_)
                · have h := ite_f h hc
                  refine ww_iconst (v := (-1)) C dX12_of_126 (by decide) ?_
                  exact ww_iret C h dX12_of_127
                · have h := ite_t h hc
                  refine ww_aload_n C dX12_of_116 rfl 1 rfl ?_
                  refine ww_get C inX12 rfl 15 (by decide) tb_4_51 MF_0_15 dX12_of_117 ?_
                  refine ww_iload C dX12_of_120 0 rfl ?_
                  obtain ⟨hin, h⟩ := h
                  refine ww_iald C 0 rfl MA_12 hin dX12_of_122 ?_
                  refine ww_goto (tgt := 127) C dX12_of_123 (by decide) ?_
                  exact ww_iret C h dX12_of_127
              · have h := ite_t h hc
                refine ww_aload_n C dX12_of_96 rfl 1 rfl ?_
                refine ww_aload_n C dX12_of_97 rfl 1 rfl ?_
                refine ww_get C inX12 rfl 14 (by decide) tb_4_50 MF_0_14 dX12_of_98 ?_
                refine ww_iload C dX12_of_101 0 rfl ?_
                obtain ⟨hin, h⟩ := h
                refine ww_iald C 0 rfl MA_11 hin dX12_of_103 ?_
                refine ww_callVi (As := [.int (u_8.2.1 10 z_10.toNatClampNeg)]) (rest := []) C EM_ok (c_X12_sizeOf h) tb_4_239 tb_5_1 tbs_23 tb_1_13 tb_5_2 rfl rfl ⟨rfl, hd_X12_sizeOf⟩ ⟨Nat.le_of_ble_eq_true rfl, Nat.le_of_ble_eq_true rfl⟩ rfl MF_0_0 rfl rfl (Nat.le_of_ble_eq_true rfl) dX12_of_104 ⟨Nat.zero_le _, Nat.zero_le _⟩ (fun r_12 u_11 h => ?_)
                refine ww_goto (tgt := 127) C dX12_of_107 (by decide) ?_
                exact ww_iret C h dX12_of_127
            · have h := ite_t h hc
              refine ww_aload_n C dX12_of_80 rfl 1 rfl ?_
              refine ww_get C inX12 rfl 14 (by decide) tb_4_50 MF_0_14 dX12_of_81 ?_
              refine ww_iload C dX12_of_84 0 rfl ?_
              obtain ⟨hin, h⟩ := h
              refine ww_iald C 0 rfl MA_11 hin dX12_of_86 ?_
              refine ww_goto (tgt := 127) C dX12_of_87 (by decide) ?_
              exact ww_iret C h dX12_of_127
          · have h := ite_t h hc
            refine ww_aload_n C dX12_of_64 rfl 1 rfl ?_
            refine ww_get C inX12 rfl 13 (by decide) tb_4_49 MF_0_13 dX12_of_65 ?_
            refine ww_iload C dX12_of_68 0 rfl ?_
            obtain ⟨hin, h⟩ := h
            refine ww_iald C 0 rfl MA_10 hin dX12_of_70 ?_
            refine ww_goto (tgt := 127) C dX12_of_71 (by decide) ?_
            exact ww_iret C h dX12_of_127
        · have h := ite_t h hc
          refine ww_iconst (v := (-1)) C dX12_of_57 (by decide) ?_
          exact ww_iret C h dX12_of_58
      · have h := ite_t h hc
        refine ww_iconst (v := (-1)) C dX12_of_32 (by decide) ?_
        exact ww_iret C h dX12_of_33
theorem c_X12_of {l : Launch} {D : va_G} {ad : Nat → Nat} {cI cZ : ClassId} {N : Nat} {x1 : Int32} {x2 : Int32} {x3 : Int32} {x4 : Int32} {u : UU} {Q : Int32 → UU → Prop} (h : m_X12_of N x1 x2 x3 x4 u Q) : MI l D [(cI, .int), (cZ, .boolean)] EM yX12_of (Cond.code yX12_of cX12_of 6 (some .int)) rm_X12_of [.ref (ad 0), .int x1, .int x2, .int x3, .int x4] (wM ad cI cZ u) (wM ad cI cZ) Q :=
  MI_of (own := RX12) (by decide) rfl (Nat.le_of_ble_eq_true rfl) rfl (fun p e s m args below meth c A C => w_X12_of C h)
theorem hd_X12_of : yX12_of.cls ≠ "java/lang/invoke/MethodHandle" ∧ yX12_of.cls ≠ "java/lang/invoke/VarHandle" ∧ (parseMethodDescriptor yX12_of.desc).map (fun d => d.parameters.length) = some 4 := by decide +kernel
abbrev rm_X12_leaning : Room := { frames := 2, cells := 0, slots := 0, locals := 48 }
set_option maxRecDepth 100000 in
theorem w_X12_leaning {p : Program} {l : Launch} {e : Env} {s : State} {m : MethodId} {args : Array Value} {below : List Frame} {meth : Method} {c : Code} {A : Nat → Prop} {D : va_G} {ad : Nat → Nat} {cI cZ : ClassId} {N : Nat} {Q : Int32 → UU → Prop} (C : Cx p m c cX12_leaning 3 s args RX12 meth (some .int) A D [(cI, .int), (cZ, .boolean)] EM) : ∀ {x1 : Int32} {x2 : Int32} {u : UU}, m_X12_leaning N x1 x2 u Q → WW p l e rm_X12_leaning s m args below meth c 0 0 (MQ below (QI D A (wM ad cI cZ) Q) args s 0 0 A) A D 3 0 [(0, .ref (ad 0)), (1, .int x1), (2, .int x2)] [] (wM ad cI cZ u) := by
  intro x1 x2 u h
  unfold m_X12_leaning at h
  refine ww_aload_n C dX12_leaning_0 rfl 0 rfl ?_
  refine ww_iconst (v := 0) C dX12_leaning_1 (by decide) ?_
  refine ww_put C inX12 rfl tyX12 tyX12_ok nmX12 0 (by decide) tb_4_36 rfl rfl rfl MS_0_0 dX12_leaning_2 ?_
  refine ww_nU (wM ad cI cZ) (fun u_1 eu_1 => ?_)
  have h := h u_1 eu_1
  refine ww_iload_n C dX12_leaning_5 rfl 1 rfl ?_
  refine ww_i2l C dX12_leaning_6 ?_
  refine ww_lconst (v := 0) C dX12_leaning_7 (by decide) ?_
  refine ww_ldc2 C tb_4_204 dX12_leaning_8 ?_
  refine ww_callSi (As := [.long x1.toInt64, .long (0 : Int64), .long (7 : Int64)]) (rest := []) C EM_ok (c_X12_in h) tb_4_192 tb_4_193 tb_1_13 tb_4_194 rfl rfl hd_X12_in ⟨Nat.le_of_ble_eq_true rfl, Nat.le_of_ble_eq_true rfl⟩ rfl rfl (Nat.le_of_ble_eq_true rfl) dX12_leaning_11 ⟨Nat.zero_le _, Nat.zero_le _⟩ (fun r_3 u_2 h => ?_)
  refine ww_if_eq (tgt := 24) C dX12_leaning_14 (by decide) (fun hc => ?_) (fun hc => ?_)
  · have h := ite_t h hc
    refine ww_sipush (v := (-1000)) C dX12_leaning_24 (by decide) ?_
    exact ww_iret C h dX12_leaning_27
  · have h := ite_f h hc
    refine ww_iload_n C dX12_leaning_17 rfl 2 rfl ?_
    refine ww_callSi (As := [.int x2]) (rest := []) C EM_ok (c_X12_isKnown h) tb_4_206 tb_4_207 tb_1_13 tb_4_208 rfl rfl hd_X12_isKnown ⟨Nat.le_of_ble_eq_true rfl, Nat.le_of_ble_eq_true rfl⟩ rfl rfl (Nat.le_of_ble_eq_true rfl) dX12_leaning_18 ⟨Nat.zero_le _, Nat.zero_le _⟩ (fun r_5 u_4 h => ?_)
    refine ww_if_ne (tgt := 28) C dX12_leaning_21 (by decide) (fun hc => ?_) (fun hc => ?_)
    · have h := ite_f h hc
      refine ww_aload_n C dX12_leaning_28 rfl 0 rfl ?_
      refine ww_iload_n C dX12_leaning_29 rfl 2 rfl ?_
      refine ww_callVv (As := [.int x2]) (rest := []) C EM_ok (c_X12_find h) tb_4_227 tb_4_229 tbs_20 tb_1_13 tb_4_230 rfl rfl ⟨rfl, hd_X12_find⟩ ⟨Nat.le_of_ble_eq_true rfl, Nat.le_of_ble_eq_true rfl⟩ rfl MF_0_0 rfl rfl (Nat.le_of_ble_eq_true rfl) dX12_leaning_30 ⟨Nat.zero_le _, Nat.zero_le _⟩ (fun u_6 h => ?_)
      refine ww_aload_n C dX12_leaning_33 rfl 0 rfl ?_
      refine ww_get C inX12 rfl 16 (by decide) tb_4_52 MF_0_16 dX12_leaning_34 ?_
      refine ww_iload_n C dX12_leaning_37 rfl 1 rfl ?_
      obtain ⟨hin, h⟩ := h
      refine ww_iald C 0 rfl MA_13 hin dX12_leaning_38 ?_
      exact ww_iret C h dX12_leaning_39
    · have h := ite_t h hc
      refine ww_sipush (v := (-1000)) C dX12_leaning_24 (by decide) ?_
      exact ww_iret C h dX12_leaning_27
theorem c_X12_leaning {l : Launch} {D : va_G} {ad : Nat → Nat} {cI cZ : ClassId} {N : Nat} {x1 : Int32} {x2 : Int32} {u : UU} {Q : Int32 → UU → Prop} (h : m_X12_leaning N x1 x2 u Q) : MI l D [(cI, .int), (cZ, .boolean)] EM yX12_leaning (Cond.code yX12_leaning cX12_leaning 3 (some .int)) rm_X12_leaning [.ref (ad 0), .int x1, .int x2] (wM ad cI cZ u) (wM ad cI cZ) Q :=
  MI_of (own := RX12) (by decide) rfl (Nat.le_of_ble_eq_true rfl) rfl (fun p e s m args below meth c A C => w_X12_leaning C h)
theorem hd_X12_leaning : yX12_leaning.cls ≠ "java/lang/invoke/MethodHandle" ∧ yX12_leaning.cls ≠ "java/lang/invoke/VarHandle" ∧ (parseMethodDescriptor yX12_leaning.desc).map (fun d => d.parameters.length) = some 2 := by decide +kernel
abbrev rm_X12_seen : Room := { frames := 2, cells := 0, slots := 0, locals := 48 }
set_option maxRecDepth 100000 in
theorem w_X12_seen {p : Program} {l : Launch} {e : Env} {s : State} {m : MethodId} {args : Array Value} {below : List Frame} {meth : Method} {c : Code} {A : Nat → Prop} {D : va_G} {ad : Nat → Nat} {cI cZ : ClassId} {N : Nat} {Q : Int32 → UU → Prop} (C : Cx p m c cX12_seen 4 s args RX12 meth (some .int) A D [(cI, .int), (cZ, .boolean)] EM) : ∀ {x1 : Int32} {x2 : Int32} {x3 : Int32} {u : UU}, m_X12_seen N x1 x2 x3 u Q → WW p l e rm_X12_seen s m args below meth c 0 0 (MQ below (QI D A (wM ad cI cZ) Q) args s 0 0 A) A D 4 0 [(0, .ref (ad 0)), (1, .int x1), (2, .int x2), (3, .int x3)] [] (wM ad cI cZ u) := by
  intro x1 x2 x3 u h
  unfold m_X12_seen at h
  refine ww_aload_n C dX12_seen_0 rfl 0 rfl ?_
  refine ww_iconst (v := 0) C dX12_seen_1 (by decide) ?_
  refine ww_put C inX12 rfl tyX12 tyX12_ok nmX12 0 (by decide) tb_4_36 rfl rfl rfl MS_0_0 dX12_seen_2 ?_
  refine ww_nU (wM ad cI cZ) (fun u_1 eu_1 => ?_)
  have h := h u_1 eu_1
  refine ww_aload_n C dX12_seen_5 rfl 0 rfl ?_
  refine ww_iload_n C dX12_seen_6 rfl 1 rfl ?_
  refine ww_callVi (As := [.int x1]) (rest := []) C EM_ok (c_X12_isBoard h) tb_4_210 tb_4_212 tbs_19 tb_1_13 tb_4_213 rfl rfl ⟨rfl, hd_X12_isBoard⟩ ⟨Nat.le_of_ble_eq_true rfl, Nat.le_of_ble_eq_true rfl⟩ rfl MF_0_0 rfl rfl (Nat.le_of_ble_eq_true rfl) dX12_seen_7 ⟨Nat.zero_le _, Nat.zero_le _⟩ (fun r_3 u_2 h => ?_)
  refine ww_if_eq (tgt := 20) C dX12_seen_10 (by decide) (fun hc => ?_) (fun hc => ?_)
  · have h := ite_t h hc
    refine ww_iconst (v := (-1)) C dX12_seen_20 (by decide) ?_
    exact ww_iret C h dX12_seen_21
  · have h := ite_f h hc
    refine ww_iload_n C dX12_seen_13 rfl 2 rfl ?_
    refine ww_callSi (As := [.int x2]) (rest := []) C EM_ok (c_X12_isKnown h) tb_4_206 tb_4_207 tb_1_13 tb_4_208 rfl rfl hd_X12_isKnown ⟨Nat.le_of_ble_eq_true rfl, Nat.le_of_ble_eq_true rfl⟩ rfl rfl (Nat.le_of_ble_eq_true rfl) dX12_seen_14 ⟨Nat.zero_le _, Nat.zero_le _⟩ (fun r_5 u_4 h => ?_)
    refine ww_if_ne (tgt := 22) C dX12_seen_17 (by decide) (fun hc => ?_) (fun hc => ?_)
    · have h := ite_f h hc
      refine ww_aload_n C dX12_seen_22 rfl 0 rfl ?_
      refine ww_iload_n C dX12_seen_23 rfl 2 rfl ?_
      refine ww_callVv (As := [.int x2]) (rest := []) C EM_ok (c_X12_find h) tb_4_227 tb_4_229 tbs_20 tb_1_13 tb_4_230 rfl rfl ⟨rfl, hd_X12_find⟩ ⟨Nat.le_of_ble_eq_true rfl, Nat.le_of_ble_eq_true rfl⟩ rfl MF_0_0 rfl rfl (Nat.le_of_ble_eq_true rfl) dX12_seen_24 ⟨Nat.zero_le _, Nat.zero_le _⟩ (fun u_6 h => ?_)
      refine ww_iload_n C dX12_seen_27 rfl 3 rfl ?_
      refine ww_if_ne (tgt := 53) C dX12_seen_28 (by decide) (fun hc => ?_) (fun hc => ?_)
      · have h := ite_f h hc
        refine ww_iload_n C dX12_seen_53 rfl 3 rfl ?_
        refine ww_iconst (v := 1) C dX12_seen_54 (by decide) ?_
        refine ww_icmp_ne (tgt := 67) C dX12_seen_55 (by decide) (fun hc => ?_) (fun hc => ?_)
        · have h := ite_f h hc
          refine ww_iload_n C dX12_seen_67 rfl 3 rfl ?_
          refine ww_iconst (v := 2) C dX12_seen_68 (by decide) ?_
          refine ww_icmp_ne (tgt := 89) C dX12_seen_69 (by decide) (fun hc => ?_) (fun hc => ?_)
          · have h := ite_f h hc
            refine ww_iconst (v := (-1)) C dX12_seen_89 (by decide) ?_
            exact ww_iret C h dX12_seen_90
          · have h := ite_t h hc
            refine ww_aload_n C dX12_seen_72 rfl 0 rfl ?_
            refine ww_get C inX12 rfl 21 (by decide) tb_4_57 MF_0_21 dX12_seen_73 ?_
            refine ww_iload_n C dX12_seen_76 rfl 1 rfl ?_
            obtain ⟨hin, h⟩ := h
            refine ww_zald C 1 rfl MA_17 hin dX12_seen_77 ?_
            refine ww_if_eq (tgt := 85) C dX12_seen_78 (by decide) (fun hc => ?_) (fun hc => ?_)
            · have h := ite_t h hc
              refine ww_iconst (v := 0) C dX12_seen_85 (by decide) ?_
              refine ww_goto (tgt := 90) C dX12_seen_86 (by decide) ?_
              exact ww_iret C h dX12_seen_90
            · have h := ite_f h hc
              refine ww_iconst (v := 1) C dX12_seen_81 (by decide) ?_
              refine ww_goto (tgt := 90) C dX12_seen_82 (by decide) ?_
              exact ww_iret C h dX12_seen_90
        · have h := ite_t h hc
          refine ww_aload_n C dX12_seen_58 rfl 0 rfl ?_
          refine ww_get C inX12 rfl 20 (by decide) tb_4_56 MF_0_20 dX12_seen_59 ?_
          refine ww_iload_n C dX12_seen_62 rfl 1 rfl ?_
          obtain ⟨hin, h⟩ := h
          refine ww_iald C 0 rfl MA_16 hin dX12_seen_63 ?_
          refine ww_goto (tgt := 90) C dX12_seen_64 (by decide) ?_
          exact ww_iret C h dX12_seen_90
      · have h := ite_t h hc
        refine ww_aload_n C dX12_seen_31 rfl 0 rfl ?_
        refine ww_get C inX12 rfl 21 (by decide) tb_4_57 MF_0_21 dX12_seen_32 ?_
        refine ww_iload_n C dX12_seen_35 rfl 1 rfl ?_
        obtain ⟨hin, h⟩ := h
        refine ww_zald C 1 rfl MA_17 hin dX12_seen_36 ?_
        refine ww_if_eq (tgt := 49) C dX12_seen_37 (by decide) (fun hc => ?_) (fun hc => ?_)
        · have h := ite_t h hc
          refine ww_iconst (v := (-1)) C dX12_seen_49 (by decide) ?_
          refine ww_goto (tgt := 90) C dX12_seen_50 (by decide) ?_
          exact ww_iret C h dX12_seen_90
        · have h := ite_f h hc
          refine ww_aload_n C dX12_seen_40 rfl 0 rfl ?_
          refine ww_get C inX12 rfl 19 (by decide) tb_4_55 MF_0_19 dX12_seen_41 ?_
          refine ww_iload_n C dX12_seen_44 rfl 1 rfl ?_
          obtain ⟨hin, h⟩ := h
          refine ww_iald C 0 rfl MA_15 hin dX12_seen_45 ?_
          refine ww_goto (tgt := 90) C dX12_seen_46 (by decide) ?_
          exact ww_iret C h dX12_seen_90
    · have h := ite_t h hc
      refine ww_iconst (v := (-1)) C dX12_seen_20 (by decide) ?_
      exact ww_iret C h dX12_seen_21
theorem c_X12_seen {l : Launch} {D : va_G} {ad : Nat → Nat} {cI cZ : ClassId} {N : Nat} {x1 : Int32} {x2 : Int32} {x3 : Int32} {u : UU} {Q : Int32 → UU → Prop} (h : m_X12_seen N x1 x2 x3 u Q) : MI l D [(cI, .int), (cZ, .boolean)] EM yX12_seen (Cond.code yX12_seen cX12_seen 4 (some .int)) rm_X12_seen [.ref (ad 0), .int x1, .int x2, .int x3] (wM ad cI cZ u) (wM ad cI cZ) Q :=
  MI_of (own := RX12) (by decide) rfl (Nat.le_of_ble_eq_true rfl) rfl (fun p e s m args below meth c A C => w_X12_seen C h)
theorem hd_X12_seen : yX12_seen.cls ≠ "java/lang/invoke/MethodHandle" ∧ yX12_seen.cls ≠ "java/lang/invoke/VarHandle" ∧ (parseMethodDescriptor yX12_seen.desc).map (fun d => d.parameters.length) = some 3 := by decide +kernel
