abbrev rm_X12_must : Room := { frames := 2, cells := 0, slots := 0, locals := 40 }
set_option maxRecDepth 100000 in
theorem w_X12_must_24 {p : Program} {l : Launch} {e : Env} {s : State} {m : MethodId} {args : Array Value} {below : List Frame} {meth : Method} {c : Code} {A : Nat → Prop} {D : va_G} {ad : Nat → Nat} {cI cZ : ClassId} {N : Nat} {Q : UU → Prop} (C : Cx p m c cX12_must 2 s args RX12 meth none A D [(cI, .int), (cZ, .boolean)] EM) : ∀ {u : UU}, m_X12_must_24 N  u Q → WW p l e rm_X12_must s m args below meth c 0 0 (MQ below (QV D A (wM ad cI cZ) Q) args s 0 0 A) A D 2 24 [(0, .ref (ad 0))] [] (wM ad cI cZ u) := by
  intro  u h
  unfold m_X12_must_24 at h
  refine ww_aload_n C dX12_must_24 rfl 0 rfl ?_
  refine ww_get C inX12 rfl 43 (by decide) tb_4_79 MF_0_43 dX12_must_25 ?_
  refine ww_if_ne (tgt := 35) C dX12_must_28 (by decide) (fun hc => ?_) (fun hc => ?_)
  · have h := ite_f h hc
    exact ww_vret C h dX12_must_35
  · have h := ite_t h hc
    refine ww_aload_n C dX12_must_31 rfl 0 rfl ?_
    refine ww_callVv (As := []) (rest := []) C EM_ok (c_X12_next h) tb_5_73 tb_5_75 tbs_30 tb_1_13 tb_5_76 rfl rfl ⟨rfl, hd_X12_next⟩ ⟨Nat.le_of_ble_eq_true rfl, Nat.le_of_ble_eq_true rfl⟩ rfl MF_0_0 rfl rfl (Nat.le_of_ble_eq_true rfl) dX12_must_32 ⟨Nat.zero_le _, Nat.zero_le _⟩ (fun u_1 h => ?_)
    exact ww_vret C h dX12_must_35
set_option maxRecDepth 100000 in
theorem w_X12_must {p : Program} {l : Launch} {e : Env} {s : State} {m : MethodId} {args : Array Value} {below : List Frame} {meth : Method} {c : Code} {A : Nat → Prop} {D : va_G} {ad : Nat → Nat} {cI cZ : ClassId} {N : Nat} {Q : UU → Prop} (C : Cx p m c cX12_must 2 s args RX12 meth none A D [(cI, .int), (cZ, .boolean)] EM) : ∀ {x1 : Int32} {u : UU}, m_X12_must N x1 u Q → WW p l e rm_X12_must s m args below meth c 0 0 (MQ below (QV D A (wM ad cI cZ) Q) args s 0 0 A) A D 2 0 [(0, .ref (ad 0)), (1, .int x1)] [] (wM ad cI cZ u) := by
  intro x1 u h
  unfold m_X12_must at h
  refine ww_aload_n C dX12_must_0 rfl 0 rfl ?_
  refine ww_get C inX12 rfl 43 (by decide) tb_4_79 MF_0_43 dX12_must_1 ?_
  refine ww_if_ne (tgt := 24) C dX12_must_4 (by decide) (fun hc => ?_) (fun hc => ?_)
  · have h := ite_f h hc
    refine ww_sub [0] rfl ?_
    exact w_X12_must_24 C h
  · have h := ite_t h hc
    refine ww_iload_n C dX12_must_7 rfl 1 rfl ?_
    refine ww_if_ne (tgt := 24) C dX12_must_8 (by decide) (fun hc => ?_) (fun hc => ?_)
    · have h := ite_f h hc
      refine ww_sub [0] rfl ?_
      exact w_X12_must_24 C h
    · have h := ite_t h hc
      refine ww_aload_n C dX12_must_11 rfl 0 rfl ?_
      refine ww_iconst (v := 1) C dX12_must_12 (by decide) ?_
      obtain ⟨hnb, h⟩ := h
      refine ww_put C inX12 rfl tyX12 tyX12_ok nmX12 43 (by decide) tb_4_79 rfl hnb rfl MS_0_43 dX12_must_13 ?_
      refine ww_nU (wM ad cI cZ) (fun u_1 eu_1 => ?_)
      have h := h u_1 eu_1
      refine ww_aload_n C dX12_must_16 rfl 0 rfl ?_
      refine ww_aload_n C dX12_must_17 rfl 0 rfl ?_
      refine ww_get C inX12 rfl 38 (by decide) tb_4_74 MF_0_38 dX12_must_18 ?_
      refine ww_put C inX12 rfl tyX12 tyX12_ok nmX12 42 (by decide) tb_4_78 rfl rfl rfl MS_0_42 dX12_must_21 ?_
      refine ww_nU (wM ad cI cZ) (fun u_2 eu_2 => ?_)
      have h := h u_2 eu_2
      refine ww_sub [0] rfl ?_
      exact w_X12_must_24 C h
theorem c_X12_must {l : Launch} {D : va_G} {ad : Nat → Nat} {cI cZ : ClassId} {N : Nat} {x1 : Int32} {u : UU} {Q : UU → Prop} (h : m_X12_must N x1 u Q) : MV l D [(cI, .int), (cZ, .boolean)] EM yX12_must (Cond.code yX12_must cX12_must 2 none) rm_X12_must [.ref (ad 0), .int x1] (wM ad cI cZ u) (wM ad cI cZ) Q 0 0 :=
  MV_of (own := RX12) (by decide) rfl (Nat.le_of_ble_eq_true rfl) rfl (fun p e s m args below meth c A C => w_X12_must C h)
theorem hd_X12_must : yX12_must.cls ≠ "java/lang/invoke/MethodHandle" ∧ yX12_must.cls ≠ "java/lang/invoke/VarHandle" ∧ (parseMethodDescriptor yX12_must.desc).map (fun d => d.parameters.length) = some 1 := by decide +kernel
abbrev rm_X12_number : Room := { frames := 3, cells := 0, slots := 0, locals := 61 }
set_option maxRecDepth 100000 in
theorem w_X12_number_31 {p : Program} {l : Launch} {e : Env} {s : State} {m : MethodId} {args : Array Value} {below : List Frame} {meth : Method} {c : Code} {A : Nat → Prop} {D : va_G} {ad : Nat → Nat} {cI cZ : ClassId} {N : Nat} {Q : Int32 → UU → Prop} (C : Cx p m c cX12_number 2 s args RX12 meth (some .int) A D [(cI, .int), (cZ, .boolean)] EM) : ∀ {x1 : Int32} {y1 : Int32} {u : UU}, m_X12_number_31 N x1 y1 u Q → WW p l e rm_X12_number s m args below meth c 0 0 (MQ below (QI D A (wM ad cI cZ) Q) args s 0 0 A) A D 2 31 [(1, .int x1)] [.int y1, .ref (ad 0)] (wM ad cI cZ u) := by
  intro x1 y1 u h
  unfold m_X12_number_31 at h
  refine ww_callVv (As := [.int y1]) (rest := []) C EM_ok (c_X12_must h) tb_5_95 tb_5_97 tbs_33 tb_1_13 tb_5_98 rfl rfl ⟨rfl, hd_X12_must⟩ ⟨Nat.le_of_ble_eq_true rfl, Nat.le_of_ble_eq_true rfl⟩ rfl MF_0_0 rfl rfl (Nat.le_of_ble_eq_true rfl) dX12_number_31 ⟨Nat.zero_le _, Nat.zero_le _⟩ (fun u_1 h => ?_)
  refine ww_iload_n C dX12_number_34 rfl 0 rfl ?_
  exact ww_iret C h dX12_number_35
set_option maxRecDepth 100000 in
theorem w_X12_number_30 {p : Program} {l : Launch} {e : Env} {s : State} {m : MethodId} {args : Array Value} {below : List Frame} {meth : Method} {c : Code} {A : Nat → Prop} {D : va_G} {ad : Nat → Nat} {cI cZ : ClassId} {N : Nat} {Q : Int32 → UU → Prop} (C : Cx p m c cX12_number 2 s args RX12 meth (some .int) A D [(cI, .int), (cZ, .boolean)] EM) : ∀ {x1 : Int32} {u : UU}, m_X12_number_30 N x1 u Q → WW p l e rm_X12_number s m args below meth c 0 0 (MQ below (QI D A (wM ad cI cZ) Q) args s 0 0 A) A D 2 30 [(1, .int x1)] [.ref (ad 0)] (wM ad cI cZ u) := by
  intro x1 u h
  unfold m_X12_number_30 at h
  refine ww_iconst (v := 0) C dX12_number_30 (by decide) ?_
  exact w_X12_number_31 C h
set_option maxRecDepth 100000 in
theorem w_X12_number {p : Program} {l : Launch} {e : Env} {s : State} {m : MethodId} {args : Array Value} {below : List Frame} {meth : Method} {c : Code} {A : Nat → Prop} {D : va_G} {ad : Nat → Nat} {cI cZ : ClassId} {N : Nat} {Q : Int32 → UU → Prop} (C : Cx p m c cX12_number 2 s args RX12 meth (some .int) A D [(cI, .int), (cZ, .boolean)] EM) : ∀ {u : UU}, m_X12_number N  u Q → WW p l e rm_X12_number s m args below meth c 0 0 (MQ below (QI D A (wM ad cI cZ) Q) args s 0 0 A) A D 2 0 [(0, .ref (ad 0))] [] (wM ad cI cZ u) := by
  intro  u h
  unfold m_X12_number at h
  refine ww_aload_n C dX12_number_0 rfl 0 rfl ?_
  refine ww_get C inX12 rfl 41 (by decide) tb_4_77 MF_0_41 dX12_number_1 ?_
  refine ww_l2i C dX12_number_4 ?_
  refine ww_nI (fun z_1 ez_1 => ?_)
  have h := h z_1 ez_1
  refine ww_istore_n (i := 1) (lv' := [(1, .int z_1), (0, .ref (ad 0))]) C dX12_number_5 rfl (by decide) rfl ?_
  refine ww_aload_n C dX12_number_6 rfl 1 rfl ?_
  refine ww_aload_n C dX12_number_7 rfl 1 rfl ?_
  refine ww_get C inX12 rfl 40 (by decide) tb_4_76 MF_0_40 dX12_number_8 ?_
  refine ww_iconst (v := 2) C dX12_number_11 (by decide) ?_
  refine ww_icmp_ne (tgt := 30) C dX12_number_12 (by decide) (fun hc => ?_) (fun hc => ?_)
  · have h := ite_f h hc
    refine ww_sub [0] rfl ?_
    exact w_X12_number_30 C h
  · have h := ite_t h hc
    refine ww_aload_n C dX12_number_15 rfl 1 rfl ?_
    refine ww_get C inX12 rfl 41 (by decide) tb_4_77 MF_0_41 dX12_number_16 ?_
    refine ww_ldc2 C tb_4_222 dX12_number_19 ?_
    refine ww_lcmp C dX12_number_22 ?_
    refine ww_if_gt (tgt := 30) C dX12_number_23 (by decide) (fun hc => ?_) (fun hc => ?_)
    · have h := ite_t h hc
      refine ww_sub [0] rfl ?_
      exact w_X12_number_30 C h
    · have h := ite_f h hc
      refine ww_iconst (v := 1) C dX12_number_26 (by decide) ?_
      refine ww_goto (tgt := 31) C dX12_number_27 (by decide) ?_
      refine ww_sub [0] rfl ?_
      exact w_X12_number_31 C h
theorem c_X12_number {l : Launch} {D : va_G} {ad : Nat → Nat} {cI cZ : ClassId} {N : Nat}  {u : UU} {Q : Int32 → UU → Prop} (h : m_X12_number N  u Q) : MI l D [(cI, .int), (cZ, .boolean)] EM yX12_number (Cond.code yX12_number cX12_number 2 (some .int)) rm_X12_number [.ref (ad 0)] (wM ad cI cZ u) (wM ad cI cZ) Q :=
  MI_of (own := RX12) (by decide) rfl (Nat.le_of_ble_eq_true rfl) rfl (fun p e s m args below meth c A C => w_X12_number C h)
theorem hd_X12_number : yX12_number.cls ≠ "java/lang/invoke/MethodHandle" ∧ yX12_number.cls ≠ "java/lang/invoke/VarHandle" ∧ (parseMethodDescriptor yX12_number.desc).map (fun d => d.parameters.length) = some 0 := by decide +kernel
abbrev rm_X12_isWord : Room := { frames := 0, cells := 0, slots := 0, locals := 0 }
set_option maxRecDepth 100000 in
theorem w_X12_isWord_93 {p : Program} {l : Launch} {e : Env} {s : State} {m : MethodId} {args : Array Value} {below : List Frame} {meth : Method} {c : Code} {A : Nat → Prop} {D : va_G} {ad : Nat → Nat} {cI cZ : ClassId} {N : Nat} {Q : Int32 → UU → Prop} (C : Cx p m c cX12_isWord 8 s args RX12 meth (some .boolean) A D [(cI, .int), (cZ, .boolean)] EM) : ∀ {y0 : Int64} {u : UU}, m_X12_isWord_93 N y0 u Q → WW p l e rm_X12_isWord s m args below meth c 0 0 (MQ below (QI D A (wM ad cI cZ) Q) args s 0 0 A) A D 8 93 [(0, .ref (ad 0))] [.long y0] (wM ad cI cZ u) := by
  intro y0 u h
  unfold m_X12_isWord_93 at h
  refine ww_lstore (i := 6) (lv' := [(6, .long y0), (0, .ref (ad 0))]) C dX12_isWord_93 (by decide) rfl ?_
  refine ww_aload_n C dX12_isWord_95 rfl 1 rfl ?_
  refine ww_get C inX12 rfl 40 (by decide) tb_4_76 MF_0_40 dX12_isWord_96 ?_
  refine ww_iconst (v := 1) C dX12_isWord_99 (by decide) ?_
  refine ww_icmp_ne (tgt := 117) C dX12_isWord_100 (by decide) (fun hc => ?_) (fun hc => ?_)
  · have h := ite_f h hc
    refine ww_iconst (v := 0) C dX12_isWord_117 (by decide) ?_
    exact ww_zret C h.1 h.2 dX12_isWord_118
  · have h := ite_t h hc
    refine ww_aload_n C dX12_isWord_103 rfl 1 rfl ?_
    refine ww_get C inX12 rfl 41 (by decide) tb_4_77 MF_0_41 dX12_isWord_104 ?_
    refine ww_lload C dX12_isWord_107 0 rfl ?_
    refine ww_lcmp C dX12_isWord_109 ?_
    refine ww_if_ne (tgt := 117) C dX12_isWord_110 (by decide) (fun hc => ?_) (fun hc => ?_)
    · have h := ite_f h hc
      refine ww_iconst (v := 0) C dX12_isWord_117 (by decide) ?_
      exact ww_zret C h.1 h.2 dX12_isWord_118
    · have h := ite_t h hc
      refine ww_iconst (v := 1) C dX12_isWord_113 (by decide) ?_
      refine ww_goto (tgt := 118) C dX12_isWord_114 (by decide) ?_
      exact ww_zret C h.1 h.2 dX12_isWord_118
set_option maxRecDepth 100000 in
theorem w_X12_isWord_67 {p : Program} {l : Launch} {e : Env} {s : State} {m : MethodId} {args : Array Value} {below : List Frame} {meth : Method} {c : Code} {A : Nat → Prop} {D : va_G} {ad : Nat → Nat} {cI cZ : ClassId} {N : Nat} {Q : Int32 → UU → Prop} (C : Cx p m c cX12_isWord 8 s args RX12 meth (some .boolean) A D [(cI, .int), (cZ, .boolean)] EM) : ∀ {x5 : Int32} {y0 : Int64} {u : UU}, m_X12_isWord_67 N x5 y0 u Q → WW p l e rm_X12_isWord s m args below meth c 0 0 (MQ below (QI D A (wM ad cI cZ) Q) args s 0 0 A) A D 8 67 [(0, .ref (ad 0)), (5, .int x5)] [.long y0] (wM ad cI cZ u) := by
  intro x5 y0 u h
  unfold m_X12_isWord_67 at h
  refine ww_lstore (i := 6) (lv' := [(6, .long y0), (0, .ref (ad 0)), (5, .int x5)]) C dX12_isWord_67 (by decide) rfl ?_
  refine ww_iload C dX12_isWord_69 2 rfl ?_
  refine ww_if_ne (tgt := 79) C dX12_isWord_71 (by decide) (fun hc => ?_) (fun hc => ?_)
  · have h := ite_f h hc
    refine ww_lload C dX12_isWord_79 0 rfl ?_
    refine ww_ldc2 C tb_5_83 dX12_isWord_81 ?_
    refine ww_lmul C dX12_isWord_84 ?_
    refine ww_iload C dX12_isWord_85 2 rfl ?_
    refine ww_i2l C dX12_isWord_87 ?_
    refine ww_ladd C dX12_isWord_88 ?_
    refine ww_ldc2 C tb_5_84 dX12_isWord_89 ?_
    refine ww_lsub C dX12_isWord_92 ?_
    refine ww_sub [1] rfl ?_
    exact w_X12_isWord_93 C h
  · have h := ite_t h hc
    refine ww_lload C dX12_isWord_74 0 rfl ?_
    refine ww_goto (tgt := 93) C dX12_isWord_76 (by decide) ?_
    refine ww_sub [1] rfl ?_
    exact w_X12_isWord_93 C h
set_option maxRecDepth 100000 in
theorem w_X12_isWord_41 {p : Program} {l : Launch} {e : Env} {s : State} {m : MethodId} {args : Array Value} {below : List Frame} {meth : Method} {c : Code} {A : Nat → Prop} {D : va_G} {ad : Nat → Nat} {cI cZ : ClassId} {N : Nat} {Q : Int32 → UU → Prop} (C : Cx p m c cX12_isWord 8 s args RX12 meth (some .boolean) A D [(cI, .int), (cZ, .boolean)] EM) : ∀ {x4 : Int32} {x5 : Int32} {y0 : Int64} {u : UU}, m_X12_isWord_41 N x4 x5 y0 u Q → WW p l e rm_X12_isWord s m args below meth c 0 0 (MQ below (QI D A (wM ad cI cZ) Q) args s 0 0 A) A D 8 41 [(0, .ref (ad 0)), (4, .int x4), (5, .int x5)] [.long y0] (wM ad cI cZ u) := by
  intro x4 x5 y0 u h
  unfold m_X12_isWord_41 at h
  refine ww_lstore (i := 6) (lv' := [(6, .long y0), (0, .ref (ad 0)), (4, .int x4), (5, .int x5)]) C dX12_isWord_41 (by decide) rfl ?_
  refine ww_iload C dX12_isWord_43 2 rfl ?_
  refine ww_if_ne (tgt := 53) C dX12_isWord_45 (by decide) (fun hc => ?_) (fun hc => ?_)
  · have h := ite_f h hc
    refine ww_lload C dX12_isWord_53 0 rfl ?_
    refine ww_ldc2 C tb_5_83 dX12_isWord_55 ?_
    refine ww_lmul C dX12_isWord_58 ?_
    refine ww_iload C dX12_isWord_59 2 rfl ?_
    refine ww_i2l C dX12_isWord_61 ?_
    refine ww_ladd C dX12_isWord_62 ?_
    refine ww_ldc2 C tb_5_84 dX12_isWord_63 ?_
    refine ww_lsub C dX12_isWord_66 ?_
    refine ww_sub [1, 3] rfl ?_
    exact w_X12_isWord_67 C h
  · have h := ite_t h hc
    refine ww_lload C dX12_isWord_48 0 rfl ?_
    refine ww_goto (tgt := 67) C dX12_isWord_50 (by decide) ?_
    refine ww_sub [1, 3] rfl ?_
    exact w_X12_isWord_67 C h
set_option maxRecDepth 100000 in
theorem w_X12_isWord {p : Program} {l : Launch} {e : Env} {s : State} {m : MethodId} {args : Array Value} {below : List Frame} {meth : Method} {c : Code} {A : Nat → Prop} {D : va_G} {ad : Nat → Nat} {cI cZ : ClassId} {N : Nat} {Q : Int32 → UU → Prop} (C : Cx p m c cX12_isWord 8 s args RX12 meth (some .boolean) A D [(cI, .int), (cZ, .boolean)] EM) : ∀ {x1 : Int32} {x2 : Int32} {x3 : Int32} {x4 : Int32} {x5 : Int32} {u : UU}, m_X12_isWord N x1 x2 x3 x4 x5 u Q → WW p l e rm_X12_isWord s m args below meth c 0 0 (MQ below (QI D A (wM ad cI cZ) Q) args s 0 0 A) A D 8 0 [(0, .ref (ad 0)), (1, .int x1), (2, .int x2), (3, .int x3), (4, .int x4), (5, .int x5)] [] (wM ad cI cZ u) := by
  intro x1 x2 x3 x4 x5 u h
  unfold m_X12_isWord at h
  refine ww_iload_n C dX12_isWord_0 rfl 1 rfl ?_
  refine ww_i2l C dX12_isWord_1 ?_
  refine ww_ldc2 C tb_5_84 dX12_isWord_2 ?_
  refine ww_lsub C dX12_isWord_5 ?_
  refine ww_ldc2 C tb_5_83 dX12_isWord_6 ?_
  refine ww_lmul C dX12_isWord_9 ?_
  refine ww_iload_n C dX12_isWord_10 rfl 2 rfl ?_
  refine ww_i2l C dX12_isWord_11 ?_
  refine ww_ladd C dX12_isWord_12 ?_
  refine ww_ldc2 C tb_5_84 dX12_isWord_13 ?_
  refine ww_lsub C dX12_isWord_16 ?_
  refine ww_nL (fun z_1 ez_1 => ?_)
  have h := h z_1 ez_1
  refine ww_lstore (i := 6) (lv' := [(6, .long z_1), (0, .ref (ad 0)), (1, .int x1), (2, .int x2), (3, .int x3), (4, .int x4), (5, .int x5)]) C dX12_isWord_17 (by decide) rfl ?_
  refine ww_iload_n C dX12_isWord_19 rfl 4 rfl ?_
  refine ww_if_ne (tgt := 28) C dX12_isWord_20 (by decide) (fun hc => ?_) (fun hc => ?_)
  · have h := ite_f h hc
    refine ww_lload C dX12_isWord_28 0 rfl ?_
    refine ww_ldc2 C tb_5_83 dX12_isWord_30 ?_
    refine ww_lmul C dX12_isWord_33 ?_
    refine ww_iload_n C dX12_isWord_34 rfl 4 rfl ?_
    refine ww_i2l C dX12_isWord_35 ?_
    refine ww_ladd C dX12_isWord_36 ?_
    refine ww_ldc2 C tb_5_84 dX12_isWord_37 ?_
    refine ww_lsub C dX12_isWord_40 ?_
    refine ww_sub [1, 5, 6] rfl ?_
    exact w_X12_isWord_41 C h
  · have h := ite_t h hc
    refine ww_lload C dX12_isWord_23 0 rfl ?_
    refine ww_goto (tgt := 41) C dX12_isWord_25 (by decide) ?_
    refine ww_sub [1, 5, 6] rfl ?_
    exact w_X12_isWord_41 C h
theorem c_X12_isWord {l : Launch} {D : va_G} {ad : Nat → Nat} {cI cZ : ClassId} {N : Nat} {x1 : Int32} {x2 : Int32} {x3 : Int32} {x4 : Int32} {x5 : Int32} {u : UU} {Q : Int32 → UU → Prop} (h : m_X12_isWord N x1 x2 x3 x4 x5 u Q) : MI l D [(cI, .int), (cZ, .boolean)] EM yX12_isWord (Cond.code yX12_isWord cX12_isWord 8 (some .boolean)) rm_X12_isWord [.ref (ad 0), .int x1, .int x2, .int x3, .int x4, .int x5] (wM ad cI cZ u) (wM ad cI cZ) Q :=
  MI_of (own := RX12) (by decide) rfl (Nat.le_of_ble_eq_true rfl) rfl (fun p e s m args below meth c A C => w_X12_isWord C h)
theorem hd_X12_isWord : yX12_isWord.cls ≠ "java/lang/invoke/MethodHandle" ∧ yX12_isWord.cls ≠ "java/lang/invoke/VarHandle" ∧ (parseMethodDescriptor yX12_isWord.desc).map (fun d => d.parameters.length) = some 5 := by decide +kernel
abbrev rm_X12_readRule : Room := { frames := 4, cells := 0, slots := 0, locals := 82 }
set_option maxRecDepth 100000 in
theorem w_X12_readRule_175 {p : Program} {l : Launch} {e : Env} {s : State} {m : MethodId} {args : Array Value} {below : List Frame} {meth : Method} {c : Code} {A : Nat → Prop} {D : va_G} {ad : Nat → Nat} {cI cZ : ClassId} {N : Nat} {Q : UU → Prop} (C : Cx p m c cX12_readRule 5 s args RX12 meth none A D [(cI, .int), (cZ, .boolean)] EM) : ∀ {x1 : Int32} {x2 : Int32} {x3 : Int32} {x4 : Int32} {u : UU}, m_X12_readRule_175 N x1 x2 x3 x4 u Q → WW p l e rm_X12_readRule s m args below meth c 0 0 (MQ below (QV D A (wM ad cI cZ) Q) args s 0 0 A) A D 5 175 [(0, .ref (ad 0)), (1, .int x1), (2, .int x2), (3, .int x3), (4, .int x4)] [] (wM ad cI cZ u) := by
  intro x1 x2 x3 x4 u h
  unfold m_X12_readRule_175 at h
  refine ww_aload_n C dX12_readRule_175 rfl 0 rfl ?_
  refine ww_get C inX12 rfl 43 (by decide) tb_4_79 MF_0_43 dX12_readRule_176 ?_
  refine ww_if_eq (tgt := 183) C dX12_readRule_179 (by decide) (fun hc => ?_) (fun hc => ?_)
  · have h := ite_t h hc
    refine ww_aload_n C dX12_readRule_183 rfl 0 rfl ?_
    refine ww_get C inX12 rfl 35 (by decide) tb_4_71 MF_0_35 dX12_readRule_184 ?_
    refine ww_iconst (v := 4) C dX12_readRule_187 (by decide) ?_
    refine ww_aload_n C dX12_readRule_188 rfl 0 rfl ?_
    refine ww_get C inX12 rfl 34 (by decide) tb_4_70 MF_0_34 dX12_readRule_189 ?_
    refine ww_imul C dX12_readRule_192 ?_
    refine ww_iload_n C dX12_readRule_193 rfl 1 rfl ?_
    obtain ⟨hin, h⟩ := h
    refine ww_iast C 0 rfl MU_24 hin dX12_readRule_194 ?_
    refine ww_nU (wM ad cI cZ) (fun u_1 eu_1 => ?_)
    have h := h u_1 eu_1
    refine ww_aload_n C dX12_readRule_195 rfl 0 rfl ?_
    refine ww_get C inX12 rfl 35 (by decide) tb_4_71 MF_0_35 dX12_readRule_196 ?_
    refine ww_iconst (v := 4) C dX12_readRule_199 (by decide) ?_
    refine ww_aload_n C dX12_readRule_200 rfl 0 rfl ?_
    refine ww_get C inX12 rfl 34 (by decide) tb_4_70 MF_0_34 dX12_readRule_201 ?_
    refine ww_imul C dX12_readRule_204 ?_
    refine ww_iconst (v := 1) C dX12_readRule_205 (by decide) ?_
    refine ww_iadd C dX12_readRule_206 ?_
    refine ww_iload_n C dX12_readRule_207 rfl 2 rfl ?_
    obtain ⟨hin, h⟩ := h
    refine ww_iast C 0 rfl MU_24 hin dX12_readRule_208 ?_
    refine ww_nU (wM ad cI cZ) (fun u_2 eu_2 => ?_)
    have h := h u_2 eu_2
    refine ww_aload_n C dX12_readRule_209 rfl 0 rfl ?_
    refine ww_get C inX12 rfl 35 (by decide) tb_4_71 MF_0_35 dX12_readRule_210 ?_
    refine ww_iconst (v := 4) C dX12_readRule_213 (by decide) ?_
    refine ww_aload_n C dX12_readRule_214 rfl 0 rfl ?_
    refine ww_get C inX12 rfl 34 (by decide) tb_4_70 MF_0_34 dX12_readRule_215 ?_
    refine ww_imul C dX12_readRule_218 ?_
    refine ww_iconst (v := 2) C dX12_readRule_219 (by decide) ?_
    refine ww_iadd C dX12_readRule_220 ?_
    refine ww_iload_n C dX12_readRule_221 rfl 3 rfl ?_
    obtain ⟨hin, h⟩ := h
    refine ww_iast C 0 rfl MU_24 hin dX12_readRule_222 ?_
    refine ww_nU (wM ad cI cZ) (fun u_3 eu_3 => ?_)
    have h := h u_3 eu_3
    refine ww_aload_n C dX12_readRule_223 rfl 0 rfl ?_
    refine ww_get C inX12 rfl 35 (by decide) tb_4_71 MF_0_35 dX12_readRule_224 ?_
    refine ww_iconst (v := 4) C dX12_readRule_227 (by decide) ?_
    refine ww_aload_n C dX12_readRule_228 rfl 0 rfl ?_
    refine ww_get C inX12 rfl 34 (by decide) tb_4_70 MF_0_34 dX12_readRule_229 ?_
    refine ww_imul C dX12_readRule_232 ?_
    refine ww_iconst (v := 3) C dX12_readRule_233 (by decide) ?_
    refine ww_iadd C dX12_readRule_234 ?_
    refine ww_iload C dX12_readRule_235 4 rfl ?_
    obtain ⟨hin, h⟩ := h
    refine ww_iast C 0 rfl MU_24 hin dX12_readRule_237 ?_
    refine ww_nU (wM ad cI cZ) (fun u_4 eu_4 => ?_)
    have h := h u_4 eu_4
    refine ww_aload_n C dX12_readRule_238 rfl 0 rfl ?_
    refine ww_dup C dX12_readRule_239 rfl ?_
    refine ww_get C inX12 rfl 34 (by decide) tb_4_70 MF_0_34 dX12_readRule_240 ?_
    refine ww_iconst (v := 1) C dX12_readRule_243 (by decide) ?_
    refine ww_iadd C dX12_readRule_244 ?_
    refine ww_put C inX12 rfl tyX12 tyX12_ok nmX12 34 (by decide) tb_4_70 rfl rfl rfl MS_0_34 dX12_readRule_245 ?_
    refine ww_nU (wM ad cI cZ) (fun u_5 eu_5 => ?_)
    have h := h u_5 eu_5
    exact ww_vret C h dX12_readRule_248
  · have h := ite_f h hc
    exact ww_vret C h dX12_readRule_182
set_option maxRecDepth 100000 in
theorem w_X12_readRule_106 {p : Program} {l : Launch} {e : Env} {s : State} {m : MethodId} {args : Array Value} {below : List Frame} {meth : Method} {c : Code} {A : Nat → Prop} {D : va_G} {ad : Nat → Nat} {cI cZ : ClassId} {N : Nat} {Q : UU → Prop} (C : Cx p m c cX12_readRule 5 s args RX12 meth none A D [(cI, .int), (cZ, .boolean)] EM) : ∀ {x1 : Int32} {u : UU}, m_X12_readRule_106 N x1 u Q → WW p l e rm_X12_readRule s m args below meth c 0 0 (MQ below (QV D A (wM ad cI cZ) Q) args s 0 0 A) A D 5 106 [(0, .ref (ad 0)), (1, .int x1)] [] (wM ad cI cZ u) := by
  intro x1 u h
  unfold m_X12_readRule_106 at h
  refine ww_aload_n C dX12_readRule_106 rfl 0 rfl ?_
  refine ww_callVi (As := []) (rest := []) C EM_ok (c_X12_number h) tb_5_99 tb_5_101 tbs_34 tb_1_13 tb_5_102 rfl rfl ⟨rfl, hd_X12_number⟩ ⟨Nat.le_of_ble_eq_true rfl, Nat.le_of_ble_eq_true rfl⟩ rfl MF_0_0 rfl rfl (Nat.le_of_ble_eq_true rfl) dX12_readRule_107 ⟨Nat.zero_le _, Nat.zero_le _⟩ (fun r_2 u_1 h => ?_)
  refine ww_istore_n (i := 2) (lv' := [(2, .int r_2), (0, .ref (ad 0)), (1, .int x1)]) C dX12_readRule_110 rfl (by decide) rfl ?_
  refine ww_iconst (v := 0) C dX12_readRule_111 (by decide) ?_
  refine ww_istore_n (i := 3) (lv' := [(3, .int (0 : Int32)), (2, .int r_2), (0, .ref (ad 0)), (1, .int x1)]) C dX12_readRule_112 rfl (by decide) rfl ?_
  refine ww_iconst (v := 0) C dX12_readRule_113 (by decide) ?_
  refine ww_istore (i := 4) (lv' := [(4, .int (0 : Int32)), (3, .int (0 : Int32)), (2, .int r_2), (0, .ref (ad 0)), (1, .int x1)]) C dX12_readRule_114 (by decide) rfl ?_
  refine ww_iload_n C dX12_readRule_116 rfl 4 rfl ?_
  refine ww_if_ne (tgt := 175) C dX12_readRule_117 (by decide) (fun hc => ?_) (fun hc => ?_)
  · have h := ite_f h hc
    refine ww_sub [3, 4, 2, 1, 0] rfl ?_
    exact w_X12_readRule_175 C h
  · have h := ite_t h hc
    refine ww_aload_n C dX12_readRule_120 rfl 3 rfl ?_
    refine ww_aload_n C dX12_readRule_121 rfl 3 rfl ?_
    refine ww_bipush (v := 102) C dX12_readRule_122 (by decide) ?_
    refine ww_bipush (v := 114) C dX12_readRule_124 (by decide) ?_
    refine ww_bipush (v := 111) C dX12_readRule_126 (by decide) ?_
    refine ww_bipush (v := 109) C dX12_readRule_128 (by decide) ?_
    refine ww_iconst (v := 0) C dX12_readRule_130 (by decide) ?_
    refine ww_callVi (As := [.int (102 : Int32), .int (114 : Int32), .int (111 : Int32), .int (109 : Int32), .int (0 : Int32)]) (rest := [.ref (ad 0)]) C EM_ok (c_X12_isWord h) tb_5_91 tb_5_93 tbs_32 tb_1_13 tb_5_94 rfl rfl ⟨rfl, hd_X12_isWord⟩ ⟨Nat.le_of_ble_eq_true rfl, Nat.le_of_ble_eq_true rfl⟩ rfl MF_0_0 rfl rfl (Nat.le_of_ble_eq_true rfl) dX12_readRule_131 ⟨Nat.zero_le _, Nat.zero_le _⟩ (fun r_4 u_3 h => ?_)
    refine ww_callVv (As := [.int r_4]) (rest := []) C EM_ok (c_X12_must h) tb_5_95 tb_5_97 tbs_33 tb_1_13 tb_5_98 rfl rfl ⟨rfl, hd_X12_must⟩ ⟨Nat.le_of_ble_eq_true rfl, Nat.le_of_ble_eq_true rfl⟩ rfl MF_0_0 rfl rfl (Nat.le_of_ble_eq_true rfl) dX12_readRule_134 ⟨Nat.zero_le _, Nat.zero_le _⟩ (fun u_5 h => ?_)
    refine ww_aload_n C dX12_readRule_137 rfl 3 rfl ?_
    refine ww_callVi (As := []) (rest := []) C EM_ok (c_X12_number h) tb_5_99 tb_5_101 tbs_34 tb_1_13 tb_5_102 rfl rfl ⟨rfl, hd_X12_number⟩ ⟨Nat.le_of_ble_eq_true rfl, Nat.le_of_ble_eq_true rfl⟩ rfl MF_0_0 rfl rfl (Nat.le_of_ble_eq_true rfl) dX12_readRule_138 ⟨Nat.zero_le _, Nat.zero_le _⟩ (fun r_8 u_7 h => ?_)
    refine ww_istore_n (i := 3) (lv' := [(3, .int r_8), (4, .int (0 : Int32)), (2, .int r_2), (0, .ref (ad 0)), (1, .int x1)]) C dX12_readRule_141 rfl (by decide) rfl ?_
    refine ww_aload_n C dX12_readRule_142 rfl 3 rfl ?_
    refine ww_get C inX12 rfl 43 (by decide) tb_4_79 MF_0_43 dX12_readRule_143 ?_
    refine ww_if_ne (tgt := 175) C dX12_readRule_146 (by decide) (fun hc => ?_) (fun hc => ?_)
    · have h := ite_f h hc
      refine ww_sub [3, 4, 2, 0, 1] rfl ?_
      exact w_X12_readRule_175 C h
    · have h := ite_t h hc
      refine ww_aload_n C dX12_readRule_149 rfl 3 rfl ?_
      refine ww_bipush (v := 115) C dX12_readRule_150 (by decide) ?_
      refine ww_bipush (v := 117) C dX12_readRule_152 (by decide) ?_
      refine ww_bipush (v := 114) C dX12_readRule_154 (by decide) ?_
      refine ww_bipush (v := 101) C dX12_readRule_156 (by decide) ?_
      refine ww_iconst (v := 0) C dX12_readRule_158 (by decide) ?_
      refine ww_callVi (As := [.int (115 : Int32), .int (117 : Int32), .int (114 : Int32), .int (101 : Int32), .int (0 : Int32)]) (rest := []) C EM_ok (c_X12_isWord h) tb_5_91 tb_5_93 tbs_32 tb_1_13 tb_5_94 rfl rfl ⟨rfl, hd_X12_isWord⟩ ⟨Nat.le_of_ble_eq_true rfl, Nat.le_of_ble_eq_true rfl⟩ rfl MF_0_0 rfl rfl (Nat.le_of_ble_eq_true rfl) dX12_readRule_159 ⟨Nat.zero_le _, Nat.zero_le _⟩ (fun r_10 u_9 h => ?_)
      refine ww_if_eq (tgt := 175) C dX12_readRule_162 (by decide) (fun hc => ?_) (fun hc => ?_)
      · have h := ite_t h hc
        refine ww_sub [3, 4, 2, 0, 1] rfl ?_
        exact w_X12_readRule_175 C h
      · have h := ite_f h hc
        refine ww_aload_n C dX12_readRule_165 rfl 3 rfl ?_
        refine ww_callVv (As := []) (rest := []) C EM_ok (c_X12_next h) tb_5_73 tb_5_75 tbs_30 tb_1_13 tb_5_76 rfl rfl ⟨rfl, hd_X12_next⟩ ⟨Nat.le_of_ble_eq_true rfl, Nat.le_of_ble_eq_true rfl⟩ rfl MF_0_0 rfl rfl (Nat.le_of_ble_eq_true rfl) dX12_readRule_166 ⟨Nat.zero_le _, Nat.zero_le _⟩ (fun u_11 h => ?_)
        refine ww_aload_n C dX12_readRule_169 rfl 3 rfl ?_
        refine ww_callVi (As := []) (rest := []) C EM_ok (c_X12_number h) tb_5_99 tb_5_101 tbs_34 tb_1_13 tb_5_102 rfl rfl ⟨rfl, hd_X12_number⟩ ⟨Nat.le_of_ble_eq_true rfl, Nat.le_of_ble_eq_true rfl⟩ rfl MF_0_0 rfl rfl (Nat.le_of_ble_eq_true rfl) dX12_readRule_170 ⟨Nat.zero_le _, Nat.zero_le _⟩ (fun r_14 u_13 h => ?_)
        refine ww_istore (i := 4) (lv' := [(4, .int r_14), (3, .int r_8), (2, .int r_2), (0, .ref (ad 0)), (1, .int x1)]) C dX12_readRule_173 (by decide) rfl ?_
        refine ww_sub [3, 4, 2, 1, 0] rfl ?_
        exact w_X12_readRule_175 C h
set_option maxRecDepth 100000 in
theorem w_X12_readRule_82 {p : Program} {l : Launch} {e : Env} {s : State} {m : MethodId} {args : Array Value} {below : List Frame} {meth : Method} {c : Code} {A : Nat → Prop} {D : va_G} {ad : Nat → Nat} {cI cZ : ClassId} {N : Nat} {Q : UU → Prop} (C : Cx p m c cX12_readRule 5 s args RX12 meth none A D [(cI, .int), (cZ, .boolean)] EM) : ∀ {x1 : Int32} {y1 : Int32} {u : UU}, m_X12_readRule_82 N x1 y1 u Q → WW p l e rm_X12_readRule s m args below meth c 0 0 (MQ below (QV D A (wM ad cI cZ) Q) args s 0 0 A) A D 5 82 [(0, .ref (ad 0)), (1, .int x1)] [.int y1, .ref (ad 0)] (wM ad cI cZ u) := by
  intro x1 y1 u h
  unfold m_X12_readRule_82 at h
  refine ww_callVv (As := [.int y1]) (rest := []) C EM_ok (c_X12_must h) tb_5_95 tb_5_97 tbs_33 tb_1_13 tb_5_98 rfl rfl ⟨rfl, hd_X12_must⟩ ⟨Nat.le_of_ble_eq_true rfl, Nat.le_of_ble_eq_true rfl⟩ rfl MF_0_0 rfl rfl (Nat.le_of_ble_eq_true rfl) dX12_readRule_82 ⟨Nat.zero_le _, Nat.zero_le _⟩ (fun u_1 h => ?_)
  refine ww_iload_n C dX12_readRule_85 rfl 1 rfl ?_
  refine ww_iconst (v := 1) C dX12_readRule_86 (by decide) ?_
  refine ww_icmp_ne (tgt := 106) C dX12_readRule_87 (by decide) (fun hc => ?_) (fun hc => ?_)
  · have h := ite_f h hc
    exact w_X12_readRule_106 C h
  · have h := ite_t h hc
    refine ww_aload_n C dX12_readRule_90 rfl 0 rfl ?_
    refine ww_aload_n C dX12_readRule_91 rfl 0 rfl ?_
    refine ww_bipush (v := 111) C dX12_readRule_92 (by decide) ?_
    refine ww_bipush (v := 102) C dX12_readRule_94 (by decide) ?_
    refine ww_bipush (v := 102) C dX12_readRule_96 (by decide) ?_
    refine ww_iconst (v := 0) C dX12_readRule_98 (by decide) ?_
    refine ww_iconst (v := 0) C dX12_readRule_99 (by decide) ?_
    refine ww_callVi (As := [.int (111 : Int32), .int (102 : Int32), .int (102 : Int32), .int (0 : Int32), .int (0 : Int32)]) (rest := [.ref (ad 0)]) C EM_ok (c_X12_isWord h) tb_5_91 tb_5_93 tbs_32 tb_1_13 tb_5_94 rfl rfl ⟨rfl, hd_X12_isWord⟩ ⟨Nat.le_of_ble_eq_true rfl, Nat.le_of_ble_eq_true rfl⟩ rfl MF_0_0 rfl rfl (Nat.le_of_ble_eq_true rfl) dX12_readRule_100 ⟨Nat.zero_le _, Nat.zero_le _⟩ (fun r_4 u_3 h => ?_)
    refine ww_callVv (As := [.int r_4]) (rest := []) C EM_ok (c_X12_must h) tb_5_95 tb_5_97 tbs_33 tb_1_13 tb_5_98 rfl rfl ⟨rfl, hd_X12_must⟩ ⟨Nat.le_of_ble_eq_true rfl, Nat.le_of_ble_eq_true rfl⟩ rfl MF_0_0 rfl rfl (Nat.le_of_ble_eq_true rfl) dX12_readRule_103 ⟨Nat.zero_le _, Nat.zero_le _⟩ (fun u_5 h => ?_)
    exact w_X12_readRule_106 C h
set_option maxRecDepth 100000 in
theorem w_X12_readRule_81 {p : Program} {l : Launch} {e : Env} {s : State} {m : MethodId} {args : Array Value} {below : List Frame} {meth : Method} {c : Code} {A : Nat → Prop} {D : va_G} {ad : Nat → Nat} {cI cZ : ClassId} {N : Nat} {Q : UU → Prop} (C : Cx p m c cX12_readRule 5 s args RX12 meth none A D [(cI, .int), (cZ, .boolean)] EM) : ∀ {x1 : Int32} {u : UU}, m_X12_readRule_81 N x1 u Q → WW p l e rm_X12_readRule s m args below meth c 0 0 (MQ below (QV D A (wM ad cI cZ) Q) args s 0 0 A) A D 5 81 [(0, .ref (ad 0)), (1, .int x1)] [.ref (ad 0)] (wM ad cI cZ u) := by
  intro x1 u h
  unfold m_X12_readRule_81 at h
  refine ww_iconst (v := 0) C dX12_readRule_81 (by decide) ?_
  exact w_X12_readRule_82 C h
set_option maxRecDepth 100000 in
theorem w_X12_readRule_62 {p : Program} {l : Launch} {e : Env} {s : State} {m : MethodId} {args : Array Value} {below : List Frame} {meth : Method} {c : Code} {A : Nat → Prop} {D : va_G} {ad : Nat → Nat} {cI cZ : ClassId} {N : Nat} {Q : UU → Prop} (C : Cx p m c cX12_readRule 5 s args RX12 meth none A D [(cI, .int), (cZ, .boolean)] EM) : ∀ {y0 : Int32} {u : UU}, m_X12_readRule_62 N y0 u Q → WW p l e rm_X12_readRule s m args below meth c 0 0 (MQ below (QV D A (wM ad cI cZ) Q) args s 0 0 A) A D 5 62 [(0, .ref (ad 0))] [.int y0] (wM ad cI cZ u) := by
  intro y0 u h
  unfold m_X12_readRule_62 at h
  refine ww_istore_n (i := 1) (lv' := [(1, .int y0), (0, .ref (ad 0))]) C dX12_readRule_62 rfl (by decide) rfl ?_
  refine ww_aload_n C dX12_readRule_63 rfl 1 rfl ?_
  refine ww_iload_n C dX12_readRule_64 rfl 0 rfl ?_
  refine ww_if_lt (tgt := 81) C dX12_readRule_65 (by decide) (fun hc => ?_) (fun hc => ?_)
  · have h := ite_t h hc
    refine ww_sub [1, 0] rfl ?_
    exact w_X12_readRule_81 C h
  · have h := ite_f h hc
    refine ww_aload_n C dX12_readRule_68 rfl 1 rfl ?_
    refine ww_get C inX12 rfl 34 (by decide) tb_4_70 MF_0_34 dX12_readRule_69 ?_
    refine ww_bipush (v := 20) C dX12_readRule_72 (by decide) ?_
    refine ww_icmp_ge (tgt := 81) C dX12_readRule_74 (by decide) (fun hc => ?_) (fun hc => ?_)
    · have h := ite_t h hc
      refine ww_sub [1, 0] rfl ?_
      exact w_X12_readRule_81 C h
    · have h := ite_f h hc
      refine ww_iconst (v := 1) C dX12_readRule_77 (by decide) ?_
      refine ww_goto (tgt := 82) C dX12_readRule_78 (by decide) ?_
      refine ww_sub [1, 0] rfl ?_
      exact w_X12_readRule_82 C h
set_option maxRecDepth 100000 in
theorem w_X12_readRule {p : Program} {l : Launch} {e : Env} {s : State} {m : MethodId} {args : Array Value} {below : List Frame} {meth : Method} {c : Code} {A : Nat → Prop} {D : va_G} {ad : Nat → Nat} {cI cZ : ClassId} {N : Nat} {Q : UU → Prop} (C : Cx p m c cX12_readRule 5 s args RX12 meth none A D [(cI, .int), (cZ, .boolean)] EM) : ∀ {u : UU}, m_X12_readRule N  u Q → WW p l e rm_X12_readRule s m args below meth c 0 0 (MQ below (QV D A (wM ad cI cZ) Q) args s 0 0 A) A D 5 0 [(0, .ref (ad 0))] [] (wM ad cI cZ u) := by
  intro  u h
  unfold m_X12_readRule at h
  refine ww_aload_n C dX12_readRule_0 rfl 0 rfl ?_
  refine ww_bipush (v := 108) C dX12_readRule_1 (by decide) ?_
  refine ww_bipush (v := 111) C dX12_readRule_3 (by decide) ?_
  refine ww_bipush (v := 115) C dX12_readRule_5 (by decide) ?_
  refine ww_bipush (v := 115) C dX12_readRule_7 (by decide) ?_
  refine ww_iconst (v := 0) C dX12_readRule_9 (by decide) ?_
  refine ww_callVi (As := [.int (108 : Int32), .int (111 : Int32), .int (115 : Int32), .int (115 : Int32), .int (0 : Int32)]) (rest := []) C EM_ok (c_X12_isWord h) tb_5_91 tb_5_93 tbs_32 tb_1_13 tb_5_94 rfl rfl ⟨rfl, hd_X12_isWord⟩ ⟨Nat.le_of_ble_eq_true rfl, Nat.le_of_ble_eq_true rfl⟩ rfl MF_0_0 rfl rfl (Nat.le_of_ble_eq_true rfl) dX12_readRule_10 ⟨Nat.zero_le _, Nat.zero_le _⟩ (fun r_2 u_1 h => ?_)
  refine ww_if_eq (tgt := 20) C dX12_readRule_13 (by decide) (fun hc => ?_) (fun hc => ?_)
  · have h := ite_t h hc
    refine ww_aload_n C dX12_readRule_20 rfl 0 rfl ?_
    refine ww_bipush (v := 114) C dX12_readRule_21 (by decide) ?_
    refine ww_bipush (v := 97) C dX12_readRule_23 (by decide) ?_
    refine ww_bipush (v := 100) C dX12_readRule_25 (by decide) ?_
    refine ww_bipush (v := 97) C dX12_readRule_27 (by decide) ?_
    refine ww_bipush (v := 114) C dX12_readRule_29 (by decide) ?_
    refine ww_callVi (As := [.int (114 : Int32), .int (97 : Int32), .int (100 : Int32), .int (97 : Int32), .int (114 : Int32)]) (rest := []) C EM_ok (c_X12_isWord h) tb_5_91 tb_5_93 tbs_32 tb_1_13 tb_5_94 rfl rfl ⟨rfl, hd_X12_isWord⟩ ⟨Nat.le_of_ble_eq_true rfl, Nat.le_of_ble_eq_true rfl⟩ rfl MF_0_0 rfl rfl (Nat.le_of_ble_eq_true rfl) dX12_readRule_31 ⟨Nat.zero_le _, Nat.zero_le _⟩ (fun r_4 u_3 h => ?_)
    refine ww_if_eq (tgt := 41) C dX12_readRule_34 (by decide) (fun hc => ?_) (fun hc => ?_)
    · have h := ite_t h hc
      refine ww_aload_n C dX12_readRule_41 rfl 0 rfl ?_
      refine ww_bipush (v := 98) C dX12_readRule_42 (by decide) ?_
      refine ww_bipush (v := 101) C dX12_readRule_44 (by decide) ?_
      refine ww_bipush (v := 97) C dX12_readRule_46 (by decide) ?_
      refine ww_bipush (v := 114) C dX12_readRule_48 (by decide) ?_
      refine ww_iconst (v := 0) C dX12_readRule_50 (by decide) ?_
      refine ww_callVi (As := [.int (98 : Int32), .int (101 : Int32), .int (97 : Int32), .int (114 : Int32), .int (0 : Int32)]) (rest := []) C EM_ok (c_X12_isWord h) tb_5_91 tb_5_93 tbs_32 tb_1_13 tb_5_94 rfl rfl ⟨rfl, hd_X12_isWord⟩ ⟨Nat.le_of_ble_eq_true rfl, Nat.le_of_ble_eq_true rfl⟩ rfl MF_0_0 rfl rfl (Nat.le_of_ble_eq_true rfl) dX12_readRule_51 ⟨Nat.zero_le _, Nat.zero_le _⟩ (fun r_6 u_5 h => ?_)
      refine ww_if_eq (tgt := 61) C dX12_readRule_54 (by decide) (fun hc => ?_) (fun hc => ?_)
      · have h := ite_t h hc
        refine ww_iconst (v := (-1)) C dX12_readRule_61 (by decide) ?_
        exact w_X12_readRule_62 C h
      · have h := ite_f h hc
        refine ww_iconst (v := 2) C dX12_readRule_57 (by decide) ?_
        refine ww_goto (tgt := 62) C dX12_readRule_58 (by decide) ?_
        exact w_X12_readRule_62 C h
    · have h := ite_f h hc
      refine ww_iconst (v := 1) C dX12_readRule_37 (by decide) ?_
      refine ww_goto (tgt := 62) C dX12_readRule_38 (by decide) ?_
      exact w_X12_readRule_62 C h
  · have h := ite_f h hc
    refine ww_iconst (v := 0) C dX12_readRule_16 (by decide) ?_
    refine ww_goto (tgt := 62) C dX12_readRule_17 (by decide) ?_
    exact w_X12_readRule_62 C h
theorem c_X12_readRule {l : Launch} {D : va_G} {ad : Nat → Nat} {cI cZ : ClassId} {N : Nat}  {u : UU} {Q : UU → Prop} (h : m_X12_readRule N  u Q) : MV l D [(cI, .int), (cZ, .boolean)] EM yX12_readRule (Cond.code yX12_readRule cX12_readRule 5 none) rm_X12_readRule [.ref (ad 0)] (wM ad cI cZ u) (wM ad cI cZ) Q 0 0 :=
  MV_of (own := RX12) (by decide) rfl (Nat.le_of_ble_eq_true rfl) rfl (fun p e s m args below meth c A C => w_X12_readRule C h)
theorem hd_X12_readRule : yX12_readRule.cls ≠ "java/lang/invoke/MethodHandle" ∧ yX12_readRule.cls ≠ "java/lang/invoke/VarHandle" ∧ (parseMethodDescriptor yX12_readRule.desc).map (fun d => d.parameters.length) = some 0 := by decide +kernel
abbrev rm_X12_rules : Room := { frames := 5, cells := 0, slots := 0, locals := 106 }
set_option maxRecDepth 100000 in
theorem w_X12_rules_125 {p : Program} {l : Launch} {e : Env} {s : State} {m : MethodId} {args : Array Value} {below : List Frame} {meth : Method} {c : Code} {A : Nat → Prop} {D : va_G} {ad : Nat → Nat} {cI cZ : ClassId} {N : Nat} {Q : Int32 → UU → Prop} (C : Cx p m c cX12_rules 2 s args RX12 meth (some .int) A D [(cI, .int), (cZ, .boolean)] EM) : ∀ (n : Nat) (x1 : Int32) (u : UU), m_X12_rules_125 N Q n x1 u → WW p l e rm_X12_rules s m args below meth c 0 0 (MQ below (QI D A (wM ad cI cZ) Q) args s 0 0 A) A D 2 125 [(0, .ref (ad 0)), (1, .int x1)] [] (wM ad cI cZ u) := by
  intro n
  induction n with
  | zero => intro x1 u h; rw [m_X12_rules_125] at h; exact h.elim
  | succ n ih =>
    intro x1 u h
    rw [m_X12_rules_125] at h
    refine ww_iload_n C dX12_rules_125 rfl 1 rfl ?_
    refine ww_aload_n C dX12_rules_126 rfl 0 rfl ?_
    refine ww_get C inX12 rfl 29 (by decide) tb_4_65 MF_0_29 dX12_rules_127 ?_
    refine ww_icmp_ge (tgt := 201) C dX12_rules_130 (by decide) (fun hc => ?_) (fun hc => ?_)
    · have h := ite_t h hc
      refine ww_aload_n C dX12_rules_201 rfl 0 rfl ?_
      refine ww_aload_n C dX12_rules_202 rfl 0 rfl ?_
      refine ww_get C inX12 rfl 29 (by decide) tb_4_65 MF_0_29 dX12_rules_203 ?_
      refine ww_callVi (As := [.int (u.1 10)]) (rest := []) C EM_ok (c_X12_told h) tb_4_195 tb_4_197 tbs_18 tb_1_13 tb_4_198 rfl rfl ⟨rfl, hd_X12_told⟩ ⟨Nat.le_of_ble_eq_true rfl, Nat.le_of_ble_eq_true rfl⟩ rfl MF_0_0 rfl rfl (Nat.le_of_ble_eq_true rfl) dX12_rules_206 ⟨Nat.zero_le _, Nat.zero_le _⟩ (fun r_2 u_1 h => ?_)
      exact ww_iret C h dX12_rules_209
    · have h := ite_f h hc
      refine ww_aload_n C dX12_rules_133 rfl 0 rfl ?_
      refine ww_get C inX12 rfl 30 (by decide) tb_4_66 MF_0_30 dX12_rules_134 ?_
      refine ww_iload_n C dX12_rules_137 rfl 1 rfl ?_
      refine ww_aload_n C dX12_rules_138 rfl 0 rfl ?_
      refine ww_get C inX12 rfl 35 (by decide) tb_4_71 MF_0_35 dX12_rules_139 ?_
      refine ww_iconst (v := 4) C dX12_rules_142 (by decide) ?_
      refine ww_iload_n C dX12_rules_143 rfl 1 rfl ?_
      refine ww_imul C dX12_rules_144 ?_
      obtain ⟨hin, h⟩ := h
      refine ww_iald C 0 rfl MA_24 hin dX12_rules_145 ?_
      obtain ⟨hin, h⟩ := h
      refine ww_iast C 0 rfl MU_20 hin dX12_rules_146 ?_
      refine ww_nU (wM ad cI cZ) (fun u_3 eu_3 => ?_)
      have h := h u_3 eu_3
      refine ww_aload_n C dX12_rules_147 rfl 0 rfl ?_
      refine ww_get C inX12 rfl 31 (by decide) tb_4_67 MF_0_31 dX12_rules_148 ?_
      refine ww_iload_n C dX12_rules_151 rfl 1 rfl ?_
      refine ww_aload_n C dX12_rules_152 rfl 0 rfl ?_
      refine ww_get C inX12 rfl 35 (by decide) tb_4_71 MF_0_35 dX12_rules_153 ?_
      refine ww_iconst (v := 4) C dX12_rules_156 (by decide) ?_
      refine ww_iload_n C dX12_rules_157 rfl 1 rfl ?_
      refine ww_imul C dX12_rules_158 ?_
      refine ww_iconst (v := 1) C dX12_rules_159 (by decide) ?_
      refine ww_iadd C dX12_rules_160 ?_
      obtain ⟨hin, h⟩ := h
      refine ww_iald C 0 rfl MA_24 hin dX12_rules_161 ?_
      obtain ⟨hin, h⟩ := h
      refine ww_iast C 0 rfl MU_21 hin dX12_rules_162 ?_
      refine ww_nU (wM ad cI cZ) (fun u_4 eu_4 => ?_)
      have h := h u_4 eu_4
      refine ww_aload_n C dX12_rules_163 rfl 0 rfl ?_
      refine ww_get C inX12 rfl 32 (by decide) tb_4_68 MF_0_32 dX12_rules_164 ?_
      refine ww_iload_n C dX12_rules_167 rfl 1 rfl ?_
      refine ww_aload_n C dX12_rules_168 rfl 0 rfl ?_
      refine ww_get C inX12 rfl 35 (by decide) tb_4_71 MF_0_35 dX12_rules_169 ?_
      refine ww_iconst (v := 4) C dX12_rules_172 (by decide) ?_
      refine ww_iload_n C dX12_rules_173 rfl 1 rfl ?_
      refine ww_imul C dX12_rules_174 ?_
      refine ww_iconst (v := 2) C dX12_rules_175 (by decide) ?_
      refine ww_iadd C dX12_rules_176 ?_
      obtain ⟨hin, h⟩ := h
      refine ww_iald C 0 rfl MA_24 hin dX12_rules_177 ?_
      obtain ⟨hin, h⟩ := h
      refine ww_iast C 0 rfl MU_22 hin dX12_rules_178 ?_
      refine ww_nU (wM ad cI cZ) (fun u_5 eu_5 => ?_)
      have h := h u_5 eu_5
      refine ww_aload_n C dX12_rules_179 rfl 0 rfl ?_
      refine ww_get C inX12 rfl 33 (by decide) tb_4_69 MF_0_33 dX12_rules_180 ?_
      refine ww_iload_n C dX12_rules_183 rfl 1 rfl ?_
      refine ww_aload_n C dX12_rules_184 rfl 0 rfl ?_
      refine ww_get C inX12 rfl 35 (by decide) tb_4_71 MF_0_35 dX12_rules_185 ?_
      refine ww_iconst (v := 4) C dX12_rules_188 (by decide) ?_
      refine ww_iload_n C dX12_rules_189 rfl 1 rfl ?_
      refine ww_imul C dX12_rules_190 ?_
      refine ww_iconst (v := 3) C dX12_rules_191 (by decide) ?_
      refine ww_iadd C dX12_rules_192 ?_
      obtain ⟨hin, h⟩ := h
      refine ww_iald C 0 rfl MA_24 hin dX12_rules_193 ?_
      obtain ⟨hin, h⟩ := h
      refine ww_iast C 0 rfl MU_23 hin dX12_rules_194 ?_
      refine ww_nU (wM ad cI cZ) (fun u_6 eu_6 => ?_)
      have h := h u_6 eu_6
      obtain ⟨z_7, ez_7⟩ : ∃ z_7 : Int32, z_7 = x1 + (1 : Int32) := ⟨_, rfl⟩
      have h := h z_7 ez_7
      refine ww_iinc (i := 1) (j := 1) (v := z_7) (lv' := [(1, .int z_7), (0, .ref (ad 0))]) C dX12_rules_195 rfl (by rw [ez_7]; rfl) (by decide) rfl ?_
      refine ww_goto (tgt := 125) C dX12_rules_198 (by decide) ?_
      refine ww_sub [1, 0] rfl ?_
      exact ih _ _ h
set_option maxRecDepth 100000 in
theorem w_X12_rules_96 {p : Program} {l : Launch} {e : Env} {s : State} {m : MethodId} {args : Array Value} {below : List Frame} {meth : Method} {c : Code} {A : Nat → Prop} {D : va_G} {ad : Nat → Nat} {cI cZ : ClassId} {N : Nat} {Q : Int32 → UU → Prop} (C : Cx p m c cX12_rules 2 s args RX12 meth (some .int) A D [(cI, .int), (cZ, .boolean)] EM) : ∀ {u : UU}, m_X12_rules_96 N  u Q → WW p l e rm_X12_rules s m args below meth c 0 0 (MQ below (QI D A (wM ad cI cZ) Q) args s 0 0 A) A D 2 96 [(0, .ref (ad 0))] [] (wM ad cI cZ u) := by
  intro  u h
  unfold m_X12_rules_96 at h
  refine ww_aload_n C dX12_rules_96 rfl 0 rfl ?_
  refine ww_iconst (v := 0) C dX12_rules_97 (by decide) ?_
  refine ww_put C inX12 rfl tyX12 tyX12_ok nmX12 37 (by decide) tb_4_73 rfl rfl rfl MS_0_37 dX12_rules_98 ?_
  refine ww_nU (wM ad cI cZ) (fun u_1 eu_1 => ?_)
  have h := h u_1 eu_1
  refine ww_aload_n C dX12_rules_101 rfl 0 rfl ?_
  refine ww_get C inX12 rfl 43 (by decide) tb_4_79 MF_0_43 dX12_rules_102 ?_
  refine ww_if_eq (tgt := 115) C dX12_rules_105 (by decide) (fun hc => ?_) (fun hc => ?_)
  · have h := ite_t h hc
    refine ww_aload_n C dX12_rules_115 rfl 0 rfl ?_
    refine ww_aload_n C dX12_rules_116 rfl 0 rfl ?_
    refine ww_get C inX12 rfl 34 (by decide) tb_4_70 MF_0_34 dX12_rules_117 ?_
    refine ww_put C inX12 rfl tyX12 tyX12_ok nmX12 29 (by decide) tb_4_65 rfl rfl rfl MS_0_29 dX12_rules_120 ?_
    refine ww_nU (wM ad cI cZ) (fun u_2 eu_2 => ?_)
    have h := h u_2 eu_2
    refine ww_iconst (v := 0) C dX12_rules_123 (by decide) ?_
    refine ww_istore_n (i := 1) (lv' := [(1, .int (0 : Int32)), (0, .ref (ad 0))]) C dX12_rules_124 rfl (by decide) rfl ?_
    refine ww_sub [1, 0] rfl ?_
    exact w_X12_rules_125 C N _ _ h
  · have h := ite_f h hc
    refine ww_aload_n C dX12_rules_108 rfl 0 rfl ?_
    refine ww_bipush (v := (-6)) C dX12_rules_109 (by decide) ?_
    refine ww_callVi (As := [.int ((-6) : Int32)]) (rest := []) C EM_ok (c_X12_told h) tb_4_195 tb_4_197 tbs_18 tb_1_13 tb_4_198 rfl rfl ⟨rfl, hd_X12_told⟩ ⟨Nat.le_of_ble_eq_true rfl, Nat.le_of_ble_eq_true rfl⟩ rfl MF_0_0 rfl rfl (Nat.le_of_ble_eq_true rfl) dX12_rules_111 ⟨Nat.zero_le _, Nat.zero_le _⟩ (fun r_4 u_3 h => ?_)
    exact ww_iret C h dX12_rules_114
set_option maxRecDepth 100000 in
theorem w_X12_rules_77 {p : Program} {l : Launch} {e : Env} {s : State} {m : MethodId} {args : Array Value} {below : List Frame} {meth : Method} {c : Code} {A : Nat → Prop} {D : va_G} {ad : Nat → Nat} {cI cZ : ClassId} {N : Nat} {Q : Int32 → UU → Prop} (C : Cx p m c cX12_rules 2 s args RX12 meth (some .int) A D [(cI, .int), (cZ, .boolean)] EM) : ∀ {u : UU}, m_X12_rules_77 N  u Q → WW p l e rm_X12_rules s m args below meth c 0 0 (MQ below (QI D A (wM ad cI cZ) Q) args s 0 0 A) A D 2 77 [(0, .ref (ad 0))] [] (wM ad cI cZ u) := by
  intro  u h
  unfold m_X12_rules_77 at h
  refine ww_aload_n C dX12_rules_77 rfl 0 rfl ?_
  refine ww_get C inX12 rfl 43 (by decide) tb_4_79 MF_0_43 dX12_rules_78 ?_
  refine ww_if_ne (tgt := 96) C dX12_rules_81 (by decide) (fun hc => ?_) (fun hc => ?_)
  · have h := ite_f h hc
    exact w_X12_rules_96 C h
  · have h := ite_t h hc
    refine ww_aload_n C dX12_rules_84 rfl 0 rfl ?_
    refine ww_get C inX12 rfl 40 (by decide) tb_4_76 MF_0_40 dX12_rules_85 ?_
    refine ww_if_eq (tgt := 96) C dX12_rules_88 (by decide) (fun hc => ?_) (fun hc => ?_)
    · have h := ite_t h hc
      exact w_X12_rules_96 C h
    · have h := ite_f h hc
      refine ww_aload_n C dX12_rules_91 rfl 0 rfl ?_
      refine ww_iconst (v := 0) C dX12_rules_92 (by decide) ?_
      refine ww_callVv (As := [.int (0 : Int32)]) (rest := []) C EM_ok (c_X12_must h) tb_5_95 tb_5_97 tbs_33 tb_1_13 tb_5_98 rfl rfl ⟨rfl, hd_X12_must⟩ ⟨Nat.le_of_ble_eq_true rfl, Nat.le_of_ble_eq_true rfl⟩ rfl MF_0_0 rfl rfl (Nat.le_of_ble_eq_true rfl) dX12_rules_93 ⟨Nat.zero_le _, Nat.zero_le _⟩ (fun u_1 h => ?_)
      exact w_X12_rules_96 C h
set_option maxRecDepth 100000 in
theorem w_X12_rules_40 {p : Program} {l : Launch} {e : Env} {s : State} {m : MethodId} {args : Array Value} {below : List Frame} {meth : Method} {c : Code} {A : Nat → Prop} {D : va_G} {ad : Nat → Nat} {cI cZ : ClassId} {N : Nat} {Q : Int32 → UU → Prop} (C : Cx p m c cX12_rules 2 s args RX12 meth (some .int) A D [(cI, .int), (cZ, .boolean)] EM) : ∀ (n : Nat) (u : UU), m_X12_rules_40 N Q n  u → WW p l e rm_X12_rules s m args below meth c 0 0 (MQ below (QI D A (wM ad cI cZ) Q) args s 0 0 A) A D 2 40 [(0, .ref (ad 0))] [] (wM ad cI cZ u) := by
  intro n
  induction n with
  | zero => intro  u h; rw [m_X12_rules_40] at h; exact h.elim
  | succ n ih =>
    intro  u h
    rw [m_X12_rules_40] at h
    refine ww_aload_n C dX12_rules_40 rfl 0 rfl ?_
    refine ww_get C inX12 rfl 43 (by decide) tb_4_79 MF_0_43 dX12_rules_41 ?_
    refine ww_if_ne (tgt := 77) C dX12_rules_44 (by decide) (fun hc => ?_) (fun hc => ?_)
    · have h := ite_f h hc
      exact w_X12_rules_77 C h
    · have h := ite_t h hc
      refine ww_aload_n C dX12_rules_47 rfl 0 rfl ?_
      refine ww_get C inX12 rfl 40 (by decide) tb_4_76 MF_0_40 dX12_rules_48 ?_
      refine ww_iconst (v := 3) C dX12_rules_51 (by decide) ?_
      refine ww_icmp_ne (tgt := 77) C dX12_rules_52 (by decide) (fun hc => ?_) (fun hc => ?_)
      · have h := ite_f h hc
        exact w_X12_rules_77 C h
      · have h := ite_t h hc
        refine ww_aload_n C dX12_rules_55 rfl 0 rfl ?_
        refine ww_get C inX12 rfl 41 (by decide) tb_4_77 MF_0_41 dX12_rules_56 ?_
        refine ww_ldc2 C tb_5_103 dX12_rules_59 ?_
        refine ww_lcmp C dX12_rules_62 ?_
        refine ww_if_ne (tgt := 77) C dX12_rules_63 (by decide) (fun hc => ?_) (fun hc => ?_)
        · have h := ite_f h hc
          exact w_X12_rules_77 C h
        · have h := ite_t h hc
          refine ww_aload_n C dX12_rules_66 rfl 0 rfl ?_
          refine ww_callVv (As := []) (rest := []) C EM_ok (c_X12_next h) tb_5_73 tb_5_75 tbs_30 tb_1_13 tb_5_76 rfl rfl ⟨rfl, hd_X12_next⟩ ⟨Nat.le_of_ble_eq_true rfl, Nat.le_of_ble_eq_true rfl⟩ rfl MF_0_0 rfl rfl (Nat.le_of_ble_eq_true rfl) dX12_rules_67 ⟨Nat.zero_le _, Nat.zero_le _⟩ (fun u_1 h => ?_)
          refine ww_aload_n C dX12_rules_70 rfl 0 rfl ?_
          refine ww_callVv (As := []) (rest := []) C EM_ok (c_X12_readRule h) tb_5_87 tb_5_89 tbs_31 tb_1_13 tb_5_90 rfl rfl ⟨rfl, hd_X12_readRule⟩ ⟨Nat.le_of_ble_eq_true rfl, Nat.le_of_ble_eq_true rfl⟩ rfl MF_0_0 rfl rfl (Nat.le_of_ble_eq_true rfl) dX12_rules_71 ⟨Nat.zero_le _, Nat.zero_le _⟩ (fun u_3 h => ?_)
          refine ww_goto (tgt := 40) C dX12_rules_74 (by decide) ?_
          exact ih _ h
set_option maxRecDepth 100000 in
theorem w_X12_rules {p : Program} {l : Launch} {e : Env} {s : State} {m : MethodId} {args : Array Value} {below : List Frame} {meth : Method} {c : Code} {A : Nat → Prop} {D : va_G} {ad : Nat → Nat} {cI cZ : ClassId} {N : Nat} {Q : Int32 → UU → Prop} (C : Cx p m c cX12_rules 2 s args RX12 meth (some .int) A D [(cI, .int), (cZ, .boolean)] EM) : ∀ {u : UU}, m_X12_rules N  u Q → WW p l e rm_X12_rules s m args below meth c 0 0 (MQ below (QI D A (wM ad cI cZ) Q) args s 0 0 A) A D 2 0 [(0, .ref (ad 0))] [] (wM ad cI cZ u) := by
  intro  u h
  unfold m_X12_rules at h
  refine ww_aload_n C dX12_rules_0 rfl 0 rfl ?_
  refine ww_iconst (v := 0) C dX12_rules_1 (by decide) ?_
  refine ww_put C inX12 rfl tyX12 tyX12_ok nmX12 0 (by decide) tb_4_36 rfl rfl rfl MS_0_0 dX12_rules_2 ?_
  refine ww_nU (wM ad cI cZ) (fun u_1 eu_1 => ?_)
  have h := h u_1 eu_1
  refine ww_aload_n C dX12_rules_5 rfl 0 rfl ?_
  refine ww_iconst (v := 0) C dX12_rules_6 (by decide) ?_
  refine ww_put C inX12 rfl tyX12 tyX12_ok nmX12 39 (by decide) tb_4_75 rfl rfl rfl MS_0_39 dX12_rules_7 ?_
  refine ww_nU (wM ad cI cZ) (fun u_2 eu_2 => ?_)
  have h := h u_2 eu_2
  refine ww_aload_n C dX12_rules_10 rfl 0 rfl ?_
  refine ww_iconst (v := 0) C dX12_rules_11 (by decide) ?_
  obtain ⟨hnb, h⟩ := h
  refine ww_put C inX12 rfl tyX12 tyX12_ok nmX12 43 (by decide) tb_4_79 rfl hnb rfl MS_0_43 dX12_rules_12 ?_
  refine ww_nU (wM ad cI cZ) (fun u_3 eu_3 => ?_)
  have h := h u_3 eu_3
  refine ww_aload_n C dX12_rules_15 rfl 0 rfl ?_
  refine ww_iconst (v := (-1)) C dX12_rules_16 (by decide) ?_
  refine ww_put C inX12 rfl tyX12 tyX12_ok nmX12 42 (by decide) tb_4_78 rfl rfl rfl MS_0_42 dX12_rules_17 ?_
  refine ww_nU (wM ad cI cZ) (fun u_4 eu_4 => ?_)
  have h := h u_4 eu_4
  refine ww_aload_n C dX12_rules_20 rfl 0 rfl ?_
  refine ww_iconst (v := 0) C dX12_rules_21 (by decide) ?_
  refine ww_put C inX12 rfl tyX12 tyX12_ok nmX12 34 (by decide) tb_4_70 rfl rfl rfl MS_0_34 dX12_rules_22 ?_
  refine ww_nU (wM ad cI cZ) (fun u_5 eu_5 => ?_)
  have h := h u_5 eu_5
  refine ww_aload_n C dX12_rules_25 rfl 0 rfl ?_
  refine ww_callVv (As := []) (rest := []) C EM_ok (c_X12_next h) tb_5_73 tb_5_75 tbs_30 tb_1_13 tb_5_76 rfl rfl ⟨rfl, hd_X12_next⟩ ⟨Nat.le_of_ble_eq_true rfl, Nat.le_of_ble_eq_true rfl⟩ rfl MF_0_0 rfl rfl (Nat.le_of_ble_eq_true rfl) dX12_rules_26 ⟨Nat.zero_le _, Nat.zero_le _⟩ (fun u_6 h => ?_)
  refine ww_aload_n C dX12_rules_29 rfl 0 rfl ?_
  refine ww_get C inX12 rfl 40 (by decide) tb_4_76 MF_0_40 dX12_rules_30 ?_
  refine ww_if_eq (tgt := 96) C dX12_rules_33 (by decide) (fun hc => ?_) (fun hc => ?_)
  · have h := ite_t h hc
    exact w_X12_rules_96 C h
  · have h := ite_f h hc
    refine ww_aload_n C dX12_rules_36 rfl 0 rfl ?_
    refine ww_callVv (As := []) (rest := []) C EM_ok (c_X12_readRule h) tb_5_87 tb_5_89 tbs_31 tb_1_13 tb_5_90 rfl rfl ⟨rfl, hd_X12_readRule⟩ ⟨Nat.le_of_ble_eq_true rfl, Nat.le_of_ble_eq_true rfl⟩ rfl MF_0_0 rfl rfl (Nat.le_of_ble_eq_true rfl) dX12_rules_37 ⟨Nat.zero_le _, Nat.zero_le _⟩ (fun u_8 h => ?_)
    exact w_X12_rules_40 C N _ h
theorem c_X12_rules {l : Launch} {D : va_G} {ad : Nat → Nat} {cI cZ : ClassId} {N : Nat}  {u : UU} {Q : Int32 → UU → Prop} (h : m_X12_rules N  u Q) : MI l D [(cI, .int), (cZ, .boolean)] EM yX12_rules (Cond.code yX12_rules cX12_rules 2 (some .int)) rm_X12_rules [.ref (ad 0)] (wM ad cI cZ u) (wM ad cI cZ) Q :=
  MI_of (own := RX12) (by decide) rfl (Nat.le_of_ble_eq_true rfl) rfl (fun p e s m args below meth c A C => w_X12_rules C h)
theorem hd_X12_rules : yX12_rules.cls ≠ "java/lang/invoke/MethodHandle" ∧ yX12_rules.cls ≠ "java/lang/invoke/VarHandle" ∧ (parseMethodDescriptor yX12_rules.desc).map (fun d => d.parameters.length) = some 0 := by decide +kernel
abbrev rm_X12_fault : Room := { frames := 0, cells := 0, slots := 0, locals := 0 }
set_option maxRecDepth 100000 in
theorem w_X12_fault {p : Program} {l : Launch} {e : Env} {s : State} {m : MethodId} {args : Array Value} {below : List Frame} {meth : Method} {c : Code} {A : Nat → Prop} {D : va_G} {ad : Nat → Nat} {cI cZ : ClassId} {N : Nat} {Q : Int32 → UU → Prop} (C : Cx p m c cX12_fault 1 s args RX12 meth (some .int) A D [(cI, .int), (cZ, .boolean)] EM) : ∀ {u : UU}, m_X12_fault N  u Q → WW p l e rm_X12_fault s m args below meth c 0 0 (MQ below (QI D A (wM ad cI cZ) Q) args s 0 0 A) A D 1 0 [(0, .ref (ad 0))] [] (wM ad cI cZ u) := by
  intro  u h
  unfold m_X12_fault at h
  refine ww_aload_n C dX12_fault_0 rfl 0 rfl ?_
  refine ww_iconst (v := 0) C dX12_fault_1 (by decide) ?_
  refine ww_put C inX12 rfl tyX12 tyX12_ok nmX12 0 (by decide) tb_4_36 rfl rfl rfl MS_0_0 dX12_fault_2 ?_
  refine ww_nU (wM ad cI cZ) (fun u_1 eu_1 => ?_)
  have h := h u_1 eu_1
  refine ww_aload_n C dX12_fault_5 rfl 0 rfl ?_
  refine ww_get C inX12 rfl 42 (by decide) tb_4_78 MF_0_42 dX12_fault_6 ?_
  exact ww_iret C h dX12_fault_9
theorem c_X12_fault {l : Launch} {D : va_G} {ad : Nat → Nat} {cI cZ : ClassId} {N : Nat}  {u : UU} {Q : Int32 → UU → Prop} (h : m_X12_fault N  u Q) : MI l D [(cI, .int), (cZ, .boolean)] EM yX12_fault (Cond.code yX12_fault cX12_fault 1 (some .int)) rm_X12_fault [.ref (ad 0)] (wM ad cI cZ u) (wM ad cI cZ) Q :=
  MI_of (own := RX12) (by decide) rfl (Nat.le_of_ble_eq_true rfl) rfl (fun p e s m args below meth c A C => w_X12_fault C h)
theorem hd_X12_fault : yX12_fault.cls ≠ "java/lang/invoke/MethodHandle" ∧ yX12_fault.cls ≠ "java/lang/invoke/VarHandle" ∧ (parseMethodDescriptor yX12_fault.desc).map (fun d => d.parameters.length) = some 0 := by decide +kernel
abbrev rm_X12_claim : Room := { frames := 2, cells := 0, slots := 0, locals := 45 }
set_option maxRecDepth 100000 in
theorem w_X12_claim_44 {p : Program} {l : Launch} {e : Env} {s : State} {m : MethodId} {args : Array Value} {below : List Frame} {meth : Method} {c : Code} {A : Nat → Prop} {D : va_G} {ad : Nat → Nat} {cI cZ : ClassId} {N : Nat} {Q : Int32 → UU → Prop} (C : Cx p m c cX12_claim 5 s args RX12 meth (some .int) A D [(cI, .int), (cZ, .boolean)] EM) : ∀ {u : UU}, m_X12_claim_44 N  u Q → WW p l e rm_X12_claim s m args below meth c 0 0 (MQ below (QI D A (wM ad cI cZ) Q) args s 0 0 A) A D 5 44 [(0, .ref (ad 0))] [] (wM ad cI cZ u) := by
  intro  u h
  unfold m_X12_claim_44 at h
  refine ww_aload_n C dX12_claim_44 rfl 0 rfl ?_
  refine ww_iconst (v := (-1)) C dX12_claim_45 (by decide) ?_
  refine ww_callVi (As := [.int ((-1) : Int32)]) (rest := []) C EM_ok (c_X12_told h) tb_4_195 tb_4_197 tbs_18 tb_1_13 tb_4_198 rfl rfl ⟨rfl, hd_X12_told⟩ ⟨Nat.le_of_ble_eq_true rfl, Nat.le_of_ble_eq_true rfl⟩ rfl MF_0_0 rfl rfl (Nat.le_of_ble_eq_true rfl) dX12_claim_46 ⟨Nat.zero_le _, Nat.zero_le _⟩ (fun r_2 u_1 h => ?_)
  exact ww_iret C h dX12_claim_49
set_option maxRecDepth 100000 in
theorem w_X12_claim {p : Program} {l : Launch} {e : Env} {s : State} {m : MethodId} {args : Array Value} {below : List Frame} {meth : Method} {c : Code} {A : Nat → Prop} {D : va_G} {ad : Nat → Nat} {cI cZ : ClassId} {N : Nat} {Q : Int32 → UU → Prop} (C : Cx p m c cX12_claim 5 s args RX12 meth (some .int) A D [(cI, .int), (cZ, .boolean)] EM) : ∀ {x1 : Int32} {x2 : Int32} {x3 : Int32} {x4 : Int32} {u : UU}, m_X12_claim N x1 x2 x3 x4 u Q → WW p l e rm_X12_claim s m args below meth c 0 0 (MQ below (QI D A (wM ad cI cZ) Q) args s 0 0 A) A D 5 0 [(0, .ref (ad 0)), (1, .int x1), (2, .int x2), (3, .int x3), (4, .int x4)] [] (wM ad cI cZ u) := by
  intro x1 x2 x3 x4 u h
  unfold m_X12_claim at h
  refine ww_aload_n C dX12_claim_0 rfl 0 rfl ?_
  refine ww_iconst (v := 0) C dX12_claim_1 (by decide) ?_
  refine ww_put C inX12 rfl tyX12 tyX12_ok nmX12 0 (by decide) tb_4_36 rfl rfl rfl MS_0_0 dX12_claim_2 ?_
  refine ww_nU (wM ad cI cZ) (fun u_1 eu_1 => ?_)
  have h := h u_1 eu_1
  refine ww_iload_n C dX12_claim_5 rfl 1 rfl ?_
  refine ww_callSi (As := [.int x1]) (rest := []) C EM_ok (c_X12_isPlace h) tb_4_188 tb_4_189 tb_1_13 tb_4_190 rfl rfl hd_X12_isPlace ⟨Nat.le_of_ble_eq_true rfl, Nat.le_of_ble_eq_true rfl⟩ rfl rfl (Nat.le_of_ble_eq_true rfl) dX12_claim_6 ⟨Nat.zero_le _, Nat.zero_le _⟩ (fun r_3 u_2 h => ?_)
  refine ww_if_eq (tgt := 44) C dX12_claim_9 (by decide) (fun hc => ?_) (fun hc => ?_)
  · have h := ite_t h hc
    refine ww_sub [0] rfl ?_
    exact w_X12_claim_44 C h
  · have h := ite_f h hc
    refine ww_iload_n C dX12_claim_12 rfl 2 rfl ?_
    refine ww_callSi (As := [.int x2]) (rest := []) C EM_ok (c_X12_isPlace h) tb_4_188 tb_4_189 tb_1_13 tb_4_190 rfl rfl hd_X12_isPlace ⟨Nat.le_of_ble_eq_true rfl, Nat.le_of_ble_eq_true rfl⟩ rfl rfl (Nat.le_of_ble_eq_true rfl) dX12_claim_13 ⟨Nat.zero_le _, Nat.zero_le _⟩ (fun r_5 u_4 h => ?_)
    refine ww_if_eq (tgt := 44) C dX12_claim_16 (by decide) (fun hc => ?_) (fun hc => ?_)
    · have h := ite_t h hc
      refine ww_sub [0] rfl ?_
      exact w_X12_claim_44 C h
    · have h := ite_f h hc
      refine ww_iload_n C dX12_claim_19 rfl 3 rfl ?_
      refine ww_i2l C dX12_claim_20 ?_
      refine ww_lconst (v := 0) C dX12_claim_21 (by decide) ?_
      refine ww_ldc2 C tb_5_112 dX12_claim_22 ?_
      refine ww_callSi (As := [.long x3.toInt64, .long (0 : Int64), .long (100000 : Int64)]) (rest := []) C EM_ok (c_X12_in h) tb_4_192 tb_4_193 tb_1_13 tb_4_194 rfl rfl hd_X12_in ⟨Nat.le_of_ble_eq_true rfl, Nat.le_of_ble_eq_true rfl⟩ rfl rfl (Nat.le_of_ble_eq_true rfl) dX12_claim_25 ⟨Nat.zero_le _, Nat.zero_le _⟩ (fun r_7 u_6 h => ?_)
      refine ww_if_eq (tgt := 44) C dX12_claim_28 (by decide) (fun hc => ?_) (fun hc => ?_)
      · have h := ite_t h hc
        refine ww_sub [0] rfl ?_
        exact w_X12_claim_44 C h
      · have h := ite_f h hc
        refine ww_iload C dX12_claim_31 4 rfl ?_
        refine ww_i2l C dX12_claim_33 ?_
        refine ww_lconst (v := 0) C dX12_claim_34 (by decide) ?_
        refine ww_ldc2 C tb_4_222 dX12_claim_35 ?_
        refine ww_callSi (As := [.long x4.toInt64, .long (0 : Int64), .long (100 : Int64)]) (rest := []) C EM_ok (c_X12_in h) tb_4_192 tb_4_193 tb_1_13 tb_4_194 rfl rfl hd_X12_in ⟨Nat.le_of_ble_eq_true rfl, Nat.le_of_ble_eq_true rfl⟩ rfl rfl (Nat.le_of_ble_eq_true rfl) dX12_claim_38 ⟨Nat.zero_le _, Nat.zero_le _⟩ (fun r_9 u_8 h => ?_)
        refine ww_if_ne (tgt := 50) C dX12_claim_41 (by decide) (fun hc => ?_) (fun hc => ?_)
        · have h := ite_f h hc
          refine ww_aload_n C dX12_claim_50 rfl 0 rfl ?_
          refine ww_get C inX12 rfl 44 (by decide) tb_4_80 MF_0_44 dX12_claim_51 ?_
          refine ww_bipush (v := 40) C dX12_claim_54 (by decide) ?_
          refine ww_icmp_ne (tgt := 66) C dX12_claim_56 (by decide) (fun hc => ?_) (fun hc => ?_)
          · have h := ite_f h hc
            refine ww_aload_n C dX12_claim_66 rfl 0 rfl ?_
            refine ww_get C inX12 rfl 45 (by decide) tb_4_81 MF_0_45 dX12_claim_67 ?_
            refine ww_aload_n C dX12_claim_70 rfl 0 rfl ?_
            refine ww_get C inX12 rfl 44 (by decide) tb_4_80 MF_0_44 dX12_claim_71 ?_
            refine ww_iload_n C dX12_claim_74 rfl 1 rfl ?_
            obtain ⟨hin, h⟩ := h
            refine ww_iast C 0 rfl MU_26 hin dX12_claim_75 ?_
            refine ww_nU (wM ad cI cZ) (fun u_10 eu_10 => ?_)
            have h := h u_10 eu_10
            refine ww_aload_n C dX12_claim_76 rfl 0 rfl ?_
            refine ww_get C inX12 rfl 46 (by decide) tb_4_82 MF_0_46 dX12_claim_77 ?_
            refine ww_aload_n C dX12_claim_80 rfl 0 rfl ?_
            refine ww_get C inX12 rfl 44 (by decide) tb_4_80 MF_0_44 dX12_claim_81 ?_
            refine ww_iload_n C dX12_claim_84 rfl 2 rfl ?_
            obtain ⟨hin, h⟩ := h
            refine ww_iast C 0 rfl MU_27 hin dX12_claim_85 ?_
            refine ww_nU (wM ad cI cZ) (fun u_11 eu_11 => ?_)
            have h := h u_11 eu_11
            refine ww_aload_n C dX12_claim_86 rfl 0 rfl ?_
            refine ww_get C inX12 rfl 47 (by decide) tb_4_83 MF_0_47 dX12_claim_87 ?_
            refine ww_aload_n C dX12_claim_90 rfl 0 rfl ?_
            refine ww_get C inX12 rfl 44 (by decide) tb_4_80 MF_0_44 dX12_claim_91 ?_
            refine ww_iload_n C dX12_claim_94 rfl 3 rfl ?_
            obtain ⟨hin, h⟩ := h
            refine ww_iast C 0 rfl MU_28 hin dX12_claim_95 ?_
            refine ww_nU (wM ad cI cZ) (fun u_12 eu_12 => ?_)
            have h := h u_12 eu_12
            refine ww_aload_n C dX12_claim_96 rfl 0 rfl ?_
            refine ww_get C inX12 rfl 48 (by decide) tb_4_84 MF_0_48 dX12_claim_97 ?_
            refine ww_aload_n C dX12_claim_100 rfl 0 rfl ?_
            refine ww_get C inX12 rfl 44 (by decide) tb_4_80 MF_0_44 dX12_claim_101 ?_
            refine ww_iload C dX12_claim_104 4 rfl ?_
            obtain ⟨hin, h⟩ := h
            refine ww_iast C 0 rfl MU_29 hin dX12_claim_106 ?_
            refine ww_nU (wM ad cI cZ) (fun u_13 eu_13 => ?_)
            have h := h u_13 eu_13
            refine ww_aload_n C dX12_claim_107 rfl 0 rfl ?_
            refine ww_dup C dX12_claim_108 rfl ?_
            refine ww_get C inX12 rfl 44 (by decide) tb_4_80 MF_0_44 dX12_claim_109 ?_
            refine ww_iconst (v := 1) C dX12_claim_112 (by decide) ?_
            refine ww_iadd C dX12_claim_113 ?_
            refine ww_put C inX12 rfl tyX12 tyX12_ok nmX12 44 (by decide) tb_4_80 rfl rfl rfl MS_0_44 dX12_claim_114 ?_
            refine ww_nU (wM ad cI cZ) (fun u_14 eu_14 => ?_)
            have h := h u_14 eu_14
            refine ww_aload_n C dX12_claim_117 rfl 0 rfl ?_
            refine ww_aload_n C dX12_claim_118 rfl 0 rfl ?_
            refine ww_get C inX12 rfl 44 (by decide) tb_4_80 MF_0_44 dX12_claim_119 ?_
            refine ww_iconst (v := 1) C dX12_claim_122 (by decide) ?_
            refine ww_isub C dX12_claim_123 ?_
            refine ww_callVi (As := [.int ((u_14.1 18) - (1 : Int32))]) (rest := []) C EM_ok (c_X12_told h) tb_4_195 tb_4_197 tbs_18 tb_1_13 tb_4_198 rfl rfl ⟨rfl, hd_X12_told⟩ ⟨Nat.le_of_ble_eq_true rfl, Nat.le_of_ble_eq_true rfl⟩ rfl MF_0_0 rfl rfl (Nat.le_of_ble_eq_true rfl) dX12_claim_124 ⟨Nat.zero_le _, Nat.zero_le _⟩ (fun r_16 u_15 h => ?_)
            exact ww_iret C h dX12_claim_127
          · have h := ite_t h hc
            refine ww_aload_n C dX12_claim_59 rfl 0 rfl ?_
            refine ww_bipush (v := (-5)) C dX12_claim_60 (by decide) ?_
            refine ww_callVi (As := [.int ((-5) : Int32)]) (rest := []) C EM_ok (c_X12_told h) tb_4_195 tb_4_197 tbs_18 tb_1_13 tb_4_198 rfl rfl ⟨rfl, hd_X12_told⟩ ⟨Nat.le_of_ble_eq_true rfl, Nat.le_of_ble_eq_true rfl⟩ rfl MF_0_0 rfl rfl (Nat.le_of_ble_eq_true rfl) dX12_claim_62 ⟨Nat.zero_le _, Nat.zero_le _⟩ (fun r_18 u_17 h => ?_)
            exact ww_iret C h dX12_claim_65
        · have h := ite_t h hc
          refine ww_sub [0] rfl ?_
          exact w_X12_claim_44 C h
theorem c_X12_claim {l : Launch} {D : va_G} {ad : Nat → Nat} {cI cZ : ClassId} {N : Nat} {x1 : Int32} {x2 : Int32} {x3 : Int32} {x4 : Int32} {u : UU} {Q : Int32 → UU → Prop} (h : m_X12_claim N x1 x2 x3 x4 u Q) : MI l D [(cI, .int), (cZ, .boolean)] EM yX12_claim (Cond.code yX12_claim cX12_claim 5 (some .int)) rm_X12_claim [.ref (ad 0), .int x1, .int x2, .int x3, .int x4] (wM ad cI cZ u) (wM ad cI cZ) Q :=
  MI_of (own := RX12) (by decide) rfl (Nat.le_of_ble_eq_true rfl) rfl (fun p e s m args below meth c A C => w_X12_claim C h)
theorem hd_X12_claim : yX12_claim.cls ≠ "java/lang/invoke/MethodHandle" ∧ yX12_claim.cls ≠ "java/lang/invoke/VarHandle" ∧ (parseMethodDescriptor yX12_claim.desc).map (fun d => d.parameters.length) = some 4 := by decide +kernel
abbrev rm_X12_judged : Room := { frames := 2, cells := 0, slots := 0, locals := 56 }
set_option maxRecDepth 100000 in
theorem w_X12_judged_175 {p : Program} {l : Launch} {e : Env} {s : State} {m : MethodId} {args : Array Value} {below : List Frame} {meth : Method} {c : Code} {A : Nat → Prop} {D : va_G} {ad : Nat → Nat} {cI cZ : ClassId} {N : Nat} {Q : Int32 → UU → Prop} {k70 : Int32 → Int32 → Int32 → Int32 → Int32 → UU → Prop} (C : Cx p m c cX12_judged 8 s args RX12 meth (some .int) A D [(cI, .int), (cZ, .boolean)] EM) (hk70 : ∀ (x1 : Int32) (x3 : Int32) (x4 : Int32) (x5 : Int32) (x6 : Int32) (u : UU), k70 x1 x3 x4 x5 x6 u → WW p l e rm_X12_judged s m args below meth c 0 0 (MQ below (QI D A (wM ad cI cZ) Q) args s 0 0 A) A D 8 70 [(0, .ref (ad 0)), (1, .int x1), (3, .int x3), (4, .int x4), (5, .int x5), (6, .int x6)] [] (wM ad cI cZ u)) : ∀ {x1 : Int32} {x3 : Int32} {x4 : Int32} {x5 : Int32} {x6 : Int32} {u : UU}, m_X12_judged_175 N k70 x1 x3 x4 x5 x6 u Q → WW p l e rm_X12_judged s m args below meth c 0 0 (MQ below (QI D A (wM ad cI cZ) Q) args s 0 0 A) A D 8 175 [(0, .ref (ad 0)), (1, .int x1), (3, .int x3), (4, .int x4), (5, .int x5), (6, .int x6)] [] (wM ad cI cZ u) := by
  intro x1 x3 x4 x5 x6 u h
  unfold m_X12_judged_175 at h
  obtain ⟨z_1, ez_1⟩ : ∃ z_1 : Int32, z_1 = x6 + (1 : Int32) := ⟨_, rfl⟩
  have h := h z_1 ez_1
  refine ww_iinc (i := 6) (j := 5) (v := z_1) (lv' := [(6, .int z_1), (0, .ref (ad 0)), (1, .int x1), (3, .int x3), (4, .int x4), (5, .int x5)]) C dX12_judged_175 rfl (by rw [ez_1]; rfl) (by decide) rfl ?_
  refine ww_goto (tgt := 70) C dX12_judged_178 (by decide) ?_
  refine ww_sub [1, 2, 3, 4, 5, 0] rfl ?_
  exact hk70 _ _ _ _ _ _ h
set_option maxRecDepth 100000 in
theorem w_X12_judged_139 {p : Program} {l : Launch} {e : Env} {s : State} {m : MethodId} {args : Array Value} {below : List Frame} {meth : Method} {c : Code} {A : Nat → Prop} {D : va_G} {ad : Nat → Nat} {cI cZ : ClassId} {N : Nat} {Q : Int32 → UU → Prop} {k70 : Int32 → Int32 → Int32 → Int32 → Int32 → UU → Prop} (C : Cx p m c cX12_judged 8 s args RX12 meth (some .int) A D [(cI, .int), (cZ, .boolean)] EM) (hk70 : ∀ (x1 : Int32) (x3 : Int32) (x4 : Int32) (x5 : Int32) (x6 : Int32) (u : UU), k70 x1 x3 x4 x5 x6 u → WW p l e rm_X12_judged s m args below meth c 0 0 (MQ below (QI D A (wM ad cI cZ) Q) args s 0 0 A) A D 8 70 [(0, .ref (ad 0)), (1, .int x1), (3, .int x3), (4, .int x4), (5, .int x5), (6, .int x6)] [] (wM ad cI cZ u)) : ∀ {x1 : Int32} {x4 : Int32} {x5 : Int32} {x6 : Int32} {y0 : Int32} {u : UU}, m_X12_judged_139 N k70 x1 x4 x5 x6 y0 u Q → WW p l e rm_X12_judged s m args below meth c 0 0 (MQ below (QI D A (wM ad cI cZ) Q) args s 0 0 A) A D 8 139 [(0, .ref (ad 0)), (1, .int x1), (4, .int x4), (5, .int x5), (6, .int x6)] [.int y0] (wM ad cI cZ u) := by
  intro x1 x4 x5 x6 y0 u h
  unfold m_X12_judged_139 at h
  refine ww_istore_n (i := 3) (lv' := [(3, .int y0), (0, .ref (ad 0)), (1, .int x1), (4, .int x4), (5, .int x5), (6, .int x6)]) C dX12_judged_139 rfl (by decide) rfl ?_
  refine ww_goto (tgt := 175) C dX12_judged_140 (by decide) ?_
  refine ww_sub [1, 2, 0, 3, 4, 5] rfl ?_
  exact w_X12_judged_175 C hk70 h
set_option maxRecDepth 100000 in
theorem w_X12_judged_138 {p : Program} {l : Launch} {e : Env} {s : State} {m : MethodId} {args : Array Value} {below : List Frame} {meth : Method} {c : Code} {A : Nat → Prop} {D : va_G} {ad : Nat → Nat} {cI cZ : ClassId} {N : Nat} {Q : Int32 → UU → Prop} {k70 : Int32 → Int32 → Int32 → Int32 → Int32 → UU → Prop} (C : Cx p m c cX12_judged 8 s args RX12 meth (some .int) A D [(cI, .int), (cZ, .boolean)] EM) (hk70 : ∀ (x1 : Int32) (x3 : Int32) (x4 : Int32) (x5 : Int32) (x6 : Int32) (u : UU), k70 x1 x3 x4 x5 x6 u → WW p l e rm_X12_judged s m args below meth c 0 0 (MQ below (QI D A (wM ad cI cZ) Q) args s 0 0 A) A D 8 70 [(0, .ref (ad 0)), (1, .int x1), (3, .int x3), (4, .int x4), (5, .int x5), (6, .int x6)] [] (wM ad cI cZ u)) : ∀ {x1 : Int32} {x3 : Int32} {x4 : Int32} {x5 : Int32} {x6 : Int32} {u : UU}, m_X12_judged_138 N k70 x1 x3 x4 x5 x6 u Q → WW p l e rm_X12_judged s m args below meth c 0 0 (MQ below (QI D A (wM ad cI cZ) Q) args s 0 0 A) A D 8 138 [(0, .ref (ad 0)), (1, .int x1), (3, .int x3), (4, .int x4), (5, .int x5), (6, .int x6)] [] (wM ad cI cZ u) := by
  intro x1 x3 x4 x5 x6 u h
  unfold m_X12_judged_138 at h
  refine ww_iload_n C dX12_judged_138 rfl 2 rfl ?_
  refine ww_sub [0, 1, 3, 4, 5] rfl ?_
  exact w_X12_judged_139 C hk70 h
set_option maxRecDepth 100000 in
theorem w_X12_judged_256 {p : Program} {l : Launch} {e : Env} {s : State} {m : MethodId} {args : Array Value} {below : List Frame} {meth : Method} {c : Code} {A : Nat → Prop} {D : va_G} {ad : Nat → Nat} {cI cZ : ClassId} {N : Nat} {Q : Int32 → UU → Prop} (C : Cx p m c cX12_judged 8 s args RX12 meth (some .int) A D [(cI, .int), (cZ, .boolean)] EM) : ∀ {x1 : Int32} {x4 : Int32} {y0 : Int32} {u : UU}, m_X12_judged_256 N x1 x4 y0 u Q → WW p l e rm_X12_judged s m args below meth c 0 0 (MQ below (QI D A (wM ad cI cZ) Q) args s 0 0 A) A D 8 256 [(0, .ref (ad 0)), (1, .int x1), (4, .int x4)] [.int y0] (wM ad cI cZ u) := by
  intro x1 x4 y0 u h
  unfold m_X12_judged_256 at h
  refine ww_iload C dX12_judged_256 2 rfl ?_
  refine ww_isub C dX12_judged_258 ?_
  refine ww_nI (fun z_1 ez_1 => ?_)
  have h := h z_1 ez_1
  refine ww_istore_n (i := 3) (lv' := [(3, .int z_1), (0, .ref (ad 0)), (1, .int x1), (4, .int x4)]) C dX12_judged_259 rfl (by decide) rfl ?_
  refine ww_iload_n C dX12_judged_260 rfl 0 rfl ?_
  refine ww_if_gt (tgt := 268) C dX12_judged_261 (by decide) (fun hc => ?_) (fun hc => ?_)
  · have h := ite_t h hc
    refine ww_aload_n C dX12_judged_268 rfl 1 rfl ?_
    refine ww_get C inX12 rfl 47 (by decide) tb_4_83 MF_0_47 dX12_judged_269 ?_
    refine ww_iload_n C dX12_judged_272 rfl 2 rfl ?_
    obtain ⟨hin, h⟩ := h
    refine ww_iald C 0 rfl MA_28 hin dX12_judged_273 ?_
    refine ww_i2l C dX12_judged_274 ?_
    refine ww_iload_n C dX12_judged_275 rfl 0 rfl ?_
    refine ww_i2l C dX12_judged_276 ?_
    refine ww_lmul C dX12_judged_277 ?_
    refine ww_ldc2 C tb_4_222 dX12_judged_278 ?_
    obtain ⟨hz, h⟩ := h
    refine ww_ldiv C dX12_judged_281 hz ?_
    refine ww_l2i C dX12_judged_282 ?_
    exact ww_iret C h dX12_judged_283
  · have h := ite_f h hc
    refine ww_iconst (v := 0) C dX12_judged_264 (by decide) ?_
    refine ww_goto (tgt := 283) C dX12_judged_265 (by decide) ?_
    exact ww_iret C h dX12_judged_283
set_option maxRecDepth 100000 in
theorem w_X12_judged_216 {p : Program} {l : Launch} {e : Env} {s : State} {m : MethodId} {args : Array Value} {below : List Frame} {meth : Method} {c : Code} {A : Nat → Prop} {D : va_G} {ad : Nat → Nat} {cI cZ : ClassId} {N : Nat} {Q : Int32 → UU → Prop} (C : Cx p m c cX12_judged 8 s args RX12 meth (some .int) A D [(cI, .int), (cZ, .boolean)] EM) : ∀ {x1 : Int32} {x3 : Int32} {x4 : Int32} {x5 : Int32} {y0 : Int32} {u : UU}, m_X12_judged_216 N x1 x3 x4 x5 y0 u Q → WW p l e rm_X12_judged s m args below meth c 0 0 (MQ below (QI D A (wM ad cI cZ) Q) args s 0 0 A) A D 8 216 [(0, .ref (ad 0)), (1, .int x1), (3, .int x3), (4, .int x4), (5, .int x5)] [.int y0] (wM ad cI cZ u) := by
  intro x1 x3 x4 x5 y0 u h
  unfold m_X12_judged_216 at h
  refine ww_istore (i := 7) (lv' := [(7, .int y0), (0, .ref (ad 0)), (1, .int x1), (3, .int x3), (4, .int x4), (5, .int x5)]) C dX12_judged_216 (by decide) rfl ?_
  refine ww_iload C dX12_judged_218 0 rfl ?_
  refine ww_iload C dX12_judged_220 5 rfl ?_
  refine ww_icmp_gt (tgt := 233) C dX12_judged_222 (by decide) (fun hc => ?_) (fun hc => ?_)
  · have h := ite_t h hc
    refine ww_bipush (v := (-2)) C dX12_judged_233 (by decide) ?_
    exact ww_iret C h dX12_judged_235
  · have h := ite_f h hc
    refine ww_iload C dX12_judged_225 0 rfl ?_
    refine ww_ineg C dX12_judged_227 ?_
    refine ww_iload C dX12_judged_228 5 rfl ?_
    refine ww_icmp_le (tgt := 236) C dX12_judged_230 (by decide) (fun hc => ?_) (fun hc => ?_)
    · have h := ite_t h hc
      refine ww_iload_n C dX12_judged_236 rfl 3 rfl ?_
      refine ww_aload_n C dX12_judged_237 rfl 1 rfl ?_
      refine ww_get C inX12 rfl 48 (by decide) tb_4_84 MF_0_48 dX12_judged_238 ?_
      refine ww_iload_n C dX12_judged_241 rfl 2 rfl ?_
      obtain ⟨hin, h⟩ := h
      refine ww_iald C 0 rfl MA_29 hin dX12_judged_242 ?_
      refine ww_icmp_le (tgt := 255) C dX12_judged_243 (by decide) (fun hc => ?_) (fun hc => ?_)
      · have h := ite_t h hc
        refine ww_iload_n C dX12_judged_255 rfl 3 rfl ?_
        refine ww_sub [1, 2, 4] rfl ?_
        exact w_X12_judged_256 C h
      · have h := ite_f h hc
        refine ww_aload_n C dX12_judged_246 rfl 1 rfl ?_
        refine ww_get C inX12 rfl 48 (by decide) tb_4_84 MF_0_48 dX12_judged_247 ?_
        refine ww_iload_n C dX12_judged_250 rfl 2 rfl ?_
        obtain ⟨hin, h⟩ := h
        refine ww_iald C 0 rfl MA_29 hin dX12_judged_251 ?_
        refine ww_goto (tgt := 256) C dX12_judged_252 (by decide) ?_
        refine ww_sub [1, 2, 4] rfl ?_
        exact w_X12_judged_256 C h
    · have h := ite_f h hc
      refine ww_bipush (v := (-2)) C dX12_judged_233 (by decide) ?_
      exact ww_iret C h dX12_judged_235
set_option maxRecDepth 100000 in
theorem w_X12_judged_70 {p : Program} {l : Launch} {e : Env} {s : State} {m : MethodId} {args : Array Value} {below : List Frame} {meth : Method} {c : Code} {A : Nat → Prop} {D : va_G} {ad : Nat → Nat} {cI cZ : ClassId} {N : Nat} {Q : Int32 → UU → Prop} (C : Cx p m c cX12_judged 8 s args RX12 meth (some .int) A D [(cI, .int), (cZ, .boolean)] EM) : ∀ (n : Nat) (x1 : Int32) (x3 : Int32) (x4 : Int32) (x5 : Int32) (x6 : Int32) (u : UU), m_X12_judged_70 N Q n x1 x3 x4 x5 x6 u → WW p l e rm_X12_judged s m args below meth c 0 0 (MQ below (QI D A (wM ad cI cZ) Q) args s 0 0 A) A D 8 70 [(0, .ref (ad 0)), (1, .int x1), (3, .int x3), (4, .int x4), (5, .int x5), (6, .int x6)] [] (wM ad cI cZ u) := by
  intro n
  induction n with
  | zero => intro x1 x3 x4 x5 x6 u h; rw [m_X12_judged_70] at h; exact h.elim
  | succ n ih =>
    intro x1 x3 x4 x5 x6 u h
    rw [m_X12_judged_70] at h
    refine ww_iload C dX12_judged_70 5 rfl ?_
    refine ww_aload_n C dX12_judged_72 rfl 0 rfl ?_
    refine ww_get C inX12 rfl 29 (by decide) tb_4_65 MF_0_29 dX12_judged_73 ?_
    refine ww_icmp_ge (tgt := 181) C dX12_judged_76 (by decide) (fun hc => ?_) (fun hc => ?_)
    · have h := ite_t h hc
      refine ww_aload_n C dX12_judged_181 rfl 0 rfl ?_
      refine ww_aload_n C dX12_judged_182 rfl 0 rfl ?_
      refine ww_get C inX12 rfl 45 (by decide) tb_4_81 MF_0_45 dX12_judged_183 ?_
      refine ww_iload_n C dX12_judged_186 rfl 1 rfl ?_
      obtain ⟨hin, h⟩ := h
      refine ww_iald C 0 rfl MA_26 hin dX12_judged_187 ?_
      refine ww_aload_n C dX12_judged_188 rfl 0 rfl ?_
      refine ww_get C inX12 rfl 46 (by decide) tb_4_82 MF_0_46 dX12_judged_189 ?_
      refine ww_iload_n C dX12_judged_192 rfl 1 rfl ?_
      obtain ⟨hin, h⟩ := h
      refine ww_iald C 0 rfl MA_27 hin dX12_judged_193 ?_
      refine ww_callVi (As := [.int (u.2.1 25 x1.toNatClampNeg), .int (u.2.1 26 x1.toNatClampNeg)]) (rest := []) C EM_ok (c_X12_radarAt h) tb_5_53 tb_5_55 tbs_28 tb_1_13 tb_5_56 rfl rfl ⟨rfl, hd_X12_radarAt⟩ ⟨Nat.le_of_ble_eq_true rfl, Nat.le_of_ble_eq_true rfl⟩ rfl MF_0_0 rfl rfl (Nat.le_of_ble_eq_true rfl) dX12_judged_194 ⟨Nat.zero_le _, Nat.zero_le _⟩ (fun r_2 u_1 h => ?_)
      refine ww_istore (i := 6) (lv' := [(6, .int r_2), (0, .ref (ad 0)), (1, .int x1), (3, .int x3), (4, .int x4), (5, .int x5)]) C dX12_judged_197 (by decide) rfl ?_
      refine ww_iload C dX12_judged_199 0 rfl ?_
      refine ww_iconst (v := (-1)) C dX12_judged_201 (by decide) ?_
      refine ww_icmp_ne (tgt := 209) C dX12_judged_202 (by decide) (fun hc => ?_) (fun hc => ?_)
      · have h := ite_f h hc
        refine ww_iload C dX12_judged_209 0 rfl ?_
        refine ww_aload_n C dX12_judged_211 rfl 1 rfl ?_
        refine ww_get C inX12 rfl 26 (by decide) tb_4_62 MF_0_26 dX12_judged_212 ?_
        refine ww_isub C dX12_judged_215 ?_
        refine ww_sub [1, 2, 3, 4, 5] rfl ?_
        exact w_X12_judged_216 C h
      · have h := ite_t h hc
        refine ww_iconst (v := 0) C dX12_judged_205 (by decide) ?_
        refine ww_goto (tgt := 216) C dX12_judged_206 (by decide) ?_
        refine ww_sub [1, 2, 3, 4, 5] rfl ?_
        exact w_X12_judged_216 C h
    · have h := ite_f h hc
      refine ww_aload_n C dX12_judged_79 rfl 0 rfl ?_
      refine ww_get C inX12 rfl 30 (by decide) tb_4_66 MF_0_30 dX12_judged_80 ?_
      refine ww_iload C dX12_judged_83 5 rfl ?_
      obtain ⟨hin, h⟩ := h
      refine ww_iald C 0 rfl MA_20 hin dX12_judged_85 ?_
      refine ww_if_ne (tgt := 143) C dX12_judged_86 (by decide) (fun hc => ?_) (fun hc => ?_)
      · have h := ite_f h hc
        refine ww_aload_n C dX12_judged_143 rfl 0 rfl ?_
        refine ww_get C inX12 rfl 30 (by decide) tb_4_66 MF_0_30 dX12_judged_144 ?_
        refine ww_iload C dX12_judged_147 5 rfl ?_
        obtain ⟨hin, h⟩ := h
        refine ww_iald C 0 rfl MA_20 hin dX12_judged_149 ?_
        refine ww_iconst (v := 1) C dX12_judged_150 (by decide) ?_
        refine ww_icmp_ne (tgt := 166) C dX12_judged_151 (by decide) (fun hc => ?_) (fun hc => ?_)
        · have h := ite_f h hc
          refine ww_aload_n C dX12_judged_166 rfl 0 rfl ?_
          refine ww_get C inX12 rfl 31 (by decide) tb_4_67 MF_0_31 dX12_judged_167 ?_
          refine ww_iload C dX12_judged_170 5 rfl ?_
          obtain ⟨hin, h⟩ := h
          refine ww_iald C 0 rfl MA_21 hin dX12_judged_172 ?_
          refine ww_nI (fun z_3 ez_3 => ?_)
          have h := h z_3 ez_3
          refine ww_istore (i := 4) (lv' := [(4, .int z_3), (0, .ref (ad 0)), (1, .int x1), (3, .int x3), (5, .int x5), (6, .int x6)]) C dX12_judged_173 (by decide) rfl ?_
          refine ww_sub [1, 2, 3, 0, 4, 5] rfl ?_
          exact w_X12_judged_175 C ih h
        · have h := ite_t h hc
          refine ww_aload_n C dX12_judged_154 rfl 0 rfl ?_
          refine ww_get C inX12 rfl 31 (by decide) tb_4_67 MF_0_31 dX12_judged_155 ?_
          refine ww_iload C dX12_judged_158 5 rfl ?_
          obtain ⟨hin, h⟩ := h
          refine ww_iald C 0 rfl MA_21 hin dX12_judged_160 ?_
          refine ww_nI (fun z_4 ez_4 => ?_)
          have h := h z_4 ez_4
          refine ww_istore (i := 5) (lv' := [(5, .int z_4), (0, .ref (ad 0)), (1, .int x1), (3, .int x3), (4, .int x4), (6, .int x6)]) C dX12_judged_161 (by decide) rfl ?_
          refine ww_goto (tgt := 175) C dX12_judged_163 (by decide) ?_
          refine ww_sub [1, 2, 3, 4, 0, 5] rfl ?_
          exact w_X12_judged_175 C ih h
      · have h := ite_t h hc
        refine ww_aload_n C dX12_judged_89 rfl 0 rfl ?_
        refine ww_get C inX12 rfl 32 (by decide) tb_4_68 MF_0_32 dX12_judged_90 ?_
        refine ww_iload C dX12_judged_93 5 rfl ?_
        obtain ⟨hin, h⟩ := h
        refine ww_iald C 0 rfl MA_22 hin dX12_judged_95 ?_
        refine ww_aload_n C dX12_judged_96 rfl 0 rfl ?_
        refine ww_get C inX12 rfl 26 (by decide) tb_4_62 MF_0_26 dX12_judged_97 ?_
        refine ww_icmp_gt (tgt := 138) C dX12_judged_100 (by decide) (fun hc => ?_) (fun hc => ?_)
        · have h := ite_t h hc
          exact w_X12_judged_138 C ih h
        · have h := ite_f h hc
          refine ww_aload_n C dX12_judged_103 rfl 0 rfl ?_
          refine ww_get C inX12 rfl 33 (by decide) tb_4_69 MF_0_33 dX12_judged_104 ?_
          refine ww_iload C dX12_judged_107 5 rfl ?_
          obtain ⟨hin, h⟩ := h
          refine ww_iald C 0 rfl MA_23 hin dX12_judged_109 ?_
          refine ww_aload_n C dX12_judged_110 rfl 0 rfl ?_
          refine ww_get C inX12 rfl 27 (by decide) tb_4_63 MF_0_27 dX12_judged_111 ?_
          refine ww_icmp_gt (tgt := 138) C dX12_judged_114 (by decide) (fun hc => ?_) (fun hc => ?_)
          · have h := ite_t h hc
            exact w_X12_judged_138 C ih h
          · have h := ite_f h hc
            refine ww_aload_n C dX12_judged_117 rfl 0 rfl ?_
            refine ww_get C inX12 rfl 31 (by decide) tb_4_67 MF_0_31 dX12_judged_118 ?_
            refine ww_iload C dX12_judged_121 5 rfl ?_
            obtain ⟨hin, h⟩ := h
            refine ww_iald C 0 rfl MA_21 hin dX12_judged_123 ?_
            refine ww_iload_n C dX12_judged_124 rfl 2 rfl ?_
            refine ww_icmp_le (tgt := 138) C dX12_judged_125 (by decide) (fun hc => ?_) (fun hc => ?_)
            · have h := ite_t h hc
              exact w_X12_judged_138 C ih h
            · have h := ite_f h hc
              refine ww_aload_n C dX12_judged_128 rfl 0 rfl ?_
              refine ww_get C inX12 rfl 31 (by decide) tb_4_67 MF_0_31 dX12_judged_129 ?_
              refine ww_iload C dX12_judged_132 5 rfl ?_
              obtain ⟨hin, h⟩ := h
              refine ww_iald C 0 rfl MA_21 hin dX12_judged_134 ?_
              refine ww_goto (tgt := 139) C dX12_judged_135 (by decide) ?_
              refine ww_sub [0, 1, 3, 4, 5] rfl ?_
              exact w_X12_judged_139 C ih h
set_option maxRecDepth 100000 in
theorem w_X12_judged {p : Program} {l : Launch} {e : Env} {s : State} {m : MethodId} {args : Array Value} {below : List Frame} {meth : Method} {c : Code} {A : Nat → Prop} {D : va_G} {ad : Nat → Nat} {cI cZ : ClassId} {N : Nat} {Q : Int32 → UU → Prop} (C : Cx p m c cX12_judged 8 s args RX12 meth (some .int) A D [(cI, .int), (cZ, .boolean)] EM) : ∀ {x1 : Int32} {x2 : Int32} {u : UU}, m_X12_judged N x1 x2 u Q → WW p l e rm_X12_judged s m args below meth c 0 0 (MQ below (QI D A (wM ad cI cZ) Q) args s 0 0 A) A D 8 0 [(0, .ref (ad 0)), (1, .int x1), (2, .int x2)] [] (wM ad cI cZ u) := by
  intro x1 x2 u h
  unfold m_X12_judged at h
  refine ww_aload_n C dX12_judged_0 rfl 0 rfl ?_
  refine ww_iconst (v := 0) C dX12_judged_1 (by decide) ?_
  refine ww_put C inX12 rfl tyX12 tyX12_ok nmX12 0 (by decide) tb_4_36 rfl rfl rfl MS_0_0 dX12_judged_2 ?_
  refine ww_nU (wM ad cI cZ) (fun u_1 eu_1 => ?_)
  have h := h u_1 eu_1
  refine ww_iload_n C dX12_judged_5 rfl 1 rfl ?_
  refine ww_i2l C dX12_judged_6 ?_
  refine ww_lconst (v := 0) C dX12_judged_7 (by decide) ?_
  refine ww_aload_n C dX12_judged_8 rfl 0 rfl ?_
  refine ww_get C inX12 rfl 44 (by decide) tb_4_80 MF_0_44 dX12_judged_9 ?_
  refine ww_i2l C dX12_judged_12 ?_
  refine ww_lconst (v := 1) C dX12_judged_13 (by decide) ?_
  refine ww_lsub C dX12_judged_14 ?_
  refine ww_callSi (As := [.long x1.toInt64, .long (0 : Int64), .long (((u_1.1 18).toInt64) - (1 : Int64))]) (rest := []) C EM_ok (c_X12_in h) tb_4_192 tb_4_193 tb_1_13 tb_4_194 rfl rfl hd_X12_in ⟨Nat.le_of_ble_eq_true rfl, Nat.le_of_ble_eq_true rfl⟩ rfl rfl (Nat.le_of_ble_eq_true rfl) dX12_judged_15 ⟨Nat.zero_le _, Nat.zero_le _⟩ (fun r_3 u_2 h => ?_)
  refine ww_if_eq (tgt := 28) C dX12_judged_18 (by decide) (fun hc => ?_) (fun hc => ?_)
  · have h := ite_t h hc
    refine ww_iconst (v := (-1)) C dX12_judged_28 (by decide) ?_
    exact ww_iret C h dX12_judged_29
  · have h := ite_f h hc
    refine ww_iload_n C dX12_judged_21 rfl 2 rfl ?_
    refine ww_callSi (As := [.int x2]) (rest := []) C EM_ok (c_X12_isKnown h) tb_4_206 tb_4_207 tb_1_13 tb_4_208 rfl rfl hd_X12_isKnown ⟨Nat.le_of_ble_eq_true rfl, Nat.le_of_ble_eq_true rfl⟩ rfl rfl (Nat.le_of_ble_eq_true rfl) dX12_judged_22 ⟨Nat.zero_le _, Nat.zero_le _⟩ (fun r_5 u_4 h => ?_)
    refine ww_if_ne (tgt := 30) C dX12_judged_25 (by decide) (fun hc => ?_) (fun hc => ?_)
    · have h := ite_f h hc
      refine ww_aload_n C dX12_judged_30 rfl 0 rfl ?_
      refine ww_iload_n C dX12_judged_31 rfl 2 rfl ?_
      refine ww_callVv (As := [.int x2]) (rest := []) C EM_ok (c_X12_find h) tb_4_227 tb_4_229 tbs_20 tb_1_13 tb_4_230 rfl rfl ⟨rfl, hd_X12_find⟩ ⟨Nat.le_of_ble_eq_true rfl, Nat.le_of_ble_eq_true rfl⟩ rfl MF_0_0 rfl rfl (Nat.le_of_ble_eq_true rfl) dX12_judged_32 ⟨Nat.zero_le _, Nat.zero_le _⟩ (fun u_6 h => ?_)
      refine ww_aload_n C dX12_judged_35 rfl 0 rfl ?_
      refine ww_aload_n C dX12_judged_36 rfl 0 rfl ?_
      refine ww_get C inX12 rfl 45 (by decide) tb_4_81 MF_0_45 dX12_judged_37 ?_
      refine ww_iload_n C dX12_judged_40 rfl 1 rfl ?_
      obtain ⟨hin, h⟩ := h
      refine ww_iald C 0 rfl MA_26 hin dX12_judged_41 ?_
      refine ww_aload_n C dX12_judged_42 rfl 0 rfl ?_
      refine ww_get C inX12 rfl 46 (by decide) tb_4_82 MF_0_46 dX12_judged_43 ?_
      refine ww_iload_n C dX12_judged_46 rfl 1 rfl ?_
      obtain ⟨hin, h⟩ := h
      refine ww_iald C 0 rfl MA_27 hin dX12_judged_47 ?_
      refine ww_callVi (As := [.int (u_6.2.1 25 x1.toNatClampNeg), .int (u_6.2.1 26 x1.toNatClampNeg)]) (rest := []) C EM_ok (c_X12_findMap h) tb_5_36 tb_5_38 tbs_26 tb_1_13 tb_5_39 rfl rfl ⟨rfl, hd_X12_findMap⟩ ⟨Nat.le_of_ble_eq_true rfl, Nat.le_of_ble_eq_true rfl⟩ rfl MF_0_0 rfl rfl (Nat.le_of_ble_eq_true rfl) dX12_judged_48 ⟨Nat.zero_le _, Nat.zero_le _⟩ (fun r_9 u_8 h => ?_)
      refine ww_if_ne (tgt := 57) C dX12_judged_51 (by decide) (fun hc => ?_) (fun hc => ?_)
      · have h := ite_f h hc
        refine ww_iconst (v := 0) C dX12_judged_57 (by decide) ?_
        refine ww_istore_n (i := 3) (lv' := [(3, .int (0 : Int32)), (0, .ref (ad 0)), (1, .int x1), (2, .int x2)]) C dX12_judged_58 rfl (by decide) rfl ?_
        refine ww_iconst (v := 0) C dX12_judged_59 (by decide) ?_
        refine ww_istore (i := 4) (lv' := [(4, .int (0 : Int32)), (3, .int (0 : Int32)), (0, .ref (ad 0)), (1, .int x1), (2, .int x2)]) C dX12_judged_60 (by decide) rfl ?_
        refine ww_sipush (v := 1000) C dX12_judged_62 (by decide) ?_
        refine ww_istore (i := 5) (lv' := [(5, .int (1000 : Int32)), (4, .int (0 : Int32)), (3, .int (0 : Int32)), (0, .ref (ad 0)), (1, .int x1), (2, .int x2)]) C dX12_judged_65 (by decide) rfl ?_
        refine ww_iconst (v := 0) C dX12_judged_67 (by decide) ?_
        refine ww_istore (i := 6) (lv' := [(6, .int (0 : Int32)), (5, .int (1000 : Int32)), (4, .int (0 : Int32)), (3, .int (0 : Int32)), (0, .ref (ad 0)), (1, .int x1), (2, .int x2)]) C dX12_judged_68 (by decide) rfl ?_
        refine ww_sub [4, 5, 3, 2, 1, 0] rfl ?_
        exact w_X12_judged_70 C N _ _ _ _ _ _ h
      · have h := ite_t h hc
        refine ww_bipush (v := (-2)) C dX12_judged_54 (by decide) ?_
        exact ww_iret C h dX12_judged_56
    · have h := ite_t h hc
      refine ww_iconst (v := (-1)) C dX12_judged_28 (by decide) ?_
      exact ww_iret C h dX12_judged_29
theorem c_X12_judged {l : Launch} {D : va_G} {ad : Nat → Nat} {cI cZ : ClassId} {N : Nat} {x1 : Int32} {x2 : Int32} {u : UU} {Q : Int32 → UU → Prop} (h : m_X12_judged N x1 x2 u Q) : MI l D [(cI, .int), (cZ, .boolean)] EM yX12_judged (Cond.code yX12_judged cX12_judged 8 (some .int)) rm_X12_judged [.ref (ad 0), .int x1, .int x2] (wM ad cI cZ u) (wM ad cI cZ) Q :=
  MI_of (own := RX12) (by decide) rfl (Nat.le_of_ble_eq_true rfl) rfl (fun p e s m args below meth c A C => w_X12_judged C h)
theorem hd_X12_judged : yX12_judged.cls ≠ "java/lang/invoke/MethodHandle" ∧ yX12_judged.cls ≠ "java/lang/invoke/VarHandle" ∧ (parseMethodDescriptor yX12_judged.desc).map (fun d => d.parameters.length) = some 2 := by decide +kernel
abbrev rm_X12_quarrel : Room := { frames := 2, cells := 0, slots := 0, locals := 48 }
set_option maxRecDepth 100000 in
theorem w_X12_quarrel_112 {p : Program} {l : Launch} {e : Env} {s : State} {m : MethodId} {args : Array Value} {below : List Frame} {meth : Method} {c : Code} {A : Nat → Prop} {D : va_G} {ad : Nat → Nat} {cI cZ : ClassId} {N : Nat} {Q : Int32 → UU → Prop} {k32 : Int32 → Int32 → Int32 → UU → Prop} {k50 : Int32 → Int32 → Int32 → Int32 → Int32 → Int32 → UU → Prop} (C : Cx p m c cX12_quarrel 9 s args RX12 meth (some .int) A D [(cI, .int), (cZ, .boolean)] EM) (hk32 : ∀ (x1 : Int32) (x3 : Int32) (x4 : Int32) (u : UU), k32 x1 x3 x4 u → WW p l e rm_X12_quarrel s m args below meth c 0 0 (MQ below (QI D A (wM ad cI cZ) Q) args s 0 0 A) A D 9 32 [(0, .ref (ad 0)), (1, .int x1), (3, .int x3), (4, .int x4)] [] (wM ad cI cZ u)) (hk50 : ∀ (x1 : Int32) (x3 : Int32) (x4 : Int32) (x5 : Int32) (x6 : Int32) (x7 : Int32) (u : UU), k50 x1 x3 x4 x5 x6 x7 u → WW p l e rm_X12_quarrel s m args below meth c 0 0 (MQ below (QI D A (wM ad cI cZ) Q) args s 0 0 A) A D 9 50 [(0, .ref (ad 0)), (1, .int x1), (3, .int x3), (4, .int x4), (5, .int x5), (6, .int x6), (7, .int x7)] [] (wM ad cI cZ u)) : ∀ {x1 : Int32} {x3 : Int32} {x4 : Int32} {x5 : Int32} {x7 : Int32} {y0 : Int32} {u : UU}, m_X12_quarrel_112 N k32 k50 x1 x3 x4 x5 x7 y0 u Q → WW p l e rm_X12_quarrel s m args below meth c 0 0 (MQ below (QI D A (wM ad cI cZ) Q) args s 0 0 A) A D 9 112 [(0, .ref (ad 0)), (1, .int x1), (3, .int x3), (4, .int x4), (5, .int x5), (7, .int x7)] [.int y0] (wM ad cI cZ u) := by
  intro x1 x3 x4 x5 x7 y0 u h
  unfold m_X12_quarrel_112 at h
  refine ww_istore (i := 6) (lv' := [(6, .int y0), (0, .ref (ad 0)), (1, .int x1), (3, .int x3), (4, .int x4), (5, .int x5), (7, .int x7)]) C dX12_quarrel_112 (by decide) rfl ?_
  obtain ⟨z_1, ez_1⟩ : ∃ z_1 : Int32, z_1 = x7 + (1 : Int32) := ⟨_, rfl⟩
  have h := h z_1 ez_1
  refine ww_iinc (i := 7) (j := 6) (v := z_1) (lv' := [(7, .int z_1), (6, .int y0), (0, .ref (ad 0)), (1, .int x1), (3, .int x3), (4, .int x4), (5, .int x5)]) C dX12_quarrel_114 rfl (by rw [ez_1]; rfl) (by decide) rfl ?_
  refine ww_goto (tgt := 50) C dX12_quarrel_117 (by decide) ?_
  refine ww_sub [2, 3, 4, 5, 6, 1, 0] rfl ?_
  exact hk50 _ _ _ _ _ _ _ h
set_option maxRecDepth 100000 in
theorem w_X12_quarrel_96 {p : Program} {l : Launch} {e : Env} {s : State} {m : MethodId} {args : Array Value} {below : List Frame} {meth : Method} {c : Code} {A : Nat → Prop} {D : va_G} {ad : Nat → Nat} {cI cZ : ClassId} {N : Nat} {Q : Int32 → UU → Prop} {k32 : Int32 → Int32 → Int32 → UU → Prop} {k50 : Int32 → Int32 → Int32 → Int32 → Int32 → Int32 → UU → Prop} (C : Cx p m c cX12_quarrel 9 s args RX12 meth (some .int) A D [(cI, .int), (cZ, .boolean)] EM) (hk32 : ∀ (x1 : Int32) (x3 : Int32) (x4 : Int32) (u : UU), k32 x1 x3 x4 u → WW p l e rm_X12_quarrel s m args below meth c 0 0 (MQ below (QI D A (wM ad cI cZ) Q) args s 0 0 A) A D 9 32 [(0, .ref (ad 0)), (1, .int x1), (3, .int x3), (4, .int x4)] [] (wM ad cI cZ u)) (hk50 : ∀ (x1 : Int32) (x3 : Int32) (x4 : Int32) (x5 : Int32) (x6 : Int32) (x7 : Int32) (u : UU), k50 x1 x3 x4 x5 x6 x7 u → WW p l e rm_X12_quarrel s m args below meth c 0 0 (MQ below (QI D A (wM ad cI cZ) Q) args s 0 0 A) A D 9 50 [(0, .ref (ad 0)), (1, .int x1), (3, .int x3), (4, .int x4), (5, .int x5), (6, .int x6), (7, .int x7)] [] (wM ad cI cZ u)) : ∀ {x1 : Int32} {x3 : Int32} {x4 : Int32} {x6 : Int32} {x7 : Int32} {x8 : Int32} {y0 : Int32} {u : UU}, m_X12_quarrel_96 N k32 k50 x1 x3 x4 x6 x7 x8 y0 u Q → WW p l e rm_X12_quarrel s m args below meth c 0 0 (MQ below (QI D A (wM ad cI cZ) Q) args s 0 0 A) A D 9 96 [(0, .ref (ad 0)), (1, .int x1), (3, .int x3), (4, .int x4), (6, .int x6), (7, .int x7), (8, .int x8)] [.int y0] (wM ad cI cZ u) := by
  intro x1 x3 x4 x6 x7 x8 y0 u h
  unfold m_X12_quarrel_96 at h
  refine ww_istore (i := 5) (lv' := [(5, .int y0), (0, .ref (ad 0)), (1, .int x1), (3, .int x3), (4, .int x4), (6, .int x6), (7, .int x7), (8, .int x8)]) C dX12_quarrel_96 (by decide) rfl ?_
  refine ww_iload C dX12_quarrel_98 7 rfl ?_
  refine ww_iload C dX12_quarrel_100 5 rfl ?_
  refine ww_icmp_le (tgt := 110) C dX12_quarrel_102 (by decide) (fun hc => ?_) (fun hc => ?_)
  · have h := ite_t h hc
    refine ww_iload C dX12_quarrel_110 5 rfl ?_
    refine ww_sub [1, 2, 3, 4, 0, 6] rfl ?_
    exact w_X12_quarrel_112 C hk32 hk50 h
  · have h := ite_f h hc
    refine ww_iload C dX12_quarrel_105 7 rfl ?_
    refine ww_goto (tgt := 112) C dX12_quarrel_107 (by decide) ?_
    refine ww_sub [1, 2, 3, 4, 0, 6] rfl ?_
    exact w_X12_quarrel_112 C hk32 hk50 h
set_option maxRecDepth 100000 in
theorem w_X12_quarrel_94 {p : Program} {l : Launch} {e : Env} {s : State} {m : MethodId} {args : Array Value} {below : List Frame} {meth : Method} {c : Code} {A : Nat → Prop} {D : va_G} {ad : Nat → Nat} {cI cZ : ClassId} {N : Nat} {Q : Int32 → UU → Prop} {k32 : Int32 → Int32 → Int32 → UU → Prop} {k50 : Int32 → Int32 → Int32 → Int32 → Int32 → Int32 → UU → Prop} (C : Cx p m c cX12_quarrel 9 s args RX12 meth (some .int) A D [(cI, .int), (cZ, .boolean)] EM) (hk32 : ∀ (x1 : Int32) (x3 : Int32) (x4 : Int32) (u : UU), k32 x1 x3 x4 u → WW p l e rm_X12_quarrel s m args below meth c 0 0 (MQ below (QI D A (wM ad cI cZ) Q) args s 0 0 A) A D 9 32 [(0, .ref (ad 0)), (1, .int x1), (3, .int x3), (4, .int x4)] [] (wM ad cI cZ u)) (hk50 : ∀ (x1 : Int32) (x3 : Int32) (x4 : Int32) (x5 : Int32) (x6 : Int32) (x7 : Int32) (u : UU), k50 x1 x3 x4 x5 x6 x7 u → WW p l e rm_X12_quarrel s m args below meth c 0 0 (MQ below (QI D A (wM ad cI cZ) Q) args s 0 0 A) A D 9 50 [(0, .ref (ad 0)), (1, .int x1), (3, .int x3), (4, .int x4), (5, .int x5), (6, .int x6), (7, .int x7)] [] (wM ad cI cZ u)) : ∀ {x1 : Int32} {x3 : Int32} {x4 : Int32} {x5 : Int32} {x6 : Int32} {x7 : Int32} {x8 : Int32} {u : UU}, m_X12_quarrel_94 N k32 k50 x1 x3 x4 x5 x6 x7 x8 u Q → WW p l e rm_X12_quarrel s m args below meth c 0 0 (MQ below (QI D A (wM ad cI cZ) Q) args s 0 0 A) A D 9 94 [(0, .ref (ad 0)), (1, .int x1), (3, .int x3), (4, .int x4), (5, .int x5), (6, .int x6), (7, .int x7), (8, .int x8)] [] (wM ad cI cZ u) := by
  intro x1 x3 x4 x5 x6 x7 x8 u h
  unfold m_X12_quarrel_94 at h
  refine ww_iload C dX12_quarrel_94 4 rfl ?_
  refine ww_sub [0, 1, 2, 3, 5, 6, 7] rfl ?_
  exact w_X12_quarrel_96 C hk32 hk50 h
set_option maxRecDepth 100000 in
theorem w_X12_quarrel_143 {p : Program} {l : Launch} {e : Env} {s : State} {m : MethodId} {args : Array Value} {below : List Frame} {meth : Method} {c : Code} {A : Nat → Prop} {D : va_G} {ad : Nat → Nat} {cI cZ : ClassId} {N : Nat} {Q : Int32 → UU → Prop} {k32 : Int32 → Int32 → Int32 → UU → Prop} (C : Cx p m c cX12_quarrel 9 s args RX12 meth (some .int) A D [(cI, .int), (cZ, .boolean)] EM) (hk32 : ∀ (x1 : Int32) (x3 : Int32) (x4 : Int32) (u : UU), k32 x1 x3 x4 u → WW p l e rm_X12_quarrel s m args below meth c 0 0 (MQ below (QI D A (wM ad cI cZ) Q) args s 0 0 A) A D 9 32 [(0, .ref (ad 0)), (1, .int x1), (3, .int x3), (4, .int x4)] [] (wM ad cI cZ u)) : ∀ {x1 : Int32} {x4 : Int32} {y0 : Int32} {u : UU}, m_X12_quarrel_143 N k32 x1 x4 y0 u Q → WW p l e rm_X12_quarrel s m args below meth c 0 0 (MQ below (QI D A (wM ad cI cZ) Q) args s 0 0 A) A D 9 143 [(0, .ref (ad 0)), (1, .int x1), (4, .int x4)] [.int y0] (wM ad cI cZ u) := by
  intro x1 x4 y0 u h
  unfold m_X12_quarrel_143 at h
  refine ww_istore_n (i := 3) (lv' := [(3, .int y0), (0, .ref (ad 0)), (1, .int x1), (4, .int x4)]) C dX12_quarrel_143 rfl (by decide) rfl ?_
  obtain ⟨z_1, ez_1⟩ : ∃ z_1 : Int32, z_1 = x4 + (1 : Int32) := ⟨_, rfl⟩
  have h := h z_1 ez_1
  refine ww_iinc (i := 4) (j := 3) (v := z_1) (lv' := [(4, .int z_1), (3, .int y0), (0, .ref (ad 0)), (1, .int x1)]) C dX12_quarrel_144 rfl (by rw [ez_1]; rfl) (by decide) rfl ?_
  refine ww_goto (tgt := 32) C dX12_quarrel_147 (by decide) ?_
  refine ww_sub [2, 3, 1, 0] rfl ?_
  exact hk32 _ _ _ _ h
set_option maxRecDepth 100000 in
theorem w_X12_quarrel_142 {p : Program} {l : Launch} {e : Env} {s : State} {m : MethodId} {args : Array Value} {below : List Frame} {meth : Method} {c : Code} {A : Nat → Prop} {D : va_G} {ad : Nat → Nat} {cI cZ : ClassId} {N : Nat} {Q : Int32 → UU → Prop} {k32 : Int32 → Int32 → Int32 → UU → Prop} (C : Cx p m c cX12_quarrel 9 s args RX12 meth (some .int) A D [(cI, .int), (cZ, .boolean)] EM) (hk32 : ∀ (x1 : Int32) (x3 : Int32) (x4 : Int32) (u : UU), k32 x1 x3 x4 u → WW p l e rm_X12_quarrel s m args below meth c 0 0 (MQ below (QI D A (wM ad cI cZ) Q) args s 0 0 A) A D 9 32 [(0, .ref (ad 0)), (1, .int x1), (3, .int x3), (4, .int x4)] [] (wM ad cI cZ u)) : ∀ {x1 : Int32} {x3 : Int32} {x4 : Int32} {u : UU}, m_X12_quarrel_142 N k32 x1 x3 x4 u Q → WW p l e rm_X12_quarrel s m args below meth c 0 0 (MQ below (QI D A (wM ad cI cZ) Q) args s 0 0 A) A D 9 142 [(0, .ref (ad 0)), (1, .int x1), (3, .int x3), (4, .int x4)] [] (wM ad cI cZ u) := by
  intro x1 x3 x4 u h
  unfold m_X12_quarrel_142 at h
  refine ww_iload_n C dX12_quarrel_142 rfl 2 rfl ?_
  refine ww_sub [0, 1, 3] rfl ?_
  exact w_X12_quarrel_143 C hk32 h
set_option maxRecDepth 100000 in
theorem w_X12_quarrel_50 {p : Program} {l : Launch} {e : Env} {s : State} {m : MethodId} {args : Array Value} {below : List Frame} {meth : Method} {c : Code} {A : Nat → Prop} {D : va_G} {ad : Nat → Nat} {cI cZ : ClassId} {N : Nat} {Q : Int32 → UU → Prop} {k32 : Int32 → Int32 → Int32 → UU → Prop} (C : Cx p m c cX12_quarrel 9 s args RX12 meth (some .int) A D [(cI, .int), (cZ, .boolean)] EM) (hk32 : ∀ (x1 : Int32) (x3 : Int32) (x4 : Int32) (u : UU), k32 x1 x3 x4 u → WW p l e rm_X12_quarrel s m args below meth c 0 0 (MQ below (QI D A (wM ad cI cZ) Q) args s 0 0 A) A D 9 32 [(0, .ref (ad 0)), (1, .int x1), (3, .int x3), (4, .int x4)] [] (wM ad cI cZ u)) : ∀ (n : Nat) (x1 : Int32) (x3 : Int32) (x4 : Int32) (x5 : Int32) (x6 : Int32) (x7 : Int32) (u : UU), m_X12_quarrel_50 N k32 Q n x1 x3 x4 x5 x6 x7 u → WW p l e rm_X12_quarrel s m args below meth c 0 0 (MQ below (QI D A (wM ad cI cZ) Q) args s 0 0 A) A D 9 50 [(0, .ref (ad 0)), (1, .int x1), (3, .int x3), (4, .int x4), (5, .int x5), (6, .int x6), (7, .int x7)] [] (wM ad cI cZ u) := by
  intro n
  induction n with
  | zero => intro x1 x3 x4 x5 x6 x7 u h; rw [m_X12_quarrel_50] at h; exact h.elim
  | succ n ih =>
    intro x1 x3 x4 x5 x6 x7 u h
    rw [m_X12_quarrel_50] at h
    refine ww_iload C dX12_quarrel_50 6 rfl ?_
    refine ww_bipush (v := 8) C dX12_quarrel_52 (by decide) ?_
    refine ww_icmp_ge (tgt := 120) C dX12_quarrel_54 (by decide) (fun hc => ?_) (fun hc => ?_)
    · have h := ite_t h hc
      refine ww_iload C dX12_quarrel_120 5 rfl ?_
      refine ww_if_le (tgt := 142) C dX12_quarrel_122 (by decide) (fun hc => ?_) (fun hc => ?_)
      · have h := ite_t h hc
        refine ww_sub [0, 1, 2, 3] rfl ?_
        exact w_X12_quarrel_142 C hk32 h
      · have h := ite_f h hc
        refine ww_iload C dX12_quarrel_125 5 rfl ?_
        refine ww_iload C dX12_quarrel_127 4 rfl ?_
        refine ww_isub C dX12_quarrel_129 ?_
        refine ww_iload_n C dX12_quarrel_130 rfl 2 rfl ?_
        refine ww_icmp_le (tgt := 142) C dX12_quarrel_131 (by decide) (fun hc => ?_) (fun hc => ?_)
        · have h := ite_t h hc
          refine ww_sub [0, 1, 2, 3] rfl ?_
          exact w_X12_quarrel_142 C hk32 h
        · have h := ite_f h hc
          refine ww_iload C dX12_quarrel_134 5 rfl ?_
          refine ww_iload C dX12_quarrel_136 4 rfl ?_
          refine ww_isub C dX12_quarrel_138 ?_
          refine ww_goto (tgt := 143) C dX12_quarrel_139 (by decide) ?_
          refine ww_sub [0, 1, 3] rfl ?_
          exact w_X12_quarrel_143 C hk32 h
    · have h := ite_f h hc
      refine ww_aload_n C dX12_quarrel_57 rfl 0 rfl ?_
      refine ww_get C inX12 rfl 12 (by decide) tb_4_48 MF_0_12 dX12_quarrel_58 ?_
      refine ww_bipush (v := 80) C dX12_quarrel_61 (by decide) ?_
      refine ww_iload_n C dX12_quarrel_63 rfl 1 rfl ?_
      refine ww_imul C dX12_quarrel_64 ?_
      refine ww_bipush (v := 8) C dX12_quarrel_65 (by decide) ?_
      refine ww_iload C dX12_quarrel_67 3 rfl ?_
      refine ww_imul C dX12_quarrel_69 ?_
      refine ww_iadd C dX12_quarrel_70 ?_
      refine ww_iload C dX12_quarrel_71 6 rfl ?_
      refine ww_iadd C dX12_quarrel_73 ?_
      obtain ⟨hin, h⟩ := h
      refine ww_iald C 0 rfl MA_9 hin dX12_quarrel_74 ?_
      refine ww_nI (fun z_1 ez_1 => ?_)
      have h := h z_1 ez_1
      refine ww_istore (i := 8) (lv' := [(8, .int z_1), (0, .ref (ad 0)), (1, .int x1), (3, .int x3), (4, .int x4), (5, .int x5), (6, .int x6), (7, .int x7)]) C dX12_quarrel_75 (by decide) rfl ?_
      refine ww_iload C dX12_quarrel_77 0 rfl ?_
      refine ww_if_le (tgt := 94) C dX12_quarrel_79 (by decide) (fun hc => ?_) (fun hc => ?_)
      · have h := ite_t h hc
        refine ww_sub [1, 2, 3, 4, 5, 6, 7, 0] rfl ?_
        exact w_X12_quarrel_94 C hk32 ih h
      · have h := ite_f h hc
        refine ww_iload C dX12_quarrel_82 0 rfl ?_
        refine ww_iload C dX12_quarrel_84 5 rfl ?_
        refine ww_icmp_ge (tgt := 94) C dX12_quarrel_86 (by decide) (fun hc => ?_) (fun hc => ?_)
        · have h := ite_t h hc
          refine ww_sub [1, 2, 3, 4, 5, 6, 7, 0] rfl ?_
          exact w_X12_quarrel_94 C hk32 ih h
        · have h := ite_f h hc
          refine ww_iload C dX12_quarrel_89 0 rfl ?_
          refine ww_goto (tgt := 96) C dX12_quarrel_91 (by decide) ?_
          refine ww_sub [1, 2, 3, 4, 6, 7, 0] rfl ?_
          exact w_X12_quarrel_96 C hk32 ih h
set_option maxRecDepth 100000 in
theorem w_X12_quarrel_32 {p : Program} {l : Launch} {e : Env} {s : State} {m : MethodId} {args : Array Value} {below : List Frame} {meth : Method} {c : Code} {A : Nat → Prop} {D : va_G} {ad : Nat → Nat} {cI cZ : ClassId} {N : Nat} {Q : Int32 → UU → Prop} (C : Cx p m c cX12_quarrel 9 s args RX12 meth (some .int) A D [(cI, .int), (cZ, .boolean)] EM) : ∀ (n : Nat) (x1 : Int32) (x3 : Int32) (x4 : Int32) (u : UU), m_X12_quarrel_32 N Q n x1 x3 x4 u → WW p l e rm_X12_quarrel s m args below meth c 0 0 (MQ below (QI D A (wM ad cI cZ) Q) args s 0 0 A) A D 9 32 [(0, .ref (ad 0)), (1, .int x1), (3, .int x3), (4, .int x4)] [] (wM ad cI cZ u) := by
  intro n
  induction n with
  | zero => intro x1 x3 x4 u h; rw [m_X12_quarrel_32] at h; exact h.elim
  | succ n ih =>
    intro x1 x3 x4 u h
    rw [m_X12_quarrel_32] at h
    refine ww_iload C dX12_quarrel_32 3 rfl ?_
    refine ww_bipush (v := 10) C dX12_quarrel_34 (by decide) ?_
    refine ww_icmp_ge (tgt := 150) C dX12_quarrel_36 (by decide) (fun hc => ?_) (fun hc => ?_)
    · have h := ite_t h hc
      refine ww_iload_n C dX12_quarrel_150 rfl 2 rfl ?_
      exact ww_iret C h dX12_quarrel_151
    · have h := ite_f h hc
      refine ww_sipush (v := 1000) C dX12_quarrel_39 (by decide) ?_
      refine ww_istore (i := 5) (lv' := [(5, .int (1000 : Int32)), (0, .ref (ad 0)), (1, .int x1), (3, .int x3), (4, .int x4)]) C dX12_quarrel_42 (by decide) rfl ?_
      refine ww_iconst (v := 0) C dX12_quarrel_44 (by decide) ?_
      refine ww_istore (i := 6) (lv' := [(6, .int (0 : Int32)), (5, .int (1000 : Int32)), (0, .ref (ad 0)), (1, .int x1), (3, .int x3), (4, .int x4)]) C dX12_quarrel_45 (by decide) rfl ?_
      refine ww_iconst (v := 0) C dX12_quarrel_47 (by decide) ?_
      refine ww_istore (i := 7) (lv' := [(7, .int (0 : Int32)), (6, .int (0 : Int32)), (5, .int (1000 : Int32)), (0, .ref (ad 0)), (1, .int x1), (3, .int x3), (4, .int x4)]) C dX12_quarrel_48 (by decide) rfl ?_
      refine ww_sub [3, 4, 5, 6, 2, 1, 0] rfl ?_
      exact w_X12_quarrel_50 C ih N _ _ _ _ _ _ _ h
set_option maxRecDepth 100000 in
theorem w_X12_quarrel {p : Program} {l : Launch} {e : Env} {s : State} {m : MethodId} {args : Array Value} {below : List Frame} {meth : Method} {c : Code} {A : Nat → Prop} {D : va_G} {ad : Nat → Nat} {cI cZ : ClassId} {N : Nat} {Q : Int32 → UU → Prop} (C : Cx p m c cX12_quarrel 9 s args RX12 meth (some .int) A D [(cI, .int), (cZ, .boolean)] EM) : ∀ {x1 : Int32} {x2 : Int32} {u : UU}, m_X12_quarrel N x1 x2 u Q → WW p l e rm_X12_quarrel s m args below meth c 0 0 (MQ below (QI D A (wM ad cI cZ) Q) args s 0 0 A) A D 9 0 [(0, .ref (ad 0)), (1, .int x1), (2, .int x2)] [] (wM ad cI cZ u) := by
  intro x1 x2 u h
  unfold m_X12_quarrel at h
  refine ww_aload_n C dX12_quarrel_0 rfl 0 rfl ?_
  refine ww_iconst (v := 0) C dX12_quarrel_1 (by decide) ?_
  refine ww_put C inX12 rfl tyX12 tyX12_ok nmX12 0 (by decide) tb_4_36 rfl rfl rfl MS_0_0 dX12_quarrel_2 ?_
  refine ww_nU (wM ad cI cZ) (fun u_1 eu_1 => ?_)
  have h := h u_1 eu_1
  refine ww_aload_n C dX12_quarrel_5 rfl 0 rfl ?_
  refine ww_iload_n C dX12_quarrel_6 rfl 1 rfl ?_
  refine ww_callVi (As := [.int x1]) (rest := []) C EM_ok (c_X12_isBoard h) tb_4_210 tb_4_212 tbs_19 tb_1_13 tb_4_213 rfl rfl ⟨rfl, hd_X12_isBoard⟩ ⟨Nat.le_of_ble_eq_true rfl, Nat.le_of_ble_eq_true rfl⟩ rfl MF_0_0 rfl rfl (Nat.le_of_ble_eq_true rfl) dX12_quarrel_7 ⟨Nat.zero_le _, Nat.zero_le _⟩ (fun r_3 u_2 h => ?_)
  refine ww_if_eq (tgt := 20) C dX12_quarrel_10 (by decide) (fun hc => ?_) (fun hc => ?_)
  · have h := ite_t h hc
    refine ww_iconst (v := (-1)) C dX12_quarrel_20 (by decide) ?_
    exact ww_iret C h dX12_quarrel_21
  · have h := ite_f h hc
    refine ww_iload_n C dX12_quarrel_13 rfl 2 rfl ?_
    refine ww_callSi (As := [.int x2]) (rest := []) C EM_ok (c_X12_isKnown h) tb_4_206 tb_4_207 tb_1_13 tb_4_208 rfl rfl hd_X12_isKnown ⟨Nat.le_of_ble_eq_true rfl, Nat.le_of_ble_eq_true rfl⟩ rfl rfl (Nat.le_of_ble_eq_true rfl) dX12_quarrel_14 ⟨Nat.zero_le _, Nat.zero_le _⟩ (fun r_5 u_4 h => ?_)
    refine ww_if_ne (tgt := 22) C dX12_quarrel_17 (by decide) (fun hc => ?_) (fun hc => ?_)
    · have h := ite_f h hc
      refine ww_aload_n C dX12_quarrel_22 rfl 0 rfl ?_
      refine ww_iload_n C dX12_quarrel_23 rfl 2 rfl ?_
      refine ww_callVv (As := [.int x2]) (rest := []) C EM_ok (c_X12_find h) tb_4_227 tb_4_229 tbs_20 tb_1_13 tb_4_230 rfl rfl ⟨rfl, hd_X12_find⟩ ⟨Nat.le_of_ble_eq_true rfl, Nat.le_of_ble_eq_true rfl⟩ rfl MF_0_0 rfl rfl (Nat.le_of_ble_eq_true rfl) dX12_quarrel_24 ⟨Nat.zero_le _, Nat.zero_le _⟩ (fun u_6 h => ?_)
      refine ww_iconst (v := 0) C dX12_quarrel_27 (by decide) ?_
      refine ww_istore_n (i := 3) (lv' := [(3, .int (0 : Int32)), (0, .ref (ad 0)), (1, .int x1), (2, .int x2)]) C dX12_quarrel_28 rfl (by decide) rfl ?_
      refine ww_iconst (v := 0) C dX12_quarrel_29 (by decide) ?_
      refine ww_istore (i := 4) (lv' := [(4, .int (0 : Int32)), (3, .int (0 : Int32)), (0, .ref (ad 0)), (1, .int x1), (2, .int x2)]) C dX12_quarrel_30 (by decide) rfl ?_
      refine ww_sub [2, 3, 1, 0] rfl ?_
      exact w_X12_quarrel_32 C N _ _ _ _ h
    · have h := ite_t h hc
      refine ww_iconst (v := (-1)) C dX12_quarrel_20 (by decide) ?_
      exact ww_iret C h dX12_quarrel_21
theorem c_X12_quarrel {l : Launch} {D : va_G} {ad : Nat → Nat} {cI cZ : ClassId} {N : Nat} {x1 : Int32} {x2 : Int32} {u : UU} {Q : Int32 → UU → Prop} (h : m_X12_quarrel N x1 x2 u Q) : MI l D [(cI, .int), (cZ, .boolean)] EM yX12_quarrel (Cond.code yX12_quarrel cX12_quarrel 9 (some .int)) rm_X12_quarrel [.ref (ad 0), .int x1, .int x2] (wM ad cI cZ u) (wM ad cI cZ) Q :=
  MI_of (own := RX12) (by decide) rfl (Nat.le_of_ble_eq_true rfl) rfl (fun p e s m args below meth c A C => w_X12_quarrel C h)
theorem hd_X12_quarrel : yX12_quarrel.cls ≠ "java/lang/invoke/MethodHandle" ∧ yX12_quarrel.cls ≠ "java/lang/invoke/VarHandle" ∧ (parseMethodDescriptor yX12_quarrel.desc).map (fun d => d.parameters.length) = some 2 := by decide +kernel
abbrev rm_X12_count : Room := { frames := 0, cells := 0, slots := 0, locals := 0 }
set_option maxRecDepth 100000 in
theorem w_X12_count_95 {p : Program} {l : Launch} {e : Env} {s : State} {m : MethodId} {args : Array Value} {below : List Frame} {meth : Method} {c : Code} {A : Nat → Prop} {D : va_G} {ad : Nat → Nat} {cI cZ : ClassId} {N : Nat} {Q : Int32 → UU → Prop} {k73 : Int32 → Int32 → UU → Prop} (C : Cx p m c cX12_count 4 s args RX12 meth (some .int) A D [(cI, .int), (cZ, .boolean)] EM) (hk73 : ∀ (x2 : Int32) (x3 : Int32) (u : UU), k73 x2 x3 u → WW p l e rm_X12_count s m args below meth c 0 0 (MQ below (QI D A (wM ad cI cZ) Q) args s 0 0 A) A D 4 73 [(0, .ref (ad 0)), (2, .int x2), (3, .int x3)] [] (wM ad cI cZ u)) : ∀ {x3 : Int32} {y0 : Int32} {y1 : Int32} {u : UU}, m_X12_count_95 N k73 x3 y0 y1 u Q → WW p l e rm_X12_count s m args below meth c 0 0 (MQ below (QI D A (wM ad cI cZ) Q) args s 0 0 A) A D 4 95 [(0, .ref (ad 0)), (3, .int x3)] [.int y1, .int y0] (wM ad cI cZ u) := by
  intro x3 y0 y1 u h
  unfold m_X12_count_95 at h
  refine ww_iadd C dX12_count_95 ?_
  refine ww_nI (fun z_1 ez_1 => ?_)
  have h := h z_1 ez_1
  refine ww_istore_n (i := 2) (lv' := [(2, .int z_1), (0, .ref (ad 0)), (3, .int x3)]) C dX12_count_96 rfl (by decide) rfl ?_
  obtain ⟨z_2, ez_2⟩ : ∃ z_2 : Int32, z_2 = x3 + (1 : Int32) := ⟨_, rfl⟩
  have h := h z_2 ez_2
  refine ww_iinc (i := 3) (j := 2) (v := z_2) (lv' := [(3, .int z_2), (2, .int z_1), (0, .ref (ad 0))]) C dX12_count_97 rfl (by rw [ez_2]; rfl) (by decide) rfl ?_
  refine ww_goto (tgt := 73) C dX12_count_100 (by decide) ?_
  refine ww_sub [2, 1, 0] rfl ?_
  exact hk73 _ _ _ h
set_option maxRecDepth 100000 in
theorem w_X12_count_73 {p : Program} {l : Launch} {e : Env} {s : State} {m : MethodId} {args : Array Value} {below : List Frame} {meth : Method} {c : Code} {A : Nat → Prop} {D : va_G} {ad : Nat → Nat} {cI cZ : ClassId} {N : Nat} {Q : Int32 → UU → Prop} (C : Cx p m c cX12_count 4 s args RX12 meth (some .int) A D [(cI, .int), (cZ, .boolean)] EM) : ∀ (n : Nat) (x2 : Int32) (x3 : Int32) (u : UU), m_X12_count_73 N Q n x2 x3 u → WW p l e rm_X12_count s m args below meth c 0 0 (MQ below (QI D A (wM ad cI cZ) Q) args s 0 0 A) A D 4 73 [(0, .ref (ad 0)), (2, .int x2), (3, .int x3)] [] (wM ad cI cZ u) := by
  intro n
  induction n with
  | zero => intro x2 x3 u h; rw [m_X12_count_73] at h; exact h.elim
  | succ n ih =>
    intro x2 x3 u h
    rw [m_X12_count_73] at h
    refine ww_iload_n C dX12_count_73 rfl 2 rfl ?_
    refine ww_bipush (v := 64) C dX12_count_74 (by decide) ?_
    refine ww_icmp_ge (tgt := 103) C dX12_count_76 (by decide) (fun hc => ?_) (fun hc => ?_)
    · have h := ite_t h hc
      refine ww_iload_n C dX12_count_103 rfl 1 rfl ?_
      exact ww_iret C h dX12_count_104
    · have h := ite_f h hc
      refine ww_iload_n C dX12_count_79 rfl 1 rfl ?_
      refine ww_aload_n C dX12_count_80 rfl 0 rfl ?_
      refine ww_get C inX12 rfl 28 (by decide) tb_4_64 MF_0_28 dX12_count_81 ?_
      refine ww_iload_n C dX12_count_84 rfl 2 rfl ?_
      obtain ⟨hin, h⟩ := h
      refine ww_iald C 0 rfl MA_19 hin dX12_count_85 ?_
      refine ww_iconst (v := (-1)) C dX12_count_86 (by decide) ?_
      refine ww_icmp_eq (tgt := 94) C dX12_count_87 (by decide) (fun hc => ?_) (fun hc => ?_)
      · have h := ite_t h hc
        refine ww_iconst (v := 0) C dX12_count_94 (by decide) ?_
        refine ww_sub [0, 2] rfl ?_
        exact w_X12_count_95 C ih h
      · have h := ite_f h hc
        refine ww_iconst (v := 1) C dX12_count_90 (by decide) ?_
        refine ww_goto (tgt := 95) C dX12_count_91 (by decide) ?_
        refine ww_sub [0, 2] rfl ?_
        exact w_X12_count_95 C ih h
set_option maxRecDepth 100000 in
theorem w_X12_count {p : Program} {l : Launch} {e : Env} {s : State} {m : MethodId} {args : Array Value} {below : List Frame} {meth : Method} {c : Code} {A : Nat → Prop} {D : va_G} {ad : Nat → Nat} {cI cZ : ClassId} {N : Nat} {Q : Int32 → UU → Prop} (C : Cx p m c cX12_count 4 s args RX12 meth (some .int) A D [(cI, .int), (cZ, .boolean)] EM) : ∀ {x1 : Int32} {u : UU}, m_X12_count N x1 u Q → WW p l e rm_X12_count s m args below meth c 0 0 (MQ below (QI D A (wM ad cI cZ) Q) args s 0 0 A) A D 4 0 [(0, .ref (ad 0)), (1, .int x1)] [] (wM ad cI cZ u) := by
  intro x1 u h
  unfold m_X12_count at h
  refine ww_aload_n C dX12_count_0 rfl 0 rfl ?_
  refine ww_iconst (v := 0) C dX12_count_1 (by decide) ?_
  refine ww_put C inX12 rfl tyX12 tyX12_ok nmX12 0 (by decide) tb_4_36 rfl rfl rfl MS_0_0 dX12_count_2 ?_
  refine ww_nU (wM ad cI cZ) (fun u_1 eu_1 => ?_)
  have h := h u_1 eu_1
  refine ww_iload_n C dX12_count_5 rfl 1 rfl ?_
  by_cases hs0 : x1 = 0
  · have h := ite_t h hs0
    refine ww_tableIn (off := 38) (tgt := 44) C dX12_count_6 (by rw [hs0]; decide) (by rw [hs0]; decide) (by rw [hs0]; rfl) (by decide) ?_
    refine ww_aload_n C dX12_count_44 rfl 0 rfl ?_
    refine ww_get C inX12 rfl 2 (by decide) tb_4_38 MF_0_2 dX12_count_45 ?_
    exact ww_iret C h dX12_count_48
  have h := ite_f h hs0
  by_cases hs1 : x1 = 1
  · have h := ite_t h hs1
    refine ww_tableIn (off := 43) (tgt := 49) C dX12_count_6 (by rw [hs1]; decide) (by rw [hs1]; decide) (by rw [hs1]; rfl) (by decide) ?_
    refine ww_aload_n C dX12_count_49 rfl 0 rfl ?_
    refine ww_get C inX12 rfl 6 (by decide) tb_4_42 MF_0_6 dX12_count_50 ?_
    exact ww_iret C h dX12_count_53
  have h := ite_f h hs1
  by_cases hs2 : x1 = 2
  · have h := ite_t h hs2
    refine ww_tableIn (off := 48) (tgt := 54) C dX12_count_6 (by rw [hs2]; decide) (by rw [hs2]; decide) (by rw [hs2]; rfl) (by decide) ?_
    refine ww_aload_n C dX12_count_54 rfl 0 rfl ?_
    refine ww_get C inX12 rfl 29 (by decide) tb_4_65 MF_0_29 dX12_count_55 ?_
    exact ww_iret C h dX12_count_58
  have h := ite_f h hs2
  by_cases hs3 : x1 = 3
  · have h := ite_t h hs3
    refine ww_tableIn (off := 53) (tgt := 59) C dX12_count_6 (by rw [hs3]; decide) (by rw [hs3]; decide) (by rw [hs3]; rfl) (by decide) ?_
    refine ww_aload_n C dX12_count_59 rfl 0 rfl ?_
    refine ww_get C inX12 rfl 44 (by decide) tb_4_80 MF_0_44 dX12_count_60 ?_
    exact ww_iret C h dX12_count_63
  have h := ite_f h hs3
  by_cases hs4 : x1 = 4
  · have h := ite_t h hs4
    refine ww_tableIn (off := 58) (tgt := 64) C dX12_count_6 (by rw [hs4]; decide) (by rw [hs4]; decide) (by rw [hs4]; rfl) (by decide) ?_
    refine ww_aload_n C dX12_count_64 rfl 0 rfl ?_
    refine ww_get C inX12 rfl 37 (by decide) tb_4_73 MF_0_37 dX12_count_65 ?_
    exact ww_iret C h dX12_count_68
  have h := ite_f h hs4
  by_cases hs5 : x1 = 5
  · have h := ite_t h hs5
    refine ww_tableIn (off := 63) (tgt := 69) C dX12_count_6 (by rw [hs5]; decide) (by rw [hs5]; decide) (by rw [hs5]; rfl) (by decide) ?_
    refine ww_iconst (v := 0) C dX12_count_69 (by decide) ?_
    refine ww_istore_n (i := 2) (lv' := [(2, .int (0 : Int32)), (0, .ref (ad 0)), (1, .int x1)]) C dX12_count_70 rfl (by decide) rfl ?_
    refine ww_iconst (v := 0) C dX12_count_71 (by decide) ?_
    refine ww_istore_n (i := 3) (lv' := [(3, .int (0 : Int32)), (2, .int (0 : Int32)), (0, .ref (ad 0)), (1, .int x1)]) C dX12_count_72 rfl (by decide) rfl ?_
    refine ww_sub [2, 1, 0] rfl ?_
    exact w_X12_count_73 C N _ _ _ h
  have h := ite_f h hs5
  refine ww_tableOut (tgt := 105) C dX12_count_6 (by have a0 := sw_ne (k := 0) hs0 (by decide); have a1 := sw_ne (k := 1) hs1 (by decide); have a2 := sw_ne (k := 2) hs2 (by decide); have a3 := sw_ne (k := 3) hs3 (by decide); have a4 := sw_ne (k := 4) hs4 (by decide); have a5 := sw_ne (k := 5) hs5 (by decide); omega) (by decide) ?_
  refine ww_iconst (v := (-1)) C dX12_count_105 (by decide) ?_
  exact ww_iret C h dX12_count_106
theorem c_X12_count {l : Launch} {D : va_G} {ad : Nat → Nat} {cI cZ : ClassId} {N : Nat} {x1 : Int32} {u : UU} {Q : Int32 → UU → Prop} (h : m_X12_count N x1 u Q) : MI l D [(cI, .int), (cZ, .boolean)] EM yX12_count (Cond.code yX12_count cX12_count 4 (some .int)) rm_X12_count [.ref (ad 0), .int x1] (wM ad cI cZ u) (wM ad cI cZ) Q :=
  MI_of (own := RX12) (by decide) rfl (Nat.le_of_ble_eq_true rfl) rfl (fun p e s m args below meth c A C => w_X12_count C h)
theorem hd_X12_count : yX12_count.cls ≠ "java/lang/invoke/MethodHandle" ∧ yX12_count.cls ≠ "java/lang/invoke/VarHandle" ∧ (parseMethodDescriptor yX12_count.desc).map (fun d => d.parameters.length) = some 1 := by decide +kernel
abbrev rm_X12_status : Room := { frames := 0, cells := 0, slots := 0, locals := 0 }
set_option maxRecDepth 100000 in
theorem w_X12_status {p : Program} {l : Launch} {e : Env} {s : State} {m : MethodId} {args : Array Value} {below : List Frame} {meth : Method} {c : Code} {A : Nat → Prop} {D : va_G} {ad : Nat → Nat} {cI cZ : ClassId} {N : Nat} {Q : Int32 → UU → Prop} (C : Cx p m c cX12_status 1 s args RX12 meth (some .int) A D [(cI, .int), (cZ, .boolean)] EM) : ∀ {u : UU}, m_X12_status N  u Q → WW p l e rm_X12_status s m args below meth c 0 0 (MQ below (QI D A (wM ad cI cZ) Q) args s 0 0 A) A D 1 0 [(0, .ref (ad 0))] [] (wM ad cI cZ u) := by
  intro  u h
  unfold m_X12_status at h
  refine ww_aload_n C dX12_status_0 rfl 0 rfl ?_
  refine ww_iconst (v := 0) C dX12_status_1 (by decide) ?_
  refine ww_put C inX12 rfl tyX12 tyX12_ok nmX12 0 (by decide) tb_4_36 rfl rfl rfl MS_0_0 dX12_status_2 ?_
  refine ww_nU (wM ad cI cZ) (fun u_1 eu_1 => ?_)
  have h := h u_1 eu_1
  refine ww_aload_n C dX12_status_5 rfl 0 rfl ?_
  refine ww_get C inX12 rfl 1 (by decide) tb_4_37 MF_0_1 dX12_status_6 ?_
  exact ww_iret C h dX12_status_9
theorem c_X12_status {l : Launch} {D : va_G} {ad : Nat → Nat} {cI cZ : ClassId} {N : Nat}  {u : UU} {Q : Int32 → UU → Prop} (h : m_X12_status N  u Q) : MI l D [(cI, .int), (cZ, .boolean)] EM yX12_status (Cond.code yX12_status cX12_status 1 (some .int)) rm_X12_status [.ref (ad 0)] (wM ad cI cZ u) (wM ad cI cZ) Q :=
  MI_of (own := RX12) (by decide) rfl (Nat.le_of_ble_eq_true rfl) rfl (fun p e s m args below meth c A C => w_X12_status C h)
theorem hd_X12_status : yX12_status.cls ≠ "java/lang/invoke/MethodHandle" ∧ yX12_status.cls ≠ "java/lang/invoke/VarHandle" ∧ (parseMethodDescriptor yX12_status.desc).map (fun d => d.parameters.length) = some 0 := by decide +kernel
