abbrev rm_X12_isHit : Room := { frames := 0, cells := 0, slots := 0, locals := 0 }
set_option maxRecDepth 100000 in
theorem w_X12_isHit {p : Program} {l : Launch} {e : Env} {s : State} {m : MethodId} {args : Array Value} {below : List Frame} {meth : Method} {c : Code} {A : Nat → Prop} {D : va_G} {ad : Nat → Nat} {cI cZ : ClassId} {N : Nat} {Q : Int32 → UU → Prop} (C : Cx p m c cX12_isHit 3 s args RX12 meth (some .boolean) A D [(cI, .int), (cZ, .boolean)] EM) : ∀ {x1 : Int32} {x2 : Int32} {u : UU}, m_X12_isHit N x1 x2 u Q → WW p l e rm_X12_isHit s m args below meth c 0 0 (MQ below (QI D A (wM ad cI cZ) Q) args s 0 0 A) A D 3 0 [(0, .ref (ad 0)), (1, .int x1), (2, .int x2)] [] (wM ad cI cZ u) := by
  intro x1 x2 u h
  unfold m_X12_isHit at h
  refine ww_aload_n C dX12_isHit_0 rfl 0 rfl ?_
  refine ww_get C inX12 rfl 21 (by decide) tb_4_57 MF_0_21 dX12_isHit_1 ?_
  refine ww_iload_n C dX12_isHit_4 rfl 1 rfl ?_
  obtain ⟨hin, h⟩ := h
  refine ww_zald C 1 rfl MA_17 hin dX12_isHit_5 ?_
  refine ww_if_eq (tgt := 23) C dX12_isHit_6 (by decide) (fun hc => ?_) (fun hc => ?_)
  · have h := ite_t h hc
    refine ww_iconst (v := 0) C dX12_isHit_23 (by decide) ?_
    exact ww_zret C h.1 h.2 dX12_isHit_24
  · have h := ite_f h hc
    refine ww_aload_n C dX12_isHit_9 rfl 0 rfl ?_
    refine ww_get C inX12 rfl 19 (by decide) tb_4_55 MF_0_19 dX12_isHit_10 ?_
    refine ww_iload_n C dX12_isHit_13 rfl 1 rfl ?_
    obtain ⟨hin, h⟩ := h
    refine ww_iald C 0 rfl MA_15 hin dX12_isHit_14 ?_
    refine ww_iload_n C dX12_isHit_15 rfl 2 rfl ?_
    refine ww_icmp_lt (tgt := 23) C dX12_isHit_16 (by decide) (fun hc => ?_) (fun hc => ?_)
    · have h := ite_t h hc
      refine ww_iconst (v := 0) C dX12_isHit_23 (by decide) ?_
      exact ww_zret C h.1 h.2 dX12_isHit_24
    · have h := ite_f h hc
      refine ww_iconst (v := 1) C dX12_isHit_19 (by decide) ?_
      refine ww_goto (tgt := 24) C dX12_isHit_20 (by decide) ?_
      exact ww_zret C h.1 h.2 dX12_isHit_24
theorem c_X12_isHit {l : Launch} {D : va_G} {ad : Nat → Nat} {cI cZ : ClassId} {N : Nat} {x1 : Int32} {x2 : Int32} {u : UU} {Q : Int32 → UU → Prop} (h : m_X12_isHit N x1 x2 u Q) : MI l D [(cI, .int), (cZ, .boolean)] EM yX12_isHit (Cond.code yX12_isHit cX12_isHit 3 (some .boolean)) rm_X12_isHit [.ref (ad 0), .int x1, .int x2] (wM ad cI cZ u) (wM ad cI cZ) Q :=
  MI_of (own := RX12) (by decide) rfl (Nat.le_of_ble_eq_true rfl) rfl (fun p e s m args below meth c A C => w_X12_isHit C h)
theorem hd_X12_isHit : yX12_isHit.cls ≠ "java/lang/invoke/MethodHandle" ∧ yX12_isHit.cls ≠ "java/lang/invoke/VarHandle" ∧ (parseMethodDescriptor yX12_isHit.desc).map (fun d => d.parameters.length) = some 2 := by decide +kernel
abbrev rm_X12_isNear : Room := { frames := 0, cells := 0, slots := 0, locals := 0 }
set_option maxRecDepth 100000 in
theorem w_X12_isNear {p : Program} {l : Launch} {e : Env} {s : State} {m : MethodId} {args : Array Value} {below : List Frame} {meth : Method} {c : Code} {A : Nat → Prop} {D : va_G} {ad : Nat → Nat} {cI cZ : ClassId} {N : Nat} {Q : Int32 → UU → Prop} (C : Cx p m c cX12_isNear 11 s args RX12 meth (some .boolean) A D [(cI, .int), (cZ, .boolean)] EM) : ∀ {x1 : Int32} {x2 : Int32} {x3 : Int32} {x4 : Int32} {u : UU}, m_X12_isNear N x1 x2 x3 x4 u Q → WW p l e rm_X12_isNear s m args below meth c 0 0 (MQ below (QI D A (wM ad cI cZ) Q) args s 0 0 A) A D 11 0 [(0, .ref (ad 0)), (1, .int x1), (2, .int x2), (3, .int x3), (4, .int x4)] [] (wM ad cI cZ u) := by
  intro x1 x2 x3 x4 u h
  unfold m_X12_isNear at h
  refine ww_aload_n C dX12_isNear_0 rfl 0 rfl ?_
  refine ww_get C inX12 rfl 3 (by decide) tb_4_39 MF_0_3 dX12_isNear_1 ?_
  refine ww_iload_n C dX12_isNear_4 rfl 2 rfl ?_
  obtain ⟨hin, h⟩ := h
  refine ww_iald C 0 rfl MA_1 hin dX12_isNear_5 ?_
  refine ww_aload_n C dX12_isNear_6 rfl 0 rfl ?_
  refine ww_get C inX12 rfl 3 (by decide) tb_4_39 MF_0_3 dX12_isNear_7 ?_
  refine ww_iload_n C dX12_isNear_10 rfl 1 rfl ?_
  obtain ⟨hin, h⟩ := h
  refine ww_iald C 0 rfl MA_1 hin dX12_isNear_11 ?_
  refine ww_isub C dX12_isNear_12 ?_
  refine ww_i2l C dX12_isNear_13 ?_
  refine ww_nL (fun z_1 ez_1 => ?_)
  have h := h z_1 ez_1
  refine ww_lstore (i := 5) (lv' := [(5, .long z_1), (0, .ref (ad 0)), (1, .int x1), (2, .int x2), (3, .int x3), (4, .int x4)]) C dX12_isNear_14 (by decide) rfl ?_
  refine ww_aload_n C dX12_isNear_16 rfl 1 rfl ?_
  refine ww_get C inX12 rfl 4 (by decide) tb_4_40 MF_0_4 dX12_isNear_17 ?_
  refine ww_iload_n C dX12_isNear_20 rfl 3 rfl ?_
  obtain ⟨hin, h⟩ := h
  refine ww_iald C 0 rfl MA_2 hin dX12_isNear_21 ?_
  refine ww_aload_n C dX12_isNear_22 rfl 1 rfl ?_
  refine ww_get C inX12 rfl 4 (by decide) tb_4_40 MF_0_4 dX12_isNear_23 ?_
  refine ww_iload_n C dX12_isNear_26 rfl 2 rfl ?_
  obtain ⟨hin, h⟩ := h
  refine ww_iald C 0 rfl MA_2 hin dX12_isNear_27 ?_
  refine ww_isub C dX12_isNear_28 ?_
  refine ww_i2l C dX12_isNear_29 ?_
  refine ww_nL (fun z_2 ez_2 => ?_)
  have h := h z_2 ez_2
  refine ww_lstore (i := 7) (lv' := [(7, .long z_2), (5, .long z_1), (0, .ref (ad 0)), (1, .int x1), (2, .int x2), (3, .int x3), (4, .int x4)]) C dX12_isNear_30 (by decide) rfl ?_
  refine ww_lload C dX12_isNear_32 1 rfl ?_
  refine ww_aload_n C dX12_isNear_34 rfl 2 rfl ?_
  refine ww_get C inX12 rfl 4 (by decide) tb_4_40 MF_0_4 dX12_isNear_35 ?_
  refine ww_iload_n C dX12_isNear_38 rfl 5 rfl ?_
  obtain ⟨hin, h⟩ := h
  refine ww_iald C 0 rfl MA_2 hin dX12_isNear_39 ?_
  refine ww_aload_n C dX12_isNear_40 rfl 2 rfl ?_
  refine ww_get C inX12 rfl 4 (by decide) tb_4_40 MF_0_4 dX12_isNear_41 ?_
  refine ww_iload_n C dX12_isNear_44 rfl 3 rfl ?_
  obtain ⟨hin, h⟩ := h
  refine ww_iald C 0 rfl MA_2 hin dX12_isNear_45 ?_
  refine ww_isub C dX12_isNear_46 ?_
  refine ww_i2l C dX12_isNear_47 ?_
  refine ww_lmul C dX12_isNear_48 ?_
  refine ww_lload C dX12_isNear_49 0 rfl ?_
  refine ww_aload_n C dX12_isNear_51 rfl 2 rfl ?_
  refine ww_get C inX12 rfl 3 (by decide) tb_4_39 MF_0_3 dX12_isNear_52 ?_
  refine ww_iload_n C dX12_isNear_55 rfl 5 rfl ?_
  obtain ⟨hin, h⟩ := h
  refine ww_iald C 0 rfl MA_1 hin dX12_isNear_56 ?_
  refine ww_aload_n C dX12_isNear_57 rfl 2 rfl ?_
  refine ww_get C inX12 rfl 3 (by decide) tb_4_39 MF_0_3 dX12_isNear_58 ?_
  refine ww_iload_n C dX12_isNear_61 rfl 3 rfl ?_
  obtain ⟨hin, h⟩ := h
  refine ww_iald C 0 rfl MA_1 hin dX12_isNear_62 ?_
  refine ww_isub C dX12_isNear_63 ?_
  refine ww_i2l C dX12_isNear_64 ?_
  refine ww_lmul C dX12_isNear_65 ?_
  refine ww_lsub C dX12_isNear_66 ?_
  refine ww_nL (fun z_3 ez_3 => ?_)
  have h := h z_3 ez_3
  refine ww_lstore (i := 9) (lv' := [(9, .long z_3), (7, .long z_2), (5, .long z_1), (0, .ref (ad 0)), (1, .int x1), (2, .int x2), (3, .int x3), (4, .int x4)]) C dX12_isNear_67 (by decide) rfl ?_
  refine ww_lload C dX12_isNear_69 0 rfl ?_
  refine ww_lload C dX12_isNear_71 0 rfl ?_
  refine ww_lmul C dX12_isNear_73 ?_
  refine ww_iload C dX12_isNear_74 7 rfl ?_
  refine ww_i2l C dX12_isNear_76 ?_
  refine ww_iload C dX12_isNear_77 7 rfl ?_
  refine ww_i2l C dX12_isNear_79 ?_
  refine ww_lmul C dX12_isNear_80 ?_
  refine ww_lload C dX12_isNear_81 2 rfl ?_
  refine ww_lload C dX12_isNear_83 2 rfl ?_
  refine ww_lmul C dX12_isNear_85 ?_
  refine ww_lload C dX12_isNear_86 1 rfl ?_
  refine ww_lload C dX12_isNear_88 1 rfl ?_
  refine ww_lmul C dX12_isNear_90 ?_
  refine ww_ladd C dX12_isNear_91 ?_
  refine ww_lmul C dX12_isNear_92 ?_
  refine ww_lcmp C dX12_isNear_93 ?_
  refine ww_if_gt (tgt := 101) C dX12_isNear_94 (by decide) (fun hc => ?_) (fun hc => ?_)
  · have h := ite_t h hc
    refine ww_iconst (v := 0) C dX12_isNear_101 (by decide) ?_
    exact ww_zret C h.1 h.2 dX12_isNear_102
  · have h := ite_f h hc
    refine ww_iconst (v := 1) C dX12_isNear_97 (by decide) ?_
    refine ww_goto (tgt := 102) C dX12_isNear_98 (by decide) ?_
    exact ww_zret C h.1 h.2 dX12_isNear_102
theorem c_X12_isNear {l : Launch} {D : va_G} {ad : Nat → Nat} {cI cZ : ClassId} {N : Nat} {x1 : Int32} {x2 : Int32} {x3 : Int32} {x4 : Int32} {u : UU} {Q : Int32 → UU → Prop} (h : m_X12_isNear N x1 x2 x3 x4 u Q) : MI l D [(cI, .int), (cZ, .boolean)] EM yX12_isNear (Cond.code yX12_isNear cX12_isNear 11 (some .boolean)) rm_X12_isNear [.ref (ad 0), .int x1, .int x2, .int x3, .int x4] (wM ad cI cZ u) (wM ad cI cZ) Q :=
  MI_of (own := RX12) (by decide) rfl (Nat.le_of_ble_eq_true rfl) rfl (fun p e s m args below meth c A C => w_X12_isNear C h)
theorem hd_X12_isNear : yX12_isNear.cls ≠ "java/lang/invoke/MethodHandle" ∧ yX12_isNear.cls ≠ "java/lang/invoke/VarHandle" ∧ (parseMethodDescriptor yX12_isNear.desc).map (fun d => d.parameters.length) = some 4 := by decide +kernel
abbrev rm_X12_track : Room := { frames := 2, cells := 0, slots := 0, locals := 48 }
set_option maxRecDepth 100000 in
theorem w_X12_track_200 {p : Program} {l : Launch} {e : Env} {s : State} {m : MethodId} {args : Array Value} {below : List Frame} {meth : Method} {c : Code} {A : Nat → Prop} {D : va_G} {ad : Nat → Nat} {cI cZ : ClassId} {N : Nat} {Q : Int32 → UU → Prop} {k64 : Int32 → Int32 → Int32 → Int32 → UU → Prop} {k79 : Int32 → Int32 → Int32 → Int32 → Int32 → UU → Prop} {k155 : Int32 → Int32 → Int32 → Int32 → Int32 → Int32 → Int32 → Int32 → UU → Prop} (C : Cx p m c cX12_track 10 s args RX12 meth (some .int) A D [(cI, .int), (cZ, .boolean)] EM) (hk64 : ∀ (x1 : Int32) (x2 : Int32) (x4 : Int32) (x5 : Int32) (u : UU), k64 x1 x2 x4 x5 u → WW p l e rm_X12_track s m args below meth c 0 0 (MQ below (QI D A (wM ad cI cZ) Q) args s 0 0 A) A D 10 64 [(0, .ref (ad 0)), (1, .int x1), (2, .int x2), (4, .int x4), (5, .int x5)] [] (wM ad cI cZ u)) (hk79 : ∀ (x1 : Int32) (x2 : Int32) (x4 : Int32) (x5 : Int32) (x6 : Int32) (u : UU), k79 x1 x2 x4 x5 x6 u → WW p l e rm_X12_track s m args below meth c 0 0 (MQ below (QI D A (wM ad cI cZ) Q) args s 0 0 A) A D 10 79 [(0, .ref (ad 0)), (1, .int x1), (2, .int x2), (4, .int x4), (5, .int x5), (6, .int x6)] [] (wM ad cI cZ u)) (hk155 : ∀ (x1 : Int32) (x2 : Int32) (x4 : Int32) (x5 : Int32) (x6 : Int32) (x7 : Int32) (x8 : Int32) (x9 : Int32) (u : UU), k155 x1 x2 x4 x5 x6 x7 x8 x9 u → WW p l e rm_X12_track s m args below meth c 0 0 (MQ below (QI D A (wM ad cI cZ) Q) args s 0 0 A) A D 10 155 [(0, .ref (ad 0)), (1, .int x1), (2, .int x2), (4, .int x4), (5, .int x5), (6, .int x6), (7, .int x7), (8, .int x8), (9, .int x9)] [] (wM ad cI cZ u)) : ∀ {x1 : Int32} {x2 : Int32} {x4 : Int32} {x5 : Int32} {x6 : Int32} {x7 : Int32} {x9 : Int32} {y0 : Int32} {y1 : Int32} {u : UU}, m_X12_track_200 N k64 k79 k155 x1 x2 x4 x5 x6 x7 x9 y0 y1 u Q → WW p l e rm_X12_track s m args below meth c 0 0 (MQ below (QI D A (wM ad cI cZ) Q) args s 0 0 A) A D 10 200 [(0, .ref (ad 0)), (1, .int x1), (2, .int x2), (4, .int x4), (5, .int x5), (6, .int x6), (7, .int x7), (9, .int x9)] [.int y1, .int y0] (wM ad cI cZ u) := by
  intro x1 x2 x4 x5 x6 x7 x9 y0 y1 u h
  unfold m_X12_track_200 at h
  refine ww_iadd C dX12_track_200 ?_
  refine ww_nI (fun z_1 ez_1 => ?_)
  have h := h z_1 ez_1
  refine ww_istore (i := 8) (lv' := [(8, .int z_1), (0, .ref (ad 0)), (1, .int x1), (2, .int x2), (4, .int x4), (5, .int x5), (6, .int x6), (7, .int x7), (9, .int x9)]) C dX12_track_201 (by decide) rfl ?_
  obtain ⟨z_2, ez_2⟩ : ∃ z_2 : Int32, z_2 = x9 + (1 : Int32) := ⟨_, rfl⟩
  have h := h z_2 ez_2
  refine ww_iinc (i := 9) (j := 8) (v := z_2) (lv' := [(9, .int z_2), (8, .int z_1), (0, .ref (ad 0)), (1, .int x1), (2, .int x2), (4, .int x4), (5, .int x5), (6, .int x6), (7, .int x7)]) C dX12_track_203 rfl (by rw [ez_2]; rfl) (by decide) rfl ?_
  refine ww_goto (tgt := 155) C dX12_track_206 (by decide) ?_
  refine ww_sub [2, 3, 4, 5, 6, 7, 8, 1, 0] rfl ?_
  exact hk155 _ _ _ _ _ _ _ _ _ h
set_option maxRecDepth 100000 in
theorem w_X12_track_199 {p : Program} {l : Launch} {e : Env} {s : State} {m : MethodId} {args : Array Value} {below : List Frame} {meth : Method} {c : Code} {A : Nat → Prop} {D : va_G} {ad : Nat → Nat} {cI cZ : ClassId} {N : Nat} {Q : Int32 → UU → Prop} {k64 : Int32 → Int32 → Int32 → Int32 → UU → Prop} {k79 : Int32 → Int32 → Int32 → Int32 → Int32 → UU → Prop} {k155 : Int32 → Int32 → Int32 → Int32 → Int32 → Int32 → Int32 → Int32 → UU → Prop} (C : Cx p m c cX12_track 10 s args RX12 meth (some .int) A D [(cI, .int), (cZ, .boolean)] EM) (hk64 : ∀ (x1 : Int32) (x2 : Int32) (x4 : Int32) (x5 : Int32) (u : UU), k64 x1 x2 x4 x5 u → WW p l e rm_X12_track s m args below meth c 0 0 (MQ below (QI D A (wM ad cI cZ) Q) args s 0 0 A) A D 10 64 [(0, .ref (ad 0)), (1, .int x1), (2, .int x2), (4, .int x4), (5, .int x5)] [] (wM ad cI cZ u)) (hk79 : ∀ (x1 : Int32) (x2 : Int32) (x4 : Int32) (x5 : Int32) (x6 : Int32) (u : UU), k79 x1 x2 x4 x5 x6 u → WW p l e rm_X12_track s m args below meth c 0 0 (MQ below (QI D A (wM ad cI cZ) Q) args s 0 0 A) A D 10 79 [(0, .ref (ad 0)), (1, .int x1), (2, .int x2), (4, .int x4), (5, .int x5), (6, .int x6)] [] (wM ad cI cZ u)) (hk155 : ∀ (x1 : Int32) (x2 : Int32) (x4 : Int32) (x5 : Int32) (x6 : Int32) (x7 : Int32) (x8 : Int32) (x9 : Int32) (u : UU), k155 x1 x2 x4 x5 x6 x7 x8 x9 u → WW p l e rm_X12_track s m args below meth c 0 0 (MQ below (QI D A (wM ad cI cZ) Q) args s 0 0 A) A D 10 155 [(0, .ref (ad 0)), (1, .int x1), (2, .int x2), (4, .int x4), (5, .int x5), (6, .int x6), (7, .int x7), (8, .int x8), (9, .int x9)] [] (wM ad cI cZ u)) : ∀ {x1 : Int32} {x2 : Int32} {x4 : Int32} {x5 : Int32} {x6 : Int32} {x7 : Int32} {x9 : Int32} {y0 : Int32} {u : UU}, m_X12_track_199 N k64 k79 k155 x1 x2 x4 x5 x6 x7 x9 y0 u Q → WW p l e rm_X12_track s m args below meth c 0 0 (MQ below (QI D A (wM ad cI cZ) Q) args s 0 0 A) A D 10 199 [(0, .ref (ad 0)), (1, .int x1), (2, .int x2), (4, .int x4), (5, .int x5), (6, .int x6), (7, .int x7), (9, .int x9)] [.int y0] (wM ad cI cZ u) := by
  intro x1 x2 x4 x5 x6 x7 x9 y0 u h
  unfold m_X12_track_199 at h
  refine ww_iconst (v := 0) C dX12_track_199 (by decide) ?_
  exact w_X12_track_200 C hk64 hk79 hk155 h
set_option maxRecDepth 100000 in
theorem w_X12_track_232 {p : Program} {l : Launch} {e : Env} {s : State} {m : MethodId} {args : Array Value} {below : List Frame} {meth : Method} {c : Code} {A : Nat → Prop} {D : va_G} {ad : Nat → Nat} {cI cZ : ClassId} {N : Nat} {Q : Int32 → UU → Prop} {k64 : Int32 → Int32 → Int32 → Int32 → UU → Prop} {k79 : Int32 → Int32 → Int32 → Int32 → Int32 → UU → Prop} (C : Cx p m c cX12_track 10 s args RX12 meth (some .int) A D [(cI, .int), (cZ, .boolean)] EM) (hk64 : ∀ (x1 : Int32) (x2 : Int32) (x4 : Int32) (x5 : Int32) (u : UU), k64 x1 x2 x4 x5 u → WW p l e rm_X12_track s m args below meth c 0 0 (MQ below (QI D A (wM ad cI cZ) Q) args s 0 0 A) A D 10 64 [(0, .ref (ad 0)), (1, .int x1), (2, .int x2), (4, .int x4), (5, .int x5)] [] (wM ad cI cZ u)) (hk79 : ∀ (x1 : Int32) (x2 : Int32) (x4 : Int32) (x5 : Int32) (x6 : Int32) (u : UU), k79 x1 x2 x4 x5 x6 u → WW p l e rm_X12_track s m args below meth c 0 0 (MQ below (QI D A (wM ad cI cZ) Q) args s 0 0 A) A D 10 79 [(0, .ref (ad 0)), (1, .int x1), (2, .int x2), (4, .int x4), (5, .int x5), (6, .int x6)] [] (wM ad cI cZ u)) : ∀ {x1 : Int32} {x2 : Int32} {x4 : Int32} {x5 : Int32} {x6 : Int32} {u : UU}, m_X12_track_232 N k64 k79 x1 x2 x4 x5 x6 u Q → WW p l e rm_X12_track s m args below meth c 0 0 (MQ below (QI D A (wM ad cI cZ) Q) args s 0 0 A) A D 10 232 [(0, .ref (ad 0)), (1, .int x1), (2, .int x2), (4, .int x4), (5, .int x5), (6, .int x6)] [] (wM ad cI cZ u) := by
  intro x1 x2 x4 x5 x6 u h
  unfold m_X12_track_232 at h
  obtain ⟨z_1, ez_1⟩ : ∃ z_1 : Int32, z_1 = x6 + (1 : Int32) := ⟨_, rfl⟩
  have h := h z_1 ez_1
  refine ww_iinc (i := 6) (j := 5) (v := z_1) (lv' := [(6, .int z_1), (0, .ref (ad 0)), (1, .int x1), (2, .int x2), (4, .int x4), (5, .int x5)]) C dX12_track_232 rfl (by rw [ez_1]; rfl) (by decide) rfl ?_
  refine ww_goto (tgt := 79) C dX12_track_235 (by decide) ?_
  refine ww_sub [1, 2, 3, 4, 5, 0] rfl ?_
  exact hk79 _ _ _ _ _ _ h
set_option maxRecDepth 100000 in
theorem w_X12_track_209 {p : Program} {l : Launch} {e : Env} {s : State} {m : MethodId} {args : Array Value} {below : List Frame} {meth : Method} {c : Code} {A : Nat → Prop} {D : va_G} {ad : Nat → Nat} {cI cZ : ClassId} {N : Nat} {Q : Int32 → UU → Prop} {k64 : Int32 → Int32 → Int32 → Int32 → UU → Prop} {k79 : Int32 → Int32 → Int32 → Int32 → Int32 → UU → Prop} (C : Cx p m c cX12_track 10 s args RX12 meth (some .int) A D [(cI, .int), (cZ, .boolean)] EM) (hk64 : ∀ (x1 : Int32) (x2 : Int32) (x4 : Int32) (x5 : Int32) (u : UU), k64 x1 x2 x4 x5 u → WW p l e rm_X12_track s m args below meth c 0 0 (MQ below (QI D A (wM ad cI cZ) Q) args s 0 0 A) A D 10 64 [(0, .ref (ad 0)), (1, .int x1), (2, .int x2), (4, .int x4), (5, .int x5)] [] (wM ad cI cZ u)) (hk79 : ∀ (x1 : Int32) (x2 : Int32) (x4 : Int32) (x5 : Int32) (x6 : Int32) (u : UU), k79 x1 x2 x4 x5 x6 u → WW p l e rm_X12_track s m args below meth c 0 0 (MQ below (QI D A (wM ad cI cZ) Q) args s 0 0 A) A D 10 79 [(0, .ref (ad 0)), (1, .int x1), (2, .int x2), (4, .int x4), (5, .int x5), (6, .int x6)] [] (wM ad cI cZ u)) : ∀ {x1 : Int32} {x2 : Int32} {x4 : Int32} {x5 : Int32} {x6 : Int32} {x8 : Int32} {u : UU}, m_X12_track_209 N k64 k79 x1 x2 x4 x5 x6 x8 u Q → WW p l e rm_X12_track s m args below meth c 0 0 (MQ below (QI D A (wM ad cI cZ) Q) args s 0 0 A) A D 10 209 [(0, .ref (ad 0)), (1, .int x1), (2, .int x2), (4, .int x4), (5, .int x5), (6, .int x6), (8, .int x8)] [] (wM ad cI cZ u) := by
  intro x1 x2 x4 x5 x6 x8 u h
  unfold m_X12_track_209 at h
  refine ww_iload C dX12_track_209 6 rfl ?_
  refine ww_iload C dX12_track_211 3 rfl ?_
  refine ww_icmp_le (tgt := 232) C dX12_track_213 (by decide) (fun hc => ?_) (fun hc => ?_)
  · have h := ite_t h hc
    refine ww_sub [0, 1, 2, 3, 4, 5] rfl ?_
    exact w_X12_track_232 C hk64 hk79 h
  · have h := ite_f h hc
    refine ww_iload C dX12_track_216 6 rfl ?_
    refine ww_istore (i := 4) (lv' := [(4, .int x8), (0, .ref (ad 0)), (1, .int x1), (2, .int x2), (5, .int x5), (6, .int x6), (8, .int x8)]) C dX12_track_218 (by decide) rfl ?_
    refine ww_aload_n C dX12_track_220 rfl 1 rfl ?_
    refine ww_iload C dX12_track_221 4 rfl ?_
    refine ww_put C inX12 rfl tyX12 tyX12_ok nmX12 22 (by decide) tb_4_58 rfl rfl rfl MS_0_22 dX12_track_223 ?_
    refine ww_nU (wM ad cI cZ) (fun u_1 eu_1 => ?_)
    have h := h u_1 eu_1
    refine ww_aload_n C dX12_track_226 rfl 1 rfl ?_
    refine ww_iload C dX12_track_227 5 rfl ?_
    refine ww_put C inX12 rfl tyX12 tyX12_ok nmX12 23 (by decide) tb_4_59 rfl rfl rfl MS_0_23 dX12_track_229 ?_
    refine ww_nU (wM ad cI cZ) (fun u_2 eu_2 => ?_)
    have h := h u_2 eu_2
    refine ww_sub [1, 2, 3, 0, 4, 5] rfl ?_
    exact w_X12_track_232 C hk64 hk79 h
set_option maxRecDepth 100000 in
theorem w_X12_track_155 {p : Program} {l : Launch} {e : Env} {s : State} {m : MethodId} {args : Array Value} {below : List Frame} {meth : Method} {c : Code} {A : Nat → Prop} {D : va_G} {ad : Nat → Nat} {cI cZ : ClassId} {N : Nat} {Q : Int32 → UU → Prop} {k64 : Int32 → Int32 → Int32 → Int32 → UU → Prop} {k79 : Int32 → Int32 → Int32 → Int32 → Int32 → UU → Prop} (C : Cx p m c cX12_track 10 s args RX12 meth (some .int) A D [(cI, .int), (cZ, .boolean)] EM) (hk64 : ∀ (x1 : Int32) (x2 : Int32) (x4 : Int32) (x5 : Int32) (u : UU), k64 x1 x2 x4 x5 u → WW p l e rm_X12_track s m args below meth c 0 0 (MQ below (QI D A (wM ad cI cZ) Q) args s 0 0 A) A D 10 64 [(0, .ref (ad 0)), (1, .int x1), (2, .int x2), (4, .int x4), (5, .int x5)] [] (wM ad cI cZ u)) (hk79 : ∀ (x1 : Int32) (x2 : Int32) (x4 : Int32) (x5 : Int32) (x6 : Int32) (u : UU), k79 x1 x2 x4 x5 x6 u → WW p l e rm_X12_track s m args below meth c 0 0 (MQ below (QI D A (wM ad cI cZ) Q) args s 0 0 A) A D 10 79 [(0, .ref (ad 0)), (1, .int x1), (2, .int x2), (4, .int x4), (5, .int x5), (6, .int x6)] [] (wM ad cI cZ u)) : ∀ (n : Nat) (x1 : Int32) (x2 : Int32) (x4 : Int32) (x5 : Int32) (x6 : Int32) (x7 : Int32) (x8 : Int32) (x9 : Int32) (u : UU), m_X12_track_155 N k64 k79 Q n x1 x2 x4 x5 x6 x7 x8 x9 u → WW p l e rm_X12_track s m args below meth c 0 0 (MQ below (QI D A (wM ad cI cZ) Q) args s 0 0 A) A D 10 155 [(0, .ref (ad 0)), (1, .int x1), (2, .int x2), (4, .int x4), (5, .int x5), (6, .int x6), (7, .int x7), (8, .int x8), (9, .int x9)] [] (wM ad cI cZ u) := by
  intro n
  induction n with
  | zero => intro x1 x2 x4 x5 x6 x7 x8 x9 u h; rw [m_X12_track_155] at h; exact h.elim
  | succ n ih =>
    intro x1 x2 x4 x5 x6 x7 x8 x9 u h
    rw [m_X12_track_155] at h
    refine ww_iload C dX12_track_155 8 rfl ?_
    refine ww_aload_n C dX12_track_157 rfl 0 rfl ?_
    refine ww_get C inX12 rfl 2 (by decide) tb_4_38 MF_0_2 dX12_track_158 ?_
    refine ww_icmp_ge (tgt := 209) C dX12_track_161 (by decide) (fun hc => ?_) (fun hc => ?_)
    · have h := ite_t h hc
      refine ww_sub [0, 1, 2, 3, 4, 5, 7] rfl ?_
      exact w_X12_track_209 C hk64 hk79 h
    · have h := ite_f h hc
      refine ww_iload C dX12_track_164 6 rfl ?_
      refine ww_if_eq (tgt := 209) C dX12_track_166 (by decide) (fun hc => ?_) (fun hc => ?_)
      · have h := ite_t h hc
        refine ww_sub [0, 1, 2, 3, 4, 5, 7] rfl ?_
        exact w_X12_track_209 C hk64 hk79 h
      · have h := ite_f h hc
        refine ww_iload C dX12_track_169 7 rfl ?_
        refine ww_aload_n C dX12_track_171 rfl 0 rfl ?_
        refine ww_iload C dX12_track_172 8 rfl ?_
        refine ww_iload_n C dX12_track_174 rfl 1 rfl ?_
        refine ww_callVi (As := [.int x9, .int x1]) (rest := [.int x8]) C EM_ok (c_X12_isHit h) tb_5_16 tb_5_18 tbs_24 tb_1_13 tb_5_19 rfl rfl ⟨rfl, hd_X12_isHit⟩ ⟨Nat.le_of_ble_eq_true rfl, Nat.le_of_ble_eq_true rfl⟩ rfl MF_0_0 rfl rfl (Nat.le_of_ble_eq_true rfl) dX12_track_175 ⟨Nat.zero_le _, Nat.zero_le _⟩ (fun r_2 u_1 h => ?_)
        refine ww_if_eq (tgt := 199) C dX12_track_178 (by decide) (fun hc => ?_) (fun hc => ?_)
        · have h := ite_t h hc
          refine ww_sub [0, 1, 2, 3, 4, 5, 6, 8] rfl ?_
          exact w_X12_track_199 C hk64 hk79 ih h
        · have h := ite_f h hc
          refine ww_aload_n C dX12_track_181 rfl 0 rfl ?_
          refine ww_iload C dX12_track_182 4 rfl ?_
          refine ww_iload C dX12_track_184 5 rfl ?_
          refine ww_iload C dX12_track_186 8 rfl ?_
          refine ww_iload_n C dX12_track_188 rfl 2 rfl ?_
          refine ww_callVi (As := [.int x5, .int x6, .int x9, .int x2]) (rest := [.int x8]) C EM_ok (c_X12_isNear h) tb_5_20 tb_5_22 tbs_25 tb_1_13 tb_5_23 rfl rfl ⟨rfl, hd_X12_isNear⟩ ⟨Nat.le_of_ble_eq_true rfl, Nat.le_of_ble_eq_true rfl⟩ rfl MF_0_0 rfl rfl (Nat.le_of_ble_eq_true rfl) dX12_track_189 ⟨Nat.zero_le _, Nat.zero_le _⟩ (fun r_4 u_3 h => ?_)
          refine ww_if_eq (tgt := 199) C dX12_track_192 (by decide) (fun hc => ?_) (fun hc => ?_)
          · have h := ite_t h hc
            refine ww_sub [0, 1, 2, 3, 4, 5, 6, 8] rfl ?_
            exact w_X12_track_199 C hk64 hk79 ih h
          · have h := ite_f h hc
            refine ww_iconst (v := 1) C dX12_track_195 (by decide) ?_
            refine ww_goto (tgt := 200) C dX12_track_196 (by decide) ?_
            refine ww_sub [0, 1, 2, 3, 4, 5, 6, 8] rfl ?_
            exact w_X12_track_200 C hk64 hk79 ih h
set_option maxRecDepth 100000 in
theorem w_X12_track_147 {p : Program} {l : Launch} {e : Env} {s : State} {m : MethodId} {args : Array Value} {below : List Frame} {meth : Method} {c : Code} {A : Nat → Prop} {D : va_G} {ad : Nat → Nat} {cI cZ : ClassId} {N : Nat} {Q : Int32 → UU → Prop} {k64 : Int32 → Int32 → Int32 → Int32 → UU → Prop} {k79 : Int32 → Int32 → Int32 → Int32 → Int32 → UU → Prop} (C : Cx p m c cX12_track 10 s args RX12 meth (some .int) A D [(cI, .int), (cZ, .boolean)] EM) (hk64 : ∀ (x1 : Int32) (x2 : Int32) (x4 : Int32) (x5 : Int32) (u : UU), k64 x1 x2 x4 x5 u → WW p l e rm_X12_track s m args below meth c 0 0 (MQ below (QI D A (wM ad cI cZ) Q) args s 0 0 A) A D 10 64 [(0, .ref (ad 0)), (1, .int x1), (2, .int x2), (4, .int x4), (5, .int x5)] [] (wM ad cI cZ u)) (hk79 : ∀ (x1 : Int32) (x2 : Int32) (x4 : Int32) (x5 : Int32) (x6 : Int32) (u : UU), k79 x1 x2 x4 x5 x6 u → WW p l e rm_X12_track s m args below meth c 0 0 (MQ below (QI D A (wM ad cI cZ) Q) args s 0 0 A) A D 10 79 [(0, .ref (ad 0)), (1, .int x1), (2, .int x2), (4, .int x4), (5, .int x5), (6, .int x6)] [] (wM ad cI cZ u)) : ∀ {x1 : Int32} {x2 : Int32} {x4 : Int32} {x5 : Int32} {x6 : Int32} {y0 : Int32} {u : UU}, m_X12_track_147 N k64 k79 x1 x2 x4 x5 x6 y0 u Q → WW p l e rm_X12_track s m args below meth c 0 0 (MQ below (QI D A (wM ad cI cZ) Q) args s 0 0 A) A D 10 147 [(0, .ref (ad 0)), (1, .int x1), (2, .int x2), (4, .int x4), (5, .int x5), (6, .int x6)] [.int y0] (wM ad cI cZ u) := by
  intro x1 x2 x4 x5 x6 y0 u h
  unfold m_X12_track_147 at h
  refine ww_istore (i := 7) (lv' := [(7, .int y0), (0, .ref (ad 0)), (1, .int x1), (2, .int x2), (4, .int x4), (5, .int x5), (6, .int x6)]) C dX12_track_147 (by decide) rfl ?_
  refine ww_iconst (v := 0) C dX12_track_149 (by decide) ?_
  refine ww_istore (i := 8) (lv' := [(8, .int (0 : Int32)), (7, .int y0), (0, .ref (ad 0)), (1, .int x1), (2, .int x2), (4, .int x4), (5, .int x5), (6, .int x6)]) C dX12_track_150 (by decide) rfl ?_
  refine ww_iconst (v := 0) C dX12_track_152 (by decide) ?_
  refine ww_istore (i := 9) (lv' := [(9, .int (0 : Int32)), (8, .int (0 : Int32)), (7, .int y0), (0, .ref (ad 0)), (1, .int x1), (2, .int x2), (4, .int x4), (5, .int x5), (6, .int x6)]) C dX12_track_153 (by decide) rfl ?_
  refine ww_sub [3, 4, 5, 6, 7, 8, 2, 1, 0] rfl ?_
  exact w_X12_track_155 C hk64 hk79 N _ _ _ _ _ _ _ _ _ h
set_option maxRecDepth 100000 in
theorem w_X12_track_142 {p : Program} {l : Launch} {e : Env} {s : State} {m : MethodId} {args : Array Value} {below : List Frame} {meth : Method} {c : Code} {A : Nat → Prop} {D : va_G} {ad : Nat → Nat} {cI cZ : ClassId} {N : Nat} {Q : Int32 → UU → Prop} {k64 : Int32 → Int32 → Int32 → Int32 → UU → Prop} {k79 : Int32 → Int32 → Int32 → Int32 → Int32 → UU → Prop} (C : Cx p m c cX12_track 10 s args RX12 meth (some .int) A D [(cI, .int), (cZ, .boolean)] EM) (hk64 : ∀ (x1 : Int32) (x2 : Int32) (x4 : Int32) (x5 : Int32) (u : UU), k64 x1 x2 x4 x5 u → WW p l e rm_X12_track s m args below meth c 0 0 (MQ below (QI D A (wM ad cI cZ) Q) args s 0 0 A) A D 10 64 [(0, .ref (ad 0)), (1, .int x1), (2, .int x2), (4, .int x4), (5, .int x5)] [] (wM ad cI cZ u)) (hk79 : ∀ (x1 : Int32) (x2 : Int32) (x4 : Int32) (x5 : Int32) (x6 : Int32) (u : UU), k79 x1 x2 x4 x5 x6 u → WW p l e rm_X12_track s m args below meth c 0 0 (MQ below (QI D A (wM ad cI cZ) Q) args s 0 0 A) A D 10 79 [(0, .ref (ad 0)), (1, .int x1), (2, .int x2), (4, .int x4), (5, .int x5), (6, .int x6)] [] (wM ad cI cZ u)) : ∀ {x1 : Int32} {x2 : Int32} {x4 : Int32} {x5 : Int32} {x6 : Int32} {u : UU}, m_X12_track_142 N k64 k79 x1 x2 x4 x5 x6 u Q → WW p l e rm_X12_track s m args below meth c 0 0 (MQ below (QI D A (wM ad cI cZ) Q) args s 0 0 A) A D 10 142 [(0, .ref (ad 0)), (1, .int x1), (2, .int x2), (4, .int x4), (5, .int x5), (6, .int x6)] [] (wM ad cI cZ u) := by
  intro x1 x2 x4 x5 x6 u h
  unfold m_X12_track_142 at h
  refine ww_iconst (v := 1) C dX12_track_142 (by decide) ?_
  refine ww_goto (tgt := 147) C dX12_track_143 (by decide) ?_
  exact w_X12_track_147 C hk64 hk79 h
set_option maxRecDepth 100000 in
theorem w_X12_track_146 {p : Program} {l : Launch} {e : Env} {s : State} {m : MethodId} {args : Array Value} {below : List Frame} {meth : Method} {c : Code} {A : Nat → Prop} {D : va_G} {ad : Nat → Nat} {cI cZ : ClassId} {N : Nat} {Q : Int32 → UU → Prop} {k64 : Int32 → Int32 → Int32 → Int32 → UU → Prop} {k79 : Int32 → Int32 → Int32 → Int32 → Int32 → UU → Prop} (C : Cx p m c cX12_track 10 s args RX12 meth (some .int) A D [(cI, .int), (cZ, .boolean)] EM) (hk64 : ∀ (x1 : Int32) (x2 : Int32) (x4 : Int32) (x5 : Int32) (u : UU), k64 x1 x2 x4 x5 u → WW p l e rm_X12_track s m args below meth c 0 0 (MQ below (QI D A (wM ad cI cZ) Q) args s 0 0 A) A D 10 64 [(0, .ref (ad 0)), (1, .int x1), (2, .int x2), (4, .int x4), (5, .int x5)] [] (wM ad cI cZ u)) (hk79 : ∀ (x1 : Int32) (x2 : Int32) (x4 : Int32) (x5 : Int32) (x6 : Int32) (u : UU), k79 x1 x2 x4 x5 x6 u → WW p l e rm_X12_track s m args below meth c 0 0 (MQ below (QI D A (wM ad cI cZ) Q) args s 0 0 A) A D 10 79 [(0, .ref (ad 0)), (1, .int x1), (2, .int x2), (4, .int x4), (5, .int x5), (6, .int x6)] [] (wM ad cI cZ u)) : ∀ {x1 : Int32} {x2 : Int32} {x4 : Int32} {x5 : Int32} {x6 : Int32} {u : UU}, m_X12_track_146 N k64 k79 x1 x2 x4 x5 x6 u Q → WW p l e rm_X12_track s m args below meth c 0 0 (MQ below (QI D A (wM ad cI cZ) Q) args s 0 0 A) A D 10 146 [(0, .ref (ad 0)), (1, .int x1), (2, .int x2), (4, .int x4), (5, .int x5), (6, .int x6)] [] (wM ad cI cZ u) := by
  intro x1 x2 x4 x5 x6 u h
  unfold m_X12_track_146 at h
  refine ww_iconst (v := 0) C dX12_track_146 (by decide) ?_
  exact w_X12_track_147 C hk64 hk79 h
set_option maxRecDepth 100000 in
theorem w_X12_track_79 {p : Program} {l : Launch} {e : Env} {s : State} {m : MethodId} {args : Array Value} {below : List Frame} {meth : Method} {c : Code} {A : Nat → Prop} {D : va_G} {ad : Nat → Nat} {cI cZ : ClassId} {N : Nat} {Q : Int32 → UU → Prop} {k64 : Int32 → Int32 → Int32 → Int32 → UU → Prop} (C : Cx p m c cX12_track 10 s args RX12 meth (some .int) A D [(cI, .int), (cZ, .boolean)] EM) (hk64 : ∀ (x1 : Int32) (x2 : Int32) (x4 : Int32) (x5 : Int32) (u : UU), k64 x1 x2 x4 x5 u → WW p l e rm_X12_track s m args below meth c 0 0 (MQ below (QI D A (wM ad cI cZ) Q) args s 0 0 A) A D 10 64 [(0, .ref (ad 0)), (1, .int x1), (2, .int x2), (4, .int x4), (5, .int x5)] [] (wM ad cI cZ u)) : ∀ (n : Nat) (x1 : Int32) (x2 : Int32) (x4 : Int32) (x5 : Int32) (x6 : Int32) (u : UU), m_X12_track_79 N k64 Q n x1 x2 x4 x5 x6 u → WW p l e rm_X12_track s m args below meth c 0 0 (MQ below (QI D A (wM ad cI cZ) Q) args s 0 0 A) A D 10 79 [(0, .ref (ad 0)), (1, .int x1), (2, .int x2), (4, .int x4), (5, .int x5), (6, .int x6)] [] (wM ad cI cZ u) := by
  intro n
  induction n with
  | zero => intro x1 x2 x4 x5 x6 u h; rw [m_X12_track_79] at h; exact h.elim
  | succ n ih =>
    intro x1 x2 x4 x5 x6 u h
    rw [m_X12_track_79] at h
    refine ww_iload C dX12_track_79 5 rfl ?_
    refine ww_aload_n C dX12_track_81 rfl 0 rfl ?_
    refine ww_get C inX12 rfl 2 (by decide) tb_4_38 MF_0_2 dX12_track_82 ?_
    refine ww_icmp_ge (tgt := 238) C dX12_track_85 (by decide) (fun hc => ?_) (fun hc => ?_)
    · have h := ite_t h hc
      obtain ⟨z_1, ez_1⟩ : ∃ z_1 : Int32, z_1 = x5 + (1 : Int32) := ⟨_, rfl⟩
      have h := h z_1 ez_1
      refine ww_iinc (i := 5) (j := 4) (v := z_1) (lv' := [(5, .int z_1), (0, .ref (ad 0)), (1, .int x1), (2, .int x2), (4, .int x4), (6, .int x6)]) C dX12_track_238 rfl (by rw [ez_1]; rfl) (by decide) rfl ?_
      refine ww_goto (tgt := 64) C dX12_track_241 (by decide) ?_
      refine ww_sub [1, 2, 3, 4, 0] rfl ?_
      exact hk64 _ _ _ _ _ h
    · have h := ite_f h hc
      refine ww_aload_n C dX12_track_88 rfl 0 rfl ?_
      refine ww_iload C dX12_track_89 4 rfl ?_
      refine ww_iload_n C dX12_track_91 rfl 1 rfl ?_
      refine ww_callVi (As := [.int x5, .int x1]) (rest := []) C EM_ok (c_X12_isHit h) tb_5_16 tb_5_18 tbs_24 tb_1_13 tb_5_19 rfl rfl ⟨rfl, hd_X12_isHit⟩ ⟨Nat.le_of_ble_eq_true rfl, Nat.le_of_ble_eq_true rfl⟩ rfl MF_0_0 rfl rfl (Nat.le_of_ble_eq_true rfl) dX12_track_92 ⟨Nat.zero_le _, Nat.zero_le _⟩ (fun r_3 u_2 h => ?_)
      refine ww_if_eq (tgt := 146) C dX12_track_95 (by decide) (fun hc => ?_) (fun hc => ?_)
      · have h := ite_t h hc
        exact w_X12_track_146 C hk64 ih h
      · have h := ite_f h hc
        refine ww_aload_n C dX12_track_98 rfl 0 rfl ?_
        refine ww_iload C dX12_track_99 5 rfl ?_
        refine ww_iload_n C dX12_track_101 rfl 1 rfl ?_
        refine ww_callVi (As := [.int x6, .int x1]) (rest := []) C EM_ok (c_X12_isHit h) tb_5_16 tb_5_18 tbs_24 tb_1_13 tb_5_19 rfl rfl ⟨rfl, hd_X12_isHit⟩ ⟨Nat.le_of_ble_eq_true rfl, Nat.le_of_ble_eq_true rfl⟩ rfl MF_0_0 rfl rfl (Nat.le_of_ble_eq_true rfl) dX12_track_102 ⟨Nat.zero_le _, Nat.zero_le _⟩ (fun r_5 u_4 h => ?_)
        refine ww_if_eq (tgt := 146) C dX12_track_105 (by decide) (fun hc => ?_) (fun hc => ?_)
        · have h := ite_t h hc
          exact w_X12_track_146 C hk64 ih h
        · have h := ite_f h hc
          refine ww_aload_n C dX12_track_108 rfl 0 rfl ?_
          refine ww_get C inX12 rfl 3 (by decide) tb_4_39 MF_0_3 dX12_track_109 ?_
          refine ww_iload C dX12_track_112 4 rfl ?_
          obtain ⟨hin, h⟩ := h
          refine ww_iald C 0 rfl MA_1 hin dX12_track_114 ?_
          refine ww_aload_n C dX12_track_115 rfl 0 rfl ?_
          refine ww_get C inX12 rfl 3 (by decide) tb_4_39 MF_0_3 dX12_track_116 ?_
          refine ww_iload C dX12_track_119 5 rfl ?_
          obtain ⟨hin, h⟩ := h
          refine ww_iald C 0 rfl MA_1 hin dX12_track_121 ?_
          refine ww_icmp_ne (tgt := 142) C dX12_track_122 (by decide) (fun hc => ?_) (fun hc => ?_)
          · have h := ite_f h hc
            exact w_X12_track_142 C hk64 ih h
          · have h := ite_t h hc
            refine ww_aload_n C dX12_track_125 rfl 0 rfl ?_
            refine ww_get C inX12 rfl 4 (by decide) tb_4_40 MF_0_4 dX12_track_126 ?_
            refine ww_iload C dX12_track_129 4 rfl ?_
            obtain ⟨hin, h⟩ := h
            refine ww_iald C 0 rfl MA_2 hin dX12_track_131 ?_
            refine ww_aload_n C dX12_track_132 rfl 0 rfl ?_
            refine ww_get C inX12 rfl 4 (by decide) tb_4_40 MF_0_4 dX12_track_133 ?_
            refine ww_iload C dX12_track_136 5 rfl ?_
            obtain ⟨hin, h⟩ := h
            refine ww_iald C 0 rfl MA_2 hin dX12_track_138 ?_
            refine ww_icmp_eq (tgt := 146) C dX12_track_139 (by decide) (fun hc => ?_) (fun hc => ?_)
            · have h := ite_t h hc
              exact w_X12_track_146 C hk64 ih h
            · have h := ite_f h hc
              exact w_X12_track_142 C hk64 ih h
set_option maxRecDepth 100000 in
theorem w_X12_track_64 {p : Program} {l : Launch} {e : Env} {s : State} {m : MethodId} {args : Array Value} {below : List Frame} {meth : Method} {c : Code} {A : Nat → Prop} {D : va_G} {ad : Nat → Nat} {cI cZ : ClassId} {N : Nat} {Q : Int32 → UU → Prop} (C : Cx p m c cX12_track 10 s args RX12 meth (some .int) A D [(cI, .int), (cZ, .boolean)] EM) : ∀ (n : Nat) (x1 : Int32) (x2 : Int32) (x4 : Int32) (x5 : Int32) (u : UU), m_X12_track_64 N Q n x1 x2 x4 x5 u → WW p l e rm_X12_track s m args below meth c 0 0 (MQ below (QI D A (wM ad cI cZ) Q) args s 0 0 A) A D 10 64 [(0, .ref (ad 0)), (1, .int x1), (2, .int x2), (4, .int x4), (5, .int x5)] [] (wM ad cI cZ u) := by
  intro n
  induction n with
  | zero => intro x1 x2 x4 x5 u h; rw [m_X12_track_64] at h; exact h.elim
  | succ n ih =>
    intro x1 x2 x4 x5 u h
    rw [m_X12_track_64] at h
    refine ww_iload C dX12_track_64 4 rfl ?_
    refine ww_aload_n C dX12_track_66 rfl 0 rfl ?_
    refine ww_get C inX12 rfl 2 (by decide) tb_4_38 MF_0_2 dX12_track_67 ?_
    refine ww_icmp_ge (tgt := 244) C dX12_track_70 (by decide) (fun hc => ?_) (fun hc => ?_)
    · have h := ite_t h hc
      refine ww_iload C dX12_track_244 3 rfl ?_
      exact ww_iret C h dX12_track_246
    · have h := ite_f h hc
      refine ww_iload C dX12_track_73 4 rfl ?_
      refine ww_iconst (v := 1) C dX12_track_75 (by decide) ?_
      refine ww_iadd C dX12_track_76 ?_
      refine ww_nI (fun z_1 ez_1 => ?_)
      have h := h z_1 ez_1
      refine ww_istore (i := 6) (lv' := [(6, .int z_1), (0, .ref (ad 0)), (1, .int x1), (2, .int x2), (4, .int x4), (5, .int x5)]) C dX12_track_77 (by decide) rfl ?_
      refine ww_sub [1, 2, 3, 4, 5, 0] rfl ?_
      exact w_X12_track_79 C ih N _ _ _ _ _ _ h
set_option maxRecDepth 100000 in
theorem w_X12_track {p : Program} {l : Launch} {e : Env} {s : State} {m : MethodId} {args : Array Value} {below : List Frame} {meth : Method} {c : Code} {A : Nat → Prop} {D : va_G} {ad : Nat → Nat} {cI cZ : ClassId} {N : Nat} {Q : Int32 → UU → Prop} (C : Cx p m c cX12_track 10 s args RX12 meth (some .int) A D [(cI, .int), (cZ, .boolean)] EM) : ∀ {x1 : Int32} {x2 : Int32} {x3 : Int32} {u : UU}, m_X12_track N x1 x2 x3 u Q → WW p l e rm_X12_track s m args below meth c 0 0 (MQ below (QI D A (wM ad cI cZ) Q) args s 0 0 A) A D 10 0 [(0, .ref (ad 0)), (1, .int x1), (2, .int x2), (3, .int x3)] [] (wM ad cI cZ u) := by
  intro x1 x2 x3 u h
  unfold m_X12_track at h
  refine ww_aload_n C dX12_track_0 rfl 0 rfl ?_
  refine ww_iconst (v := 0) C dX12_track_1 (by decide) ?_
  refine ww_put C inX12 rfl tyX12 tyX12_ok nmX12 0 (by decide) tb_4_36 rfl rfl rfl MS_0_0 dX12_track_2 ?_
  refine ww_nU (wM ad cI cZ) (fun u_1 eu_1 => ?_)
  have h := h u_1 eu_1
  refine ww_iload_n C dX12_track_5 rfl 1 rfl ?_
  refine ww_i2l C dX12_track_6 ?_
  refine ww_lconst (v := 0) C dX12_track_7 (by decide) ?_
  refine ww_ldc2 C tb_4_222 dX12_track_8 ?_
  refine ww_callSi (As := [.long x1.toInt64, .long (0 : Int64), .long (100 : Int64)]) (rest := []) C EM_ok (c_X12_in h) tb_4_192 tb_4_193 tb_1_13 tb_4_194 rfl rfl hd_X12_in ⟨Nat.le_of_ble_eq_true rfl, Nat.le_of_ble_eq_true rfl⟩ rfl rfl (Nat.le_of_ble_eq_true rfl) dX12_track_11 ⟨Nat.zero_le _, Nat.zero_le _⟩ (fun r_3 u_2 h => ?_)
  refine ww_if_eq (tgt := 36) C dX12_track_14 (by decide) (fun hc => ?_) (fun hc => ?_)
  · have h := ite_t h hc
    refine ww_iconst (v := (-1)) C dX12_track_36 (by decide) ?_
    exact ww_iret C h dX12_track_37
  · have h := ite_f h hc
    refine ww_iload_n C dX12_track_17 rfl 2 rfl ?_
    refine ww_i2l C dX12_track_18 ?_
    refine ww_lconst (v := 0) C dX12_track_19 (by decide) ?_
    refine ww_ldc2 C tb_5_15 dX12_track_20 ?_
    refine ww_callSi (As := [.long x2.toInt64, .long (0 : Int64), .long (20 : Int64)]) (rest := []) C EM_ok (c_X12_in h) tb_4_192 tb_4_193 tb_1_13 tb_4_194 rfl rfl hd_X12_in ⟨Nat.le_of_ble_eq_true rfl, Nat.le_of_ble_eq_true rfl⟩ rfl rfl (Nat.le_of_ble_eq_true rfl) dX12_track_23 ⟨Nat.zero_le _, Nat.zero_le _⟩ (fun r_5 u_4 h => ?_)
    refine ww_if_eq (tgt := 36) C dX12_track_26 (by decide) (fun hc => ?_) (fun hc => ?_)
    · have h := ite_t h hc
      refine ww_iconst (v := (-1)) C dX12_track_36 (by decide) ?_
      exact ww_iret C h dX12_track_37
    · have h := ite_f h hc
      refine ww_iload_n C dX12_track_29 rfl 3 rfl ?_
      refine ww_callSi (As := [.int x3]) (rest := []) C EM_ok (c_X12_isKnown h) tb_4_206 tb_4_207 tb_1_13 tb_4_208 rfl rfl hd_X12_isKnown ⟨Nat.le_of_ble_eq_true rfl, Nat.le_of_ble_eq_true rfl⟩ rfl rfl (Nat.le_of_ble_eq_true rfl) dX12_track_30 ⟨Nat.zero_le _, Nat.zero_le _⟩ (fun r_7 u_6 h => ?_)
      refine ww_if_ne (tgt := 38) C dX12_track_33 (by decide) (fun hc => ?_) (fun hc => ?_)
      · have h := ite_f h hc
        refine ww_aload_n C dX12_track_38 rfl 0 rfl ?_
        refine ww_iload_n C dX12_track_39 rfl 3 rfl ?_
        refine ww_callVv (As := [.int x3]) (rest := []) C EM_ok (c_X12_find h) tb_4_227 tb_4_229 tbs_20 tb_1_13 tb_4_230 rfl rfl ⟨rfl, hd_X12_find⟩ ⟨Nat.le_of_ble_eq_true rfl, Nat.le_of_ble_eq_true rfl⟩ rfl MF_0_0 rfl rfl (Nat.le_of_ble_eq_true rfl) dX12_track_40 ⟨Nat.zero_le _, Nat.zero_le _⟩ (fun u_8 h => ?_)
        refine ww_iconst (v := 0) C dX12_track_43 (by decide) ?_
        refine ww_istore (i := 4) (lv' := [(4, .int (0 : Int32)), (0, .ref (ad 0)), (1, .int x1), (2, .int x2), (3, .int x3)]) C dX12_track_44 (by decide) rfl ?_
        refine ww_aload_n C dX12_track_46 rfl 1 rfl ?_
        refine ww_iconst (v := (-1)) C dX12_track_47 (by decide) ?_
        refine ww_put C inX12 rfl tyX12 tyX12_ok nmX12 22 (by decide) tb_4_58 rfl rfl rfl MS_0_22 dX12_track_48 ?_
        refine ww_nU (wM ad cI cZ) (fun u_10 eu_10 => ?_)
        have h := h u_10 eu_10
        refine ww_aload_n C dX12_track_51 rfl 1 rfl ?_
        refine ww_iconst (v := (-1)) C dX12_track_52 (by decide) ?_
        refine ww_put C inX12 rfl tyX12 tyX12_ok nmX12 23 (by decide) tb_4_59 rfl rfl rfl MS_0_23 dX12_track_53 ?_
        refine ww_nU (wM ad cI cZ) (fun u_11 eu_11 => ?_)
        have h := h u_11 eu_11
        refine ww_aload_n C dX12_track_56 rfl 1 rfl ?_
        refine ww_iload_n C dX12_track_57 rfl 3 rfl ?_
        refine ww_put C inX12 rfl tyX12 tyX12_ok nmX12 24 (by decide) tb_4_60 rfl rfl rfl MS_0_24 dX12_track_58 ?_
        refine ww_nU (wM ad cI cZ) (fun u_12 eu_12 => ?_)
        have h := h u_12 eu_12
        refine ww_iconst (v := 0) C dX12_track_61 (by decide) ?_
        refine ww_istore (i := 5) (lv' := [(5, .int (0 : Int32)), (4, .int (0 : Int32)), (0, .ref (ad 0)), (1, .int x1), (2, .int x2), (3, .int x3)]) C dX12_track_62 (by decide) rfl ?_
        refine ww_sub [2, 3, 4, 1, 0] rfl ?_
        exact w_X12_track_64 C N _ _ _ _ _ h
      · have h := ite_t h hc
        refine ww_iconst (v := (-1)) C dX12_track_36 (by decide) ?_
        exact ww_iret C h dX12_track_37
theorem c_X12_track {l : Launch} {D : va_G} {ad : Nat → Nat} {cI cZ : ClassId} {N : Nat} {x1 : Int32} {x2 : Int32} {x3 : Int32} {u : UU} {Q : Int32 → UU → Prop} (h : m_X12_track N x1 x2 x3 u Q) : MI l D [(cI, .int), (cZ, .boolean)] EM yX12_track (Cond.code yX12_track cX12_track 10 (some .int)) rm_X12_track [.ref (ad 0), .int x1, .int x2, .int x3] (wM ad cI cZ u) (wM ad cI cZ) Q :=
  MI_of (own := RX12) (by decide) rfl (Nat.le_of_ble_eq_true rfl) rfl (fun p e s m args below meth c A C => w_X12_track C h)
theorem hd_X12_track : yX12_track.cls ≠ "java/lang/invoke/MethodHandle" ∧ yX12_track.cls ≠ "java/lang/invoke/VarHandle" ∧ (parseMethodDescriptor yX12_track.desc).map (fun d => d.parameters.length) = some 3 := by decide +kernel
abbrev rm_X12_through : Room := { frames := 0, cells := 0, slots := 0, locals := 0 }
set_option maxRecDepth 100000 in
theorem w_X12_through {p : Program} {l : Launch} {e : Env} {s : State} {m : MethodId} {args : Array Value} {below : List Frame} {meth : Method} {c : Code} {A : Nat → Prop} {D : va_G} {ad : Nat → Nat} {cI cZ : ClassId} {N : Nat} {Q : Int32 → UU → Prop} (C : Cx p m c cX12_through 2 s args RX12 meth (some .int) A D [(cI, .int), (cZ, .boolean)] EM) : ∀ {x1 : Int32} {u : UU}, m_X12_through N x1 u Q → WW p l e rm_X12_through s m args below meth c 0 0 (MQ below (QI D A (wM ad cI cZ) Q) args s 0 0 A) A D 2 0 [(0, .ref (ad 0)), (1, .int x1)] [] (wM ad cI cZ u) := by
  intro x1 u h
  unfold m_X12_through at h
  refine ww_aload_n C dX12_through_0 rfl 0 rfl ?_
  refine ww_iconst (v := 0) C dX12_through_1 (by decide) ?_
  refine ww_put C inX12 rfl tyX12 tyX12_ok nmX12 0 (by decide) tb_4_36 rfl rfl rfl MS_0_0 dX12_through_2 ?_
  refine ww_nU (wM ad cI cZ) (fun u_1 eu_1 => ?_)
  have h := h u_1 eu_1
  refine ww_iload_n C dX12_through_5 rfl 1 rfl ?_
  refine ww_if_ne (tgt := 16) C dX12_through_6 (by decide) (fun hc => ?_) (fun hc => ?_)
  · have h := ite_f h hc
    refine ww_iload_n C dX12_through_16 rfl 1 rfl ?_
    refine ww_iconst (v := 1) C dX12_through_17 (by decide) ?_
    refine ww_icmp_ne (tgt := 28) C dX12_through_18 (by decide) (fun hc => ?_) (fun hc => ?_)
    · have h := ite_f h hc
      refine ww_iconst (v := (-1)) C dX12_through_28 (by decide) ?_
      exact ww_iret C h dX12_through_29
    · have h := ite_t h hc
      refine ww_aload_n C dX12_through_21 rfl 0 rfl ?_
      refine ww_get C inX12 rfl 23 (by decide) tb_4_59 MF_0_23 dX12_through_22 ?_
      refine ww_goto (tgt := 29) C dX12_through_25 (by decide) ?_
      exact ww_iret C h dX12_through_29
  · have h := ite_t h hc
    refine ww_aload_n C dX12_through_9 rfl 0 rfl ?_
    refine ww_get C inX12 rfl 22 (by decide) tb_4_58 MF_0_22 dX12_through_10 ?_
    refine ww_goto (tgt := 29) C dX12_through_13 (by decide) ?_
    exact ww_iret C h dX12_through_29
theorem c_X12_through {l : Launch} {D : va_G} {ad : Nat → Nat} {cI cZ : ClassId} {N : Nat} {x1 : Int32} {u : UU} {Q : Int32 → UU → Prop} (h : m_X12_through N x1 u Q) : MI l D [(cI, .int), (cZ, .boolean)] EM yX12_through (Cond.code yX12_through cX12_through 2 (some .int)) rm_X12_through [.ref (ad 0), .int x1] (wM ad cI cZ u) (wM ad cI cZ) Q :=
  MI_of (own := RX12) (by decide) rfl (Nat.le_of_ble_eq_true rfl) rfl (fun p e s m args below meth c A C => w_X12_through C h)
theorem hd_X12_through : yX12_through.cls ≠ "java/lang/invoke/MethodHandle" ∧ yX12_through.cls ≠ "java/lang/invoke/VarHandle" ∧ (parseMethodDescriptor yX12_through.desc).map (fun d => d.parameters.length) = some 1 := by decide +kernel
abbrev rm_X12_within : Room := { frames := 2, cells := 0, slots := 0, locals := 46 }
set_option maxRecDepth 100000 in
theorem w_X12_within {p : Program} {l : Launch} {e : Env} {s : State} {m : MethodId} {args : Array Value} {below : List Frame} {meth : Method} {c : Code} {A : Nat → Prop} {D : va_G} {ad : Nat → Nat} {cI cZ : ClassId} {N : Nat} {Q : Int32 → UU → Prop} (C : Cx p m c cX12_within 2 s args RX12 meth (some .int) A D [(cI, .int), (cZ, .boolean)] EM) : ∀ {x1 : Int32} {u : UU}, m_X12_within N x1 u Q → WW p l e rm_X12_within s m args below meth c 0 0 (MQ below (QI D A (wM ad cI cZ) Q) args s 0 0 A) A D 2 0 [(0, .ref (ad 0)), (1, .int x1)] [] (wM ad cI cZ u) := by
  intro x1 u h
  unfold m_X12_within at h
  refine ww_aload_n C dX12_within_0 rfl 0 rfl ?_
  refine ww_iconst (v := 0) C dX12_within_1 (by decide) ?_
  refine ww_put C inX12 rfl tyX12 tyX12_ok nmX12 0 (by decide) tb_4_36 rfl rfl rfl MS_0_0 dX12_within_2 ?_
  refine ww_nU (wM ad cI cZ) (fun u_1 eu_1 => ?_)
  have h := h u_1 eu_1
  refine ww_aload_n C dX12_within_5 rfl 0 rfl ?_
  refine ww_get C inX12 rfl 22 (by decide) tb_4_58 MF_0_22 dX12_within_6 ?_
  refine ww_iconst (v := (-1)) C dX12_within_9 (by decide) ?_
  refine ww_icmp_eq (tgt := 21) C dX12_within_10 (by decide) (fun hc => ?_) (fun hc => ?_)
  · have h := ite_t h hc
    refine ww_iconst (v := (-1)) C dX12_within_21 (by decide) ?_
    exact ww_iret C h dX12_within_22
  · have h := ite_f h hc
    refine ww_aload_n C dX12_within_13 rfl 0 rfl ?_
    refine ww_iload_n C dX12_within_14 rfl 1 rfl ?_
    refine ww_callVi (As := [.int x1]) (rest := []) C EM_ok (c_X12_isBoard h) tb_4_210 tb_4_212 tbs_19 tb_1_13 tb_4_213 rfl rfl ⟨rfl, hd_X12_isBoard⟩ ⟨Nat.le_of_ble_eq_true rfl, Nat.le_of_ble_eq_true rfl⟩ rfl MF_0_0 rfl rfl (Nat.le_of_ble_eq_true rfl) dX12_within_15 ⟨Nat.zero_le _, Nat.zero_le _⟩ (fun r_3 u_2 h => ?_)
    refine ww_if_ne (tgt := 23) C dX12_within_18 (by decide) (fun hc => ?_) (fun hc => ?_)
    · have h := ite_f h hc
      refine ww_aload_n C dX12_within_23 rfl 0 rfl ?_
      refine ww_aload_n C dX12_within_24 rfl 0 rfl ?_
      refine ww_get C inX12 rfl 22 (by decide) tb_4_58 MF_0_22 dX12_within_25 ?_
      refine ww_aload_n C dX12_within_28 rfl 0 rfl ?_
      refine ww_get C inX12 rfl 23 (by decide) tb_4_59 MF_0_23 dX12_within_29 ?_
      refine ww_iload_n C dX12_within_32 rfl 1 rfl ?_
      refine ww_aload_n C dX12_within_33 rfl 0 rfl ?_
      refine ww_get C inX12 rfl 24 (by decide) tb_4_60 MF_0_24 dX12_within_34 ?_
      refine ww_callVi (As := [.int (u_2.1 5), .int (u_2.1 6), .int x1, .int (u_2.1 7)]) (rest := []) C EM_ok (c_X12_isNear h) tb_5_20 tb_5_22 tbs_25 tb_1_13 tb_5_23 rfl rfl ⟨rfl, hd_X12_isNear⟩ ⟨Nat.le_of_ble_eq_true rfl, Nat.le_of_ble_eq_true rfl⟩ rfl MF_0_0 rfl rfl (Nat.le_of_ble_eq_true rfl) dX12_within_37 ⟨Nat.zero_le _, Nat.zero_le _⟩ (fun r_5 u_4 h => ?_)
      refine ww_if_eq (tgt := 47) C dX12_within_40 (by decide) (fun hc => ?_) (fun hc => ?_)
      · have h := ite_t h hc
        refine ww_iconst (v := 0) C dX12_within_47 (by decide) ?_
        exact ww_iret C h dX12_within_48
      · have h := ite_f h hc
        refine ww_iconst (v := 1) C dX12_within_43 (by decide) ?_
        refine ww_goto (tgt := 48) C dX12_within_44 (by decide) ?_
        exact ww_iret C h dX12_within_48
    · have h := ite_t h hc
      refine ww_iconst (v := (-1)) C dX12_within_21 (by decide) ?_
      exact ww_iret C h dX12_within_22
theorem c_X12_within {l : Launch} {D : va_G} {ad : Nat → Nat} {cI cZ : ClassId} {N : Nat} {x1 : Int32} {u : UU} {Q : Int32 → UU → Prop} (h : m_X12_within N x1 u Q) : MI l D [(cI, .int), (cZ, .boolean)] EM yX12_within (Cond.code yX12_within cX12_within 2 (some .int)) rm_X12_within [.ref (ad 0), .int x1] (wM ad cI cZ u) (wM ad cI cZ) Q :=
  MI_of (own := RX12) (by decide) rfl (Nat.le_of_ble_eq_true rfl) rfl (fun p e s m args below meth c A C => w_X12_within C h)
theorem hd_X12_within : yX12_within.cls ≠ "java/lang/invoke/MethodHandle" ∧ yX12_within.cls ≠ "java/lang/invoke/VarHandle" ∧ (parseMethodDescriptor yX12_within.desc).map (fun d => d.parameters.length) = some 1 := by decide +kernel
abbrev rm_X12_farOf : Room := { frames := 0, cells := 0, slots := 0, locals := 0 }
set_option maxRecDepth 100000 in
theorem w_X12_farOf {p : Program} {l : Launch} {e : Env} {s : State} {m : MethodId} {args : Array Value} {below : List Frame} {meth : Method} {c : Code} {A : Nat → Prop} {D : va_G} {ad : Nat → Nat} {cI cZ : ClassId} {N : Nat} {Q : Int32 → UU → Prop} (C : Cx p m c cX12_farOf 4 s args RX12 meth (some .int) A D [(cI, .int), (cZ, .boolean)] EM) : ∀ {x1 : Int32} {x2 : Int32} {x3 : Int32} {u : UU}, m_X12_farOf N x1 x2 x3 u Q → WW p l e rm_X12_farOf s m args below meth c 0 0 (MQ below (QI D A (wM ad cI cZ) Q) args s 0 0 A) A D 4 0 [(0, .ref (ad 0)), (1, .int x1), (2, .int x2), (3, .int x3)] [] (wM ad cI cZ u) := by
  intro x1 x2 x3 u h
  unfold m_X12_farOf at h
  refine ww_aload_n C dX12_farOf_0 rfl 0 rfl ?_
  refine ww_get C inX12 rfl 3 (by decide) tb_4_39 MF_0_3 dX12_farOf_1 ?_
  refine ww_iload_n C dX12_farOf_4 rfl 1 rfl ?_
  obtain ⟨hin, h⟩ := h
  refine ww_iald C 0 rfl MA_1 hin dX12_farOf_5 ?_
  refine ww_iload_n C dX12_farOf_6 rfl 2 rfl ?_
  refine ww_isub C dX12_farOf_7 ?_
  refine ww_aload_n C dX12_farOf_8 rfl 0 rfl ?_
  refine ww_get C inX12 rfl 3 (by decide) tb_4_39 MF_0_3 dX12_farOf_9 ?_
  refine ww_iload_n C dX12_farOf_12 rfl 1 rfl ?_
  obtain ⟨hin, h⟩ := h
  refine ww_iald C 0 rfl MA_1 hin dX12_farOf_13 ?_
  refine ww_iload_n C dX12_farOf_14 rfl 2 rfl ?_
  refine ww_isub C dX12_farOf_15 ?_
  refine ww_imul C dX12_farOf_16 ?_
  refine ww_aload_n C dX12_farOf_17 rfl 0 rfl ?_
  refine ww_get C inX12 rfl 4 (by decide) tb_4_40 MF_0_4 dX12_farOf_18 ?_
  refine ww_iload_n C dX12_farOf_21 rfl 1 rfl ?_
  obtain ⟨hin, h⟩ := h
  refine ww_iald C 0 rfl MA_2 hin dX12_farOf_22 ?_
  refine ww_iload_n C dX12_farOf_23 rfl 3 rfl ?_
  refine ww_isub C dX12_farOf_24 ?_
  refine ww_aload_n C dX12_farOf_25 rfl 0 rfl ?_
  refine ww_get C inX12 rfl 4 (by decide) tb_4_40 MF_0_4 dX12_farOf_26 ?_
  refine ww_iload_n C dX12_farOf_29 rfl 1 rfl ?_
  obtain ⟨hin, h⟩ := h
  refine ww_iald C 0 rfl MA_2 hin dX12_farOf_30 ?_
  refine ww_iload_n C dX12_farOf_31 rfl 3 rfl ?_
  refine ww_isub C dX12_farOf_32 ?_
  refine ww_imul C dX12_farOf_33 ?_
  refine ww_iadd C dX12_farOf_34 ?_
  exact ww_iret C h dX12_farOf_35
theorem c_X12_farOf {l : Launch} {D : va_G} {ad : Nat → Nat} {cI cZ : ClassId} {N : Nat} {x1 : Int32} {x2 : Int32} {x3 : Int32} {u : UU} {Q : Int32 → UU → Prop} (h : m_X12_farOf N x1 x2 x3 u Q) : MI l D [(cI, .int), (cZ, .boolean)] EM yX12_farOf (Cond.code yX12_farOf cX12_farOf 4 (some .int)) rm_X12_farOf [.ref (ad 0), .int x1, .int x2, .int x3] (wM ad cI cZ u) (wM ad cI cZ) Q :=
  MI_of (own := RX12) (by decide) rfl (Nat.le_of_ble_eq_true rfl) rfl (fun p e s m args below meth c A C => w_X12_farOf C h)
theorem hd_X12_farOf : yX12_farOf.cls ≠ "java/lang/invoke/MethodHandle" ∧ yX12_farOf.cls ≠ "java/lang/invoke/VarHandle" ∧ (parseMethodDescriptor yX12_farOf.desc).map (fun d => d.parameters.length) = some 3 := by decide +kernel
abbrev rm_X12_findMap : Room := { frames := 1, cells := 0, slots := 0, locals := 23 }
set_option maxRecDepth 100000 in
theorem w_X12_findMap_29 {p : Program} {l : Launch} {e : Env} {s : State} {m : MethodId} {args : Array Value} {below : List Frame} {meth : Method} {c : Code} {A : Nat → Prop} {D : va_G} {ad : Nat → Nat} {cI cZ : ClassId} {N : Nat} {Q : Int32 → UU → Prop} {k2 : Int32 → Int32 → Int32 → UU → Prop} (C : Cx p m c cX12_findMap 14 s args RX12 meth (some .boolean) A D [(cI, .int), (cZ, .boolean)] EM) (hk2 : ∀ (x1 : Int32) (x2 : Int32) (x3 : Int32) (u : UU), k2 x1 x2 x3 u → WW p l e rm_X12_findMap s m args below meth c 0 0 (MQ below (QI D A (wM ad cI cZ) Q) args s 0 0 A) A D 14 2 [(0, .ref (ad 0)), (1, .int x1), (2, .int x2), (3, .int x3)] [] (wM ad cI cZ u)) : ∀ {x1 : Int32} {x2 : Int32} {x3 : Int32} {y1 : Int32} {y2 : Int32} {u : UU}, m_X12_findMap_29 N k2 x1 x2 x3 y1 y2 u Q → WW p l e rm_X12_findMap s m args below meth c 0 0 (MQ below (QI D A (wM ad cI cZ) Q) args s 0 0 A) A D 14 29 [(0, .ref (ad 0)), (1, .int x1), (2, .int x2), (3, .int x3)] [.int y2, .int y1, .ref (ad 18)] (wM ad cI cZ u) := by
  intro x1 x2 x3 y1 y2 u h
  unfold m_X12_findMap_29 at h
  obtain ⟨hin, h⟩ := h
  refine ww_zast C 1 rfl MU_18 hin dX12_findMap_29 ?_
  refine ww_nU (wM ad cI cZ) (fun u_1 eu_1 => ?_)
  have h := h u_1 eu_1
  obtain ⟨z_2, ez_2⟩ : ∃ z_2 : Int32, z_2 = x3 + (1 : Int32) := ⟨_, rfl⟩
  have h := h z_2 ez_2
  refine ww_iinc (i := 3) (j := 3) (v := z_2) (lv' := [(3, .int z_2), (0, .ref (ad 0)), (1, .int x1), (2, .int x2)]) C dX12_findMap_30 rfl (by rw [ez_2]; rfl) (by decide) rfl ?_
  refine ww_goto (tgt := 2) C dX12_findMap_33 (by decide) ?_
  refine ww_sub [1, 2, 3, 0] rfl ?_
  exact hk2 _ _ _ _ h
set_option maxRecDepth 100000 in
theorem w_X12_findMap_118 {p : Program} {l : Launch} {e : Env} {s : State} {m : MethodId} {args : Array Value} {below : List Frame} {meth : Method} {c : Code} {A : Nat → Prop} {D : va_G} {ad : Nat → Nat} {cI cZ : ClassId} {N : Nat} {Q : Int32 → UU → Prop} {k56 : Int32 → Int32 → Int32 → Int32 → Int32 → Int32 → Int64 → Int64 → Int32 → UU → Prop} {k68 : Int32 → Int32 → Int32 → Int32 → Int32 → Int32 → Int64 → Int64 → Int32 → Int32 → Int32 → UU → Prop} (C : Cx p m c cX12_findMap 14 s args RX12 meth (some .boolean) A D [(cI, .int), (cZ, .boolean)] EM) (hk56 : ∀ (x1 : Int32) (x2 : Int32) (x3 : Int32) (x4 : Int32) (x5 : Int32) (x6 : Int32) (x7 : Int64) (x9 : Int64) (x11 : Int32) (u : UU), k56 x1 x2 x3 x4 x5 x6 x7 x9 x11 u → WW p l e rm_X12_findMap s m args below meth c 0 0 (MQ below (QI D A (wM ad cI cZ) Q) args s 0 0 A) A D 14 56 [(0, .ref (ad 0)), (1, .int x1), (2, .int x2), (3, .int x3), (4, .int x4), (5, .int x5), (6, .int x6), (7, .long x7), (9, .long x9), (11, .int x11)] [] (wM ad cI cZ u)) (hk68 : ∀ (x1 : Int32) (x2 : Int32) (x3 : Int32) (x4 : Int32) (x5 : Int32) (x6 : Int32) (x7 : Int64) (x9 : Int64) (x11 : Int32) (x12 : Int32) (x13 : Int32) (u : UU), k68 x1 x2 x3 x4 x5 x6 x7 x9 x11 x12 x13 u → WW p l e rm_X12_findMap s m args below meth c 0 0 (MQ below (QI D A (wM ad cI cZ) Q) args s 0 0 A) A D 14 68 [(0, .ref (ad 0)), (1, .int x1), (2, .int x2), (3, .int x3), (4, .int x4), (5, .int x5), (6, .int x6), (7, .long x7), (9, .long x9), (11, .int x11), (12, .int x12), (13, .int x13)] [] (wM ad cI cZ u)) : ∀ {x1 : Int32} {x2 : Int32} {x3 : Int32} {x4 : Int32} {x5 : Int32} {x6 : Int32} {x7 : Int64} {x9 : Int64} {x11 : Int32} {x13 : Int32} {y0 : Int32} {u : UU}, m_X12_findMap_118 N k56 k68 x1 x2 x3 x4 x5 x6 x7 x9 x11 x13 y0 u Q → WW p l e rm_X12_findMap s m args below meth c 0 0 (MQ below (QI D A (wM ad cI cZ) Q) args s 0 0 A) A D 14 118 [(0, .ref (ad 0)), (1, .int x1), (2, .int x2), (3, .int x3), (4, .int x4), (5, .int x5), (6, .int x6), (7, .long x7), (9, .long x9), (11, .int x11), (13, .int x13)] [.int y0] (wM ad cI cZ u) := by
  intro x1 x2 x3 x4 x5 x6 x7 x9 x11 x13 y0 u h
  unfold m_X12_findMap_118 at h
  refine ww_istore (i := 12) (lv' := [(12, .int y0), (0, .ref (ad 0)), (1, .int x1), (2, .int x2), (3, .int x3), (4, .int x4), (5, .int x5), (6, .int x6), (7, .long x7), (9, .long x9), (11, .int x11), (13, .int x13)]) C dX12_findMap_118 (by decide) rfl ?_
  obtain ⟨z_1, ez_1⟩ : ∃ z_1 : Int32, z_1 = x13 + (1 : Int32) := ⟨_, rfl⟩
  have h := h z_1 ez_1
  refine ww_iinc (i := 13) (j := 11) (v := z_1) (lv' := [(13, .int z_1), (12, .int y0), (0, .ref (ad 0)), (1, .int x1), (2, .int x2), (3, .int x3), (4, .int x4), (5, .int x5), (6, .int x6), (7, .long x7), (9, .long x9), (11, .int x11)]) C dX12_findMap_120 rfl (by rw [ez_1]; rfl) (by decide) rfl ?_
  refine ww_goto (tgt := 68) C dX12_findMap_123 (by decide) ?_
  refine ww_sub [2, 3, 4, 5, 6, 7, 8, 9, 10, 11, 1, 0] rfl ?_
  exact hk68 _ _ _ _ _ _ _ _ _ _ _ _ h
set_option maxRecDepth 100000 in
theorem w_X12_findMap_111 {p : Program} {l : Launch} {e : Env} {s : State} {m : MethodId} {args : Array Value} {below : List Frame} {meth : Method} {c : Code} {A : Nat → Prop} {D : va_G} {ad : Nat → Nat} {cI cZ : ClassId} {N : Nat} {Q : Int32 → UU → Prop} {k56 : Int32 → Int32 → Int32 → Int32 → Int32 → Int32 → Int64 → Int64 → Int32 → UU → Prop} {k68 : Int32 → Int32 → Int32 → Int32 → Int32 → Int32 → Int64 → Int64 → Int32 → Int32 → Int32 → UU → Prop} (C : Cx p m c cX12_findMap 14 s args RX12 meth (some .boolean) A D [(cI, .int), (cZ, .boolean)] EM) (hk56 : ∀ (x1 : Int32) (x2 : Int32) (x3 : Int32) (x4 : Int32) (x5 : Int32) (x6 : Int32) (x7 : Int64) (x9 : Int64) (x11 : Int32) (u : UU), k56 x1 x2 x3 x4 x5 x6 x7 x9 x11 u → WW p l e rm_X12_findMap s m args below meth c 0 0 (MQ below (QI D A (wM ad cI cZ) Q) args s 0 0 A) A D 14 56 [(0, .ref (ad 0)), (1, .int x1), (2, .int x2), (3, .int x3), (4, .int x4), (5, .int x5), (6, .int x6), (7, .long x7), (9, .long x9), (11, .int x11)] [] (wM ad cI cZ u)) (hk68 : ∀ (x1 : Int32) (x2 : Int32) (x3 : Int32) (x4 : Int32) (x5 : Int32) (x6 : Int32) (x7 : Int64) (x9 : Int64) (x11 : Int32) (x12 : Int32) (x13 : Int32) (u : UU), k68 x1 x2 x3 x4 x5 x6 x7 x9 x11 x12 x13 u → WW p l e rm_X12_findMap s m args below meth c 0 0 (MQ below (QI D A (wM ad cI cZ) Q) args s 0 0 A) A D 14 68 [(0, .ref (ad 0)), (1, .int x1), (2, .int x2), (3, .int x3), (4, .int x4), (5, .int x5), (6, .int x6), (7, .long x7), (9, .long x9), (11, .int x11), (12, .int x12), (13, .int x13)] [] (wM ad cI cZ u)) : ∀ {x1 : Int32} {x2 : Int32} {x3 : Int32} {x4 : Int32} {x5 : Int32} {x6 : Int32} {x7 : Int64} {x9 : Int64} {x11 : Int32} {x13 : Int32} {u : UU}, m_X12_findMap_111 N k56 k68 x1 x2 x3 x4 x5 x6 x7 x9 x11 x13 u Q → WW p l e rm_X12_findMap s m args below meth c 0 0 (MQ below (QI D A (wM ad cI cZ) Q) args s 0 0 A) A D 14 111 [(0, .ref (ad 0)), (1, .int x1), (2, .int x2), (3, .int x3), (4, .int x4), (5, .int x5), (6, .int x6), (7, .long x7), (9, .long x9), (11, .int x11), (13, .int x13)] [] (wM ad cI cZ u) := by
  intro x1 x2 x3 x4 x5 x6 x7 x9 x11 x13 u h
  unfold m_X12_findMap_111 at h
  refine ww_iload C dX12_findMap_111 10 rfl ?_
  refine ww_goto (tgt := 118) C dX12_findMap_113 (by decide) ?_
  exact w_X12_findMap_118 C hk56 hk68 h
set_option maxRecDepth 100000 in
theorem w_X12_findMap_116 {p : Program} {l : Launch} {e : Env} {s : State} {m : MethodId} {args : Array Value} {below : List Frame} {meth : Method} {c : Code} {A : Nat → Prop} {D : va_G} {ad : Nat → Nat} {cI cZ : ClassId} {N : Nat} {Q : Int32 → UU → Prop} {k56 : Int32 → Int32 → Int32 → Int32 → Int32 → Int32 → Int64 → Int64 → Int32 → UU → Prop} {k68 : Int32 → Int32 → Int32 → Int32 → Int32 → Int32 → Int64 → Int64 → Int32 → Int32 → Int32 → UU → Prop} (C : Cx p m c cX12_findMap 14 s args RX12 meth (some .boolean) A D [(cI, .int), (cZ, .boolean)] EM) (hk56 : ∀ (x1 : Int32) (x2 : Int32) (x3 : Int32) (x4 : Int32) (x5 : Int32) (x6 : Int32) (x7 : Int64) (x9 : Int64) (x11 : Int32) (u : UU), k56 x1 x2 x3 x4 x5 x6 x7 x9 x11 u → WW p l e rm_X12_findMap s m args below meth c 0 0 (MQ below (QI D A (wM ad cI cZ) Q) args s 0 0 A) A D 14 56 [(0, .ref (ad 0)), (1, .int x1), (2, .int x2), (3, .int x3), (4, .int x4), (5, .int x5), (6, .int x6), (7, .long x7), (9, .long x9), (11, .int x11)] [] (wM ad cI cZ u)) (hk68 : ∀ (x1 : Int32) (x2 : Int32) (x3 : Int32) (x4 : Int32) (x5 : Int32) (x6 : Int32) (x7 : Int64) (x9 : Int64) (x11 : Int32) (x12 : Int32) (x13 : Int32) (u : UU), k68 x1 x2 x3 x4 x5 x6 x7 x9 x11 x12 x13 u → WW p l e rm_X12_findMap s m args below meth c 0 0 (MQ below (QI D A (wM ad cI cZ) Q) args s 0 0 A) A D 14 68 [(0, .ref (ad 0)), (1, .int x1), (2, .int x2), (3, .int x3), (4, .int x4), (5, .int x5), (6, .int x6), (7, .long x7), (9, .long x9), (11, .int x11), (12, .int x12), (13, .int x13)] [] (wM ad cI cZ u)) : ∀ {x1 : Int32} {x2 : Int32} {x3 : Int32} {x4 : Int32} {x5 : Int32} {x6 : Int32} {x7 : Int64} {x9 : Int64} {x11 : Int32} {x12 : Int32} {x13 : Int32} {u : UU}, m_X12_findMap_116 N k56 k68 x1 x2 x3 x4 x5 x6 x7 x9 x11 x12 x13 u Q → WW p l e rm_X12_findMap s m args below meth c 0 0 (MQ below (QI D A (wM ad cI cZ) Q) args s 0 0 A) A D 14 116 [(0, .ref (ad 0)), (1, .int x1), (2, .int x2), (3, .int x3), (4, .int x4), (5, .int x5), (6, .int x6), (7, .long x7), (9, .long x9), (11, .int x11), (12, .int x12), (13, .int x13)] [] (wM ad cI cZ u) := by
  intro x1 x2 x3 x4 x5 x6 x7 x9 x11 x12 x13 u h
  unfold m_X12_findMap_116 at h
  refine ww_iload C dX12_findMap_116 10 rfl ?_
  refine ww_sub [0, 1, 2, 3, 4, 5, 6, 7, 8, 9, 11] rfl ?_
  exact w_X12_findMap_118 C hk56 hk68 h
set_option maxRecDepth 100000 in
theorem w_X12_findMap_259 {p : Program} {l : Launch} {e : Env} {s : State} {m : MethodId} {args : Array Value} {below : List Frame} {meth : Method} {c : Code} {A : Nat → Prop} {D : va_G} {ad : Nat → Nat} {cI cZ : ClassId} {N : Nat} {Q : Int32 → UU → Prop} {k56 : Int32 → Int32 → Int32 → Int32 → Int32 → Int32 → Int64 → Int64 → Int32 → UU → Prop} (C : Cx p m c cX12_findMap 14 s args RX12 meth (some .boolean) A D [(cI, .int), (cZ, .boolean)] EM) (hk56 : ∀ (x1 : Int32) (x2 : Int32) (x3 : Int32) (x4 : Int32) (x5 : Int32) (x6 : Int32) (x7 : Int64) (x9 : Int64) (x11 : Int32) (u : UU), k56 x1 x2 x3 x4 x5 x6 x7 x9 x11 u → WW p l e rm_X12_findMap s m args below meth c 0 0 (MQ below (QI D A (wM ad cI cZ) Q) args s 0 0 A) A D 14 56 [(0, .ref (ad 0)), (1, .int x1), (2, .int x2), (3, .int x3), (4, .int x4), (5, .int x5), (6, .int x6), (7, .long x7), (9, .long x9), (11, .int x11)] [] (wM ad cI cZ u)) : ∀ {x1 : Int32} {x2 : Int32} {x3 : Int32} {x4 : Int32} {x5 : Int32} {x6 : Int32} {x7 : Int64} {x9 : Int64} {x11 : Int32} {u : UU}, m_X12_findMap_259 N k56 x1 x2 x3 x4 x5 x6 x7 x9 x11 u Q → WW p l e rm_X12_findMap s m args below meth c 0 0 (MQ below (QI D A (wM ad cI cZ) Q) args s 0 0 A) A D 14 259 [(0, .ref (ad 0)), (1, .int x1), (2, .int x2), (3, .int x3), (4, .int x4), (5, .int x5), (6, .int x6), (7, .long x7), (9, .long x9), (11, .int x11)] [] (wM ad cI cZ u) := by
  intro x1 x2 x3 x4 x5 x6 x7 x9 x11 u h
  unfold m_X12_findMap_259 at h
  obtain ⟨z_1, ez_1⟩ : ∃ z_1 : Int32, z_1 = x11 + (1 : Int32) := ⟨_, rfl⟩
  have h := h z_1 ez_1
  refine ww_iinc (i := 11) (j := 9) (v := z_1) (lv' := [(11, .int z_1), (0, .ref (ad 0)), (1, .int x1), (2, .int x2), (3, .int x3), (4, .int x4), (5, .int x5), (6, .int x6), (7, .long x7), (9, .long x9)]) C dX12_findMap_259 rfl (by rw [ez_1]; rfl) (by decide) rfl ?_
  refine ww_goto (tgt := 56) C dX12_findMap_262 (by decide) ?_
  refine ww_sub [1, 2, 3, 4, 5, 6, 7, 8, 9, 0] rfl ?_
  exact hk56 _ _ _ _ _ _ _ _ _ _ h
set_option maxRecDepth 100000 in
theorem w_X12_findMap_254 {p : Program} {l : Launch} {e : Env} {s : State} {m : MethodId} {args : Array Value} {below : List Frame} {meth : Method} {c : Code} {A : Nat → Prop} {D : va_G} {ad : Nat → Nat} {cI cZ : ClassId} {N : Nat} {Q : Int32 → UU → Prop} {k56 : Int32 → Int32 → Int32 → Int32 → Int32 → Int32 → Int64 → Int64 → Int32 → UU → Prop} (C : Cx p m c cX12_findMap 14 s args RX12 meth (some .boolean) A D [(cI, .int), (cZ, .boolean)] EM) (hk56 : ∀ (x1 : Int32) (x2 : Int32) (x3 : Int32) (x4 : Int32) (x5 : Int32) (x6 : Int32) (x7 : Int64) (x9 : Int64) (x11 : Int32) (u : UU), k56 x1 x2 x3 x4 x5 x6 x7 x9 x11 u → WW p l e rm_X12_findMap s m args below meth c 0 0 (MQ below (QI D A (wM ad cI cZ) Q) args s 0 0 A) A D 14 56 [(0, .ref (ad 0)), (1, .int x1), (2, .int x2), (3, .int x3), (4, .int x4), (5, .int x5), (6, .int x6), (7, .long x7), (9, .long x9), (11, .int x11)] [] (wM ad cI cZ u)) : ∀ {x1 : Int32} {x2 : Int32} {x3 : Int32} {x4 : Int32} {x6 : Int32} {x7 : Int64} {x9 : Int64} {x11 : Int32} {y0 : Int32} {u : UU}, m_X12_findMap_254 N k56 x1 x2 x3 x4 x6 x7 x9 x11 y0 u Q → WW p l e rm_X12_findMap s m args below meth c 0 0 (MQ below (QI D A (wM ad cI cZ) Q) args s 0 0 A) A D 14 254 [(0, .ref (ad 0)), (1, .int x1), (2, .int x2), (3, .int x3), (4, .int x4), (6, .int x6), (7, .long x7), (9, .long x9), (11, .int x11)] [.int y0] (wM ad cI cZ u) := by
  intro x1 x2 x3 x4 x6 x7 x9 x11 y0 u h
  unfold m_X12_findMap_254 at h
  refine ww_istore (i := 5) (lv' := [(5, .int y0), (0, .ref (ad 0)), (1, .int x1), (2, .int x2), (3, .int x3), (4, .int x4), (6, .int x6), (7, .long x7), (9, .long x9), (11, .int x11)]) C dX12_findMap_254 (by decide) rfl ?_
  obtain ⟨z_1, ez_1⟩ : ∃ z_1 : Int32, z_1 = x3 + (1 : Int32) := ⟨_, rfl⟩
  have h := h z_1 ez_1
  refine ww_iinc (i := 3) (j := 4) (v := z_1) (lv' := [(3, .int z_1), (5, .int y0), (0, .ref (ad 0)), (1, .int x1), (2, .int x2), (4, .int x4), (6, .int x6), (7, .long x7), (9, .long x9), (11, .int x11)]) C dX12_findMap_256 rfl (by rw [ez_1]; rfl) (by decide) rfl ?_
  refine ww_sub [2, 3, 4, 0, 5, 1, 6, 7, 8, 9] rfl ?_
  exact w_X12_findMap_259 C hk56 h
set_option maxRecDepth 100000 in
theorem w_X12_findMap_242 {p : Program} {l : Launch} {e : Env} {s : State} {m : MethodId} {args : Array Value} {below : List Frame} {meth : Method} {c : Code} {A : Nat → Prop} {D : va_G} {ad : Nat → Nat} {cI cZ : ClassId} {N : Nat} {Q : Int32 → UU → Prop} {k56 : Int32 → Int32 → Int32 → Int32 → Int32 → Int32 → Int64 → Int64 → Int32 → UU → Prop} (C : Cx p m c cX12_findMap 14 s args RX12 meth (some .boolean) A D [(cI, .int), (cZ, .boolean)] EM) (hk56 : ∀ (x1 : Int32) (x2 : Int32) (x3 : Int32) (x4 : Int32) (x5 : Int32) (x6 : Int32) (x7 : Int64) (x9 : Int64) (x11 : Int32) (u : UU), k56 x1 x2 x3 x4 x5 x6 x7 x9 x11 u → WW p l e rm_X12_findMap s m args below meth c 0 0 (MQ below (QI D A (wM ad cI cZ) Q) args s 0 0 A) A D 14 56 [(0, .ref (ad 0)), (1, .int x1), (2, .int x2), (3, .int x3), (4, .int x4), (5, .int x5), (6, .int x6), (7, .long x7), (9, .long x9), (11, .int x11)] [] (wM ad cI cZ u)) : ∀ {x1 : Int32} {x2 : Int32} {x3 : Int32} {x4 : Int32} {x6 : Int32} {x7 : Int64} {x9 : Int64} {x11 : Int32} {x12 : Int32} {u : UU}, m_X12_findMap_242 N k56 x1 x2 x3 x4 x6 x7 x9 x11 x12 u Q → WW p l e rm_X12_findMap s m args below meth c 0 0 (MQ below (QI D A (wM ad cI cZ) Q) args s 0 0 A) A D 14 242 [(0, .ref (ad 0)), (1, .int x1), (2, .int x2), (3, .int x3), (4, .int x4), (6, .int x6), (7, .long x7), (9, .long x9), (11, .int x11), (12, .int x12)] [] (wM ad cI cZ u) := by
  intro x1 x2 x3 x4 x6 x7 x9 x11 x12 u h
  unfold m_X12_findMap_242 at h
  refine ww_aload_n C dX12_findMap_242 rfl 0 rfl ?_
  refine ww_get C inX12 rfl 19 (by decide) tb_4_55 MF_0_19 dX12_findMap_243 ?_
  refine ww_iload C dX12_findMap_246 9 rfl ?_
  obtain ⟨hin, h⟩ := h
  refine ww_iald C 0 rfl MA_15 hin dX12_findMap_248 ?_
  refine ww_goto (tgt := 254) C dX12_findMap_249 (by decide) ?_
  refine ww_sub [0, 1, 2, 3, 4, 5, 6, 7, 8] rfl ?_
  exact w_X12_findMap_254 C hk56 h
set_option maxRecDepth 100000 in
theorem w_X12_findMap_224 {p : Program} {l : Launch} {e : Env} {s : State} {m : MethodId} {args : Array Value} {below : List Frame} {meth : Method} {c : Code} {A : Nat → Prop} {D : va_G} {ad : Nat → Nat} {cI cZ : ClassId} {N : Nat} {Q : Int32 → UU → Prop} {k56 : Int32 → Int32 → Int32 → Int32 → Int32 → Int32 → Int64 → Int64 → Int32 → UU → Prop} (C : Cx p m c cX12_findMap 14 s args RX12 meth (some .boolean) A D [(cI, .int), (cZ, .boolean)] EM) (hk56 : ∀ (x1 : Int32) (x2 : Int32) (x3 : Int32) (x4 : Int32) (x5 : Int32) (x6 : Int32) (x7 : Int64) (x9 : Int64) (x11 : Int32) (u : UU), k56 x1 x2 x3 x4 x5 x6 x7 x9 x11 u → WW p l e rm_X12_findMap s m args below meth c 0 0 (MQ below (QI D A (wM ad cI cZ) Q) args s 0 0 A) A D 14 56 [(0, .ref (ad 0)), (1, .int x1), (2, .int x2), (3, .int x3), (4, .int x4), (5, .int x5), (6, .int x6), (7, .long x7), (9, .long x9), (11, .int x11)] [] (wM ad cI cZ u)) : ∀ {x1 : Int32} {x2 : Int32} {x3 : Int32} {x5 : Int32} {x6 : Int32} {x7 : Int64} {x9 : Int64} {x11 : Int32} {x12 : Int32} {y0 : Int32} {u : UU}, m_X12_findMap_224 N k56 x1 x2 x3 x5 x6 x7 x9 x11 x12 y0 u Q → WW p l e rm_X12_findMap s m args below meth c 0 0 (MQ below (QI D A (wM ad cI cZ) Q) args s 0 0 A) A D 14 224 [(0, .ref (ad 0)), (1, .int x1), (2, .int x2), (3, .int x3), (5, .int x5), (6, .int x6), (7, .long x7), (9, .long x9), (11, .int x11), (12, .int x12)] [.int y0] (wM ad cI cZ u) := by
  intro x1 x2 x3 x5 x6 x7 x9 x11 x12 y0 u h
  unfold m_X12_findMap_224 at h
  refine ww_istore (i := 4) (lv' := [(4, .int y0), (0, .ref (ad 0)), (1, .int x1), (2, .int x2), (3, .int x3), (5, .int x5), (6, .int x6), (7, .long x7), (9, .long x9), (11, .int x11), (12, .int x12)]) C dX12_findMap_224 (by decide) rfl ?_
  refine ww_iload_n C dX12_findMap_226 rfl 4 rfl ?_
  refine ww_if_eq (tgt := 242) C dX12_findMap_227 (by decide) (fun hc => ?_) (fun hc => ?_)
  · have h := ite_t h hc
    refine ww_sub [1, 2, 3, 4, 0, 6, 7, 8, 9, 10] rfl ?_
    exact w_X12_findMap_242 C hk56 h
  · have h := ite_f h hc
    refine ww_aload_n C dX12_findMap_230 rfl 1 rfl ?_
    refine ww_get C inX12 rfl 19 (by decide) tb_4_55 MF_0_19 dX12_findMap_231 ?_
    refine ww_iload C dX12_findMap_234 10 rfl ?_
    obtain ⟨hin, h⟩ := h
    refine ww_iald C 0 rfl MA_15 hin dX12_findMap_236 ?_
    refine ww_iload C dX12_findMap_237 5 rfl ?_
    refine ww_icmp_le (tgt := 252) C dX12_findMap_239 (by decide) (fun hc => ?_) (fun hc => ?_)
    · have h := ite_t h hc
      refine ww_iload C dX12_findMap_252 5 rfl ?_
      refine ww_sub [1, 2, 3, 4, 0, 6, 7, 8, 9] rfl ?_
      exact w_X12_findMap_254 C hk56 h
    · have h := ite_f h hc
      refine ww_sub [1, 2, 3, 4, 0, 6, 7, 8, 9, 10] rfl ?_
      exact w_X12_findMap_242 C hk56 h
set_option maxRecDepth 100000 in
theorem w_X12_findMap_212 {p : Program} {l : Launch} {e : Env} {s : State} {m : MethodId} {args : Array Value} {below : List Frame} {meth : Method} {c : Code} {A : Nat → Prop} {D : va_G} {ad : Nat → Nat} {cI cZ : ClassId} {N : Nat} {Q : Int32 → UU → Prop} {k56 : Int32 → Int32 → Int32 → Int32 → Int32 → Int32 → Int64 → Int64 → Int32 → UU → Prop} (C : Cx p m c cX12_findMap 14 s args RX12 meth (some .boolean) A D [(cI, .int), (cZ, .boolean)] EM) (hk56 : ∀ (x1 : Int32) (x2 : Int32) (x3 : Int32) (x4 : Int32) (x5 : Int32) (x6 : Int32) (x7 : Int64) (x9 : Int64) (x11 : Int32) (u : UU), k56 x1 x2 x3 x4 x5 x6 x7 x9 x11 u → WW p l e rm_X12_findMap s m args below meth c 0 0 (MQ below (QI D A (wM ad cI cZ) Q) args s 0 0 A) A D 14 56 [(0, .ref (ad 0)), (1, .int x1), (2, .int x2), (3, .int x3), (4, .int x4), (5, .int x5), (6, .int x6), (7, .long x7), (9, .long x9), (11, .int x11)] [] (wM ad cI cZ u)) : ∀ {x1 : Int32} {x2 : Int32} {x3 : Int32} {x5 : Int32} {x6 : Int32} {x7 : Int64} {x9 : Int64} {x11 : Int32} {x12 : Int32} {u : UU}, m_X12_findMap_212 N k56 x1 x2 x3 x5 x6 x7 x9 x11 x12 u Q → WW p l e rm_X12_findMap s m args below meth c 0 0 (MQ below (QI D A (wM ad cI cZ) Q) args s 0 0 A) A D 14 212 [(0, .ref (ad 0)), (1, .int x1), (2, .int x2), (3, .int x3), (5, .int x5), (6, .int x6), (7, .long x7), (9, .long x9), (11, .int x11), (12, .int x12)] [] (wM ad cI cZ u) := by
  intro x1 x2 x3 x5 x6 x7 x9 x11 x12 u h
  unfold m_X12_findMap_212 at h
  refine ww_aload_n C dX12_findMap_212 rfl 0 rfl ?_
  refine ww_get C inX12 rfl 19 (by decide) tb_4_55 MF_0_19 dX12_findMap_213 ?_
  refine ww_iload C dX12_findMap_216 9 rfl ?_
  obtain ⟨hin, h⟩ := h
  refine ww_iald C 0 rfl MA_15 hin dX12_findMap_218 ?_
  refine ww_goto (tgt := 224) C dX12_findMap_219 (by decide) ?_
  exact w_X12_findMap_224 C hk56 h
set_option maxRecDepth 100000 in
theorem w_X12_findMap_194 {p : Program} {l : Launch} {e : Env} {s : State} {m : MethodId} {args : Array Value} {below : List Frame} {meth : Method} {c : Code} {A : Nat → Prop} {D : va_G} {ad : Nat → Nat} {cI cZ : ClassId} {N : Nat} {Q : Int32 → UU → Prop} {k56 : Int32 → Int32 → Int32 → Int32 → Int32 → Int32 → Int64 → Int64 → Int32 → UU → Prop} (C : Cx p m c cX12_findMap 14 s args RX12 meth (some .boolean) A D [(cI, .int), (cZ, .boolean)] EM) (hk56 : ∀ (x1 : Int32) (x2 : Int32) (x3 : Int32) (x4 : Int32) (x5 : Int32) (x6 : Int32) (x7 : Int64) (x9 : Int64) (x11 : Int32) (u : UU), k56 x1 x2 x3 x4 x5 x6 x7 x9 x11 u → WW p l e rm_X12_findMap s m args below meth c 0 0 (MQ below (QI D A (wM ad cI cZ) Q) args s 0 0 A) A D 14 56 [(0, .ref (ad 0)), (1, .int x1), (2, .int x2), (3, .int x3), (4, .int x4), (5, .int x5), (6, .int x6), (7, .long x7), (9, .long x9), (11, .int x11)] [] (wM ad cI cZ u)) : ∀ {x1 : Int32} {x2 : Int32} {x3 : Int32} {x4 : Int32} {x5 : Int32} {x7 : Int64} {x9 : Int64} {x11 : Int32} {x12 : Int32} {y0 : Int32} {u : UU}, m_X12_findMap_194 N k56 x1 x2 x3 x4 x5 x7 x9 x11 x12 y0 u Q → WW p l e rm_X12_findMap s m args below meth c 0 0 (MQ below (QI D A (wM ad cI cZ) Q) args s 0 0 A) A D 14 194 [(0, .ref (ad 0)), (1, .int x1), (2, .int x2), (3, .int x3), (4, .int x4), (5, .int x5), (7, .long x7), (9, .long x9), (11, .int x11), (12, .int x12)] [.int y0] (wM ad cI cZ u) := by
  intro x1 x2 x3 x4 x5 x7 x9 x11 x12 y0 u h
  unfold m_X12_findMap_194 at h
  refine ww_istore (i := 6) (lv' := [(6, .int y0), (0, .ref (ad 0)), (1, .int x1), (2, .int x2), (3, .int x3), (4, .int x4), (5, .int x5), (7, .long x7), (9, .long x9), (11, .int x11), (12, .int x12)]) C dX12_findMap_194 (by decide) rfl ?_
  refine ww_iload_n C dX12_findMap_196 rfl 4 rfl ?_
  refine ww_if_eq (tgt := 212) C dX12_findMap_197 (by decide) (fun hc => ?_) (fun hc => ?_)
  · have h := ite_t h hc
    refine ww_sub [1, 2, 3, 4, 6, 0, 7, 8, 9, 10] rfl ?_
    exact w_X12_findMap_212 C hk56 h
  · have h := ite_f h hc
    refine ww_aload_n C dX12_findMap_200 rfl 1 rfl ?_
    refine ww_get C inX12 rfl 19 (by decide) tb_4_55 MF_0_19 dX12_findMap_201 ?_
    refine ww_iload C dX12_findMap_204 10 rfl ?_
    obtain ⟨hin, h⟩ := h
    refine ww_iald C 0 rfl MA_15 hin dX12_findMap_206 ?_
    refine ww_iload C dX12_findMap_207 5 rfl ?_
    refine ww_icmp_ge (tgt := 222) C dX12_findMap_209 (by decide) (fun hc => ?_) (fun hc => ?_)
    · have h := ite_t h hc
      refine ww_iload C dX12_findMap_222 5 rfl ?_
      refine ww_sub [1, 2, 3, 4, 6, 0, 7, 8, 9, 10] rfl ?_
      exact w_X12_findMap_224 C hk56 h
    · have h := ite_f h hc
      refine ww_sub [1, 2, 3, 4, 6, 0, 7, 8, 9, 10] rfl ?_
      exact w_X12_findMap_212 C hk56 h
set_option maxRecDepth 100000 in
theorem w_X12_findMap_68 {p : Program} {l : Launch} {e : Env} {s : State} {m : MethodId} {args : Array Value} {below : List Frame} {meth : Method} {c : Code} {A : Nat → Prop} {D : va_G} {ad : Nat → Nat} {cI cZ : ClassId} {N : Nat} {Q : Int32 → UU → Prop} {k56 : Int32 → Int32 → Int32 → Int32 → Int32 → Int32 → Int64 → Int64 → Int32 → UU → Prop} (C : Cx p m c cX12_findMap 14 s args RX12 meth (some .boolean) A D [(cI, .int), (cZ, .boolean)] EM) (hk56 : ∀ (x1 : Int32) (x2 : Int32) (x3 : Int32) (x4 : Int32) (x5 : Int32) (x6 : Int32) (x7 : Int64) (x9 : Int64) (x11 : Int32) (u : UU), k56 x1 x2 x3 x4 x5 x6 x7 x9 x11 u → WW p l e rm_X12_findMap s m args below meth c 0 0 (MQ below (QI D A (wM ad cI cZ) Q) args s 0 0 A) A D 14 56 [(0, .ref (ad 0)), (1, .int x1), (2, .int x2), (3, .int x3), (4, .int x4), (5, .int x5), (6, .int x6), (7, .long x7), (9, .long x9), (11, .int x11)] [] (wM ad cI cZ u)) : ∀ (n : Nat) (x1 : Int32) (x2 : Int32) (x3 : Int32) (x4 : Int32) (x5 : Int32) (x6 : Int32) (x7 : Int64) (x9 : Int64) (x11 : Int32) (x12 : Int32) (x13 : Int32) (u : UU), m_X12_findMap_68 N k56 Q n x1 x2 x3 x4 x5 x6 x7 x9 x11 x12 x13 u → WW p l e rm_X12_findMap s m args below meth c 0 0 (MQ below (QI D A (wM ad cI cZ) Q) args s 0 0 A) A D 14 68 [(0, .ref (ad 0)), (1, .int x1), (2, .int x2), (3, .int x3), (4, .int x4), (5, .int x5), (6, .int x6), (7, .long x7), (9, .long x9), (11, .int x11), (12, .int x12), (13, .int x13)] [] (wM ad cI cZ u) := by
  intro n
  induction n with
  | zero => intro x1 x2 x3 x4 x5 x6 x7 x9 x11 x12 x13 u h; rw [m_X12_findMap_68] at h; exact h.elim
  | succ n ih =>
    intro x1 x2 x3 x4 x5 x6 x7 x9 x11 x12 x13 u h
    rw [m_X12_findMap_68] at h
    refine ww_iload C dX12_findMap_68 11 rfl ?_
    refine ww_aload_n C dX12_findMap_70 rfl 0 rfl ?_
    refine ww_get C inX12 rfl 2 (by decide) tb_4_38 MF_0_2 dX12_findMap_71 ?_
    refine ww_icmp_ge (tgt := 126) C dX12_findMap_74 (by decide) (fun hc => ?_) (fun hc => ?_)
    · have h := ite_t h hc
      refine ww_iload C dX12_findMap_126 10 rfl ?_
      refine ww_if_ge (tgt := 134) C dX12_findMap_128 (by decide) (fun hc => ?_) (fun hc => ?_)
      · have h := ite_t h hc
        refine ww_aload_n C dX12_findMap_134 rfl 0 rfl ?_
        refine ww_get C inX12 rfl 25 (by decide) tb_4_61 MF_0_25 dX12_findMap_135 ?_
        refine ww_iload C dX12_findMap_138 10 rfl ?_
        refine ww_iconst (v := 1) C dX12_findMap_140 (by decide) ?_
        obtain ⟨hin, h⟩ := h
        refine ww_zast C 1 rfl MU_18 hin dX12_findMap_141 ?_
        refine ww_nU (wM ad cI cZ) (fun u_1 eu_1 => ?_)
        have h := h u_1 eu_1
        refine ww_sipush (v := 10000) C dX12_findMap_142 (by decide) ?_
        refine ww_iconst (v := 1) C dX12_findMap_145 (by decide) ?_
        refine ww_aload_n C dX12_findMap_146 rfl 0 rfl ?_
        refine ww_iload C dX12_findMap_147 10 rfl ?_
        refine ww_iload_n C dX12_findMap_149 rfl 1 rfl ?_
        refine ww_iload_n C dX12_findMap_150 rfl 2 rfl ?_
        refine ww_callVi (As := [.int x12, .int x1, .int x2]) (rest := [.int (1 : Int32), .int (10000 : Int32)]) C EM_ok (c_X12_farOf h) tb_5_40 tb_5_42 tbs_27 tb_1_13 tb_5_43 rfl rfl ⟨rfl, hd_X12_farOf⟩ ⟨Nat.le_of_ble_eq_true rfl, Nat.le_of_ble_eq_true rfl⟩ rfl MF_0_0 rfl rfl (Nat.le_of_ble_eq_true rfl) dX12_findMap_151 ⟨Nat.zero_le _, Nat.zero_le _⟩ (fun r_3 u_2 h => ?_)
        refine ww_iadd C dX12_findMap_154 ?_
        obtain ⟨hz, h⟩ := h
        refine ww_idiv C dX12_findMap_155 hz ?_
        refine ww_nI (fun z_4 ez_4 => ?_)
        have h := h z_4 ez_4
        refine ww_istore (i := 13) (lv' := [(13, .int z_4), (0, .ref (ad 0)), (1, .int x1), (2, .int x2), (3, .int x3), (4, .int x4), (5, .int x5), (6, .int x6), (7, .long x7), (9, .long x9), (11, .int x11), (12, .int x12)]) C dX12_findMap_156 (by decide) rfl ?_
        refine ww_lload C dX12_findMap_158 8 rfl ?_
        refine ww_iload C dX12_findMap_160 0 rfl ?_
        refine ww_i2l C dX12_findMap_162 ?_
        refine ww_ladd C dX12_findMap_163 ?_
        refine ww_nL (fun z_5 ez_5 => ?_)
        have h := h z_5 ez_5
        refine ww_lstore (i := 7) (lv' := [(7, .long z_5), (13, .int z_4), (0, .ref (ad 0)), (1, .int x1), (2, .int x2), (3, .int x3), (4, .int x4), (5, .int x5), (6, .int x6), (9, .long x9), (11, .int x11), (12, .int x12)]) C dX12_findMap_164 (by decide) rfl ?_
        refine ww_lload C dX12_findMap_166 9 rfl ?_
        refine ww_iload C dX12_findMap_168 1 rfl ?_
        refine ww_i2l C dX12_findMap_170 ?_
        refine ww_aload_n C dX12_findMap_171 rfl 2 rfl ?_
        refine ww_get C inX12 rfl 19 (by decide) tb_4_55 MF_0_19 dX12_findMap_172 ?_
        refine ww_iload C dX12_findMap_175 11 rfl ?_
        obtain ⟨hin, h⟩ := h
        refine ww_iald C 0 rfl MA_15 hin dX12_findMap_177 ?_
        refine ww_i2l C dX12_findMap_178 ?_
        refine ww_lmul C dX12_findMap_179 ?_
        refine ww_ladd C dX12_findMap_180 ?_
        refine ww_nL (fun z_6 ez_6 => ?_)
        have h := h z_6 ez_6
        refine ww_lstore (i := 9) (lv' := [(9, .long z_6), (7, .long z_5), (13, .int z_4), (0, .ref (ad 0)), (1, .int x1), (2, .int x2), (3, .int x3), (4, .int x4), (5, .int x5), (6, .int x6), (11, .int x11), (12, .int x12)]) C dX12_findMap_181 (by decide) rfl ?_
        refine ww_iload_n C dX12_findMap_183 rfl 6 rfl ?_
        refine ww_if_ne (tgt := 192) C dX12_findMap_184 (by decide) (fun hc => ?_) (fun hc => ?_)
        · have h := ite_f h hc
          refine ww_iload C dX12_findMap_192 9 rfl ?_
          refine ww_sub [3, 4, 5, 6, 7, 8, 1, 0, 10, 11] rfl ?_
          exact w_X12_findMap_194 C hk56 h
        · have h := ite_t h hc
          refine ww_iload C dX12_findMap_187 11 rfl ?_
          refine ww_goto (tgt := 194) C dX12_findMap_189 (by decide) ?_
          refine ww_sub [3, 4, 5, 6, 7, 8, 1, 0, 10, 11] rfl ?_
          exact w_X12_findMap_194 C hk56 h
      · have h := ite_f h hc
        refine ww_goto (tgt := 259) C dX12_findMap_131 (by decide) ?_
        refine ww_sub [0, 1, 2, 3, 4, 5, 6, 7, 8, 9] rfl ?_
        exact w_X12_findMap_259 C hk56 h
    · have h := ite_f h hc
      refine ww_aload_n C dX12_findMap_77 rfl 0 rfl ?_
      refine ww_get C inX12 rfl 25 (by decide) tb_4_61 MF_0_25 dX12_findMap_78 ?_
      refine ww_iload C dX12_findMap_81 11 rfl ?_
      obtain ⟨hin, h⟩ := h
      refine ww_zald C 1 rfl MA_18 hin dX12_findMap_83 ?_
      refine ww_if_ne (tgt := 116) C dX12_findMap_84 (by decide) (fun hc => ?_) (fun hc => ?_)
      · have h := ite_f h hc
        exact w_X12_findMap_116 C hk56 ih h
      · have h := ite_t h hc
        refine ww_iload C dX12_findMap_87 10 rfl ?_
        refine ww_if_lt (tgt := 111) C dX12_findMap_89 (by decide) (fun hc => ?_) (fun hc => ?_)
        · have h := ite_t h hc
          refine ww_sub [0, 1, 2, 3, 4, 5, 6, 7, 8, 9, 11] rfl ?_
          exact w_X12_findMap_111 C hk56 ih h
        · have h := ite_f h hc
          refine ww_aload_n C dX12_findMap_92 rfl 0 rfl ?_
          refine ww_iload C dX12_findMap_93 11 rfl ?_
          refine ww_iload_n C dX12_findMap_95 rfl 1 rfl ?_
          refine ww_iload_n C dX12_findMap_96 rfl 2 rfl ?_
          refine ww_callVi (As := [.int x13, .int x1, .int x2]) (rest := []) C EM_ok (c_X12_farOf h) tb_5_40 tb_5_42 tbs_27 tb_1_13 tb_5_43 rfl rfl ⟨rfl, hd_X12_farOf⟩ ⟨Nat.le_of_ble_eq_true rfl, Nat.le_of_ble_eq_true rfl⟩ rfl MF_0_0 rfl rfl (Nat.le_of_ble_eq_true rfl) dX12_findMap_97 ⟨Nat.zero_le _, Nat.zero_le _⟩ (fun r_8 u_7 h => ?_)
          refine ww_aload_n C dX12_findMap_100 rfl 0 rfl ?_
          refine ww_iload C dX12_findMap_101 10 rfl ?_
          refine ww_iload_n C dX12_findMap_103 rfl 1 rfl ?_
          refine ww_iload_n C dX12_findMap_104 rfl 2 rfl ?_
          refine ww_callVi (As := [.int x12, .int x1, .int x2]) (rest := [.int r_8]) C EM_ok (c_X12_farOf h) tb_5_40 tb_5_42 tbs_27 tb_1_13 tb_5_43 rfl rfl ⟨rfl, hd_X12_farOf⟩ ⟨Nat.le_of_ble_eq_true rfl, Nat.le_of_ble_eq_true rfl⟩ rfl MF_0_0 rfl rfl (Nat.le_of_ble_eq_true rfl) dX12_findMap_105 ⟨Nat.zero_le _, Nat.zero_le _⟩ (fun r_10 u_9 h => ?_)
          refine ww_icmp_ge (tgt := 116) C dX12_findMap_108 (by decide) (fun hc => ?_) (fun hc => ?_)
          · have h := ite_t h hc
            exact w_X12_findMap_116 C hk56 ih h
          · have h := ite_f h hc
            refine ww_sub [0, 1, 2, 3, 4, 5, 6, 7, 8, 9, 11] rfl ?_
            exact w_X12_findMap_111 C hk56 ih h
set_option maxRecDepth 100000 in
theorem w_X12_findMap_361 {p : Program} {l : Launch} {e : Env} {s : State} {m : MethodId} {args : Array Value} {below : List Frame} {meth : Method} {c : Code} {A : Nat → Prop} {D : va_G} {ad : Nat → Nat} {cI cZ : ClassId} {N : Nat} {Q : Int32 → UU → Prop} (C : Cx p m c cX12_findMap 14 s args RX12 meth (some .boolean) A D [(cI, .int), (cZ, .boolean)] EM) : ∀ {y1 : Int32} {u : UU}, m_X12_findMap_361 N y1 u Q → WW p l e rm_X12_findMap s m args below meth c 0 0 (MQ below (QI D A (wM ad cI cZ) Q) args s 0 0 A) A D 14 361 [] [.int y1, .ref (ad 0)] (wM ad cI cZ u) := by
  intro y1 u h
  unfold m_X12_findMap_361 at h
  refine ww_put C inX12 rfl tyX12 tyX12_ok nmX12 27 (by decide) tb_4_63 rfl rfl rfl MS_0_27 dX12_findMap_361 ?_
  refine ww_nU (wM ad cI cZ) (fun u_1 eu_1 => ?_)
  have h := h u_1 eu_1
  refine ww_iconst (v := 1) C dX12_findMap_364 (by decide) ?_
  exact ww_zret C h.1 h.2 dX12_findMap_365
set_option maxRecDepth 100000 in
theorem w_X12_findMap_301 {p : Program} {l : Launch} {e : Env} {s : State} {m : MethodId} {args : Array Value} {below : List Frame} {meth : Method} {c : Code} {A : Nat → Prop} {D : va_G} {ad : Nat → Nat} {cI cZ : ClassId} {N : Nat} {Q : Int32 → UU → Prop} (C : Cx p m c cX12_findMap 14 s args RX12 meth (some .boolean) A D [(cI, .int), (cZ, .boolean)] EM) : ∀ (n : Nat) (x1 : Int32) (x2 : Int32) (x3 : Int32) (x4 : Int32) (x5 : Int32) (x6 : Int32) (x11 : Int32) (u : UU), m_X12_findMap_301 N Q n x1 x2 x3 x4 x5 x6 x11 u → WW p l e rm_X12_findMap s m args below meth c 0 0 (MQ below (QI D A (wM ad cI cZ) Q) args s 0 0 A) A D 14 301 [(0, .ref (ad 0)), (1, .int x1), (2, .int x2), (3, .int x3), (4, .int x4), (5, .int x5), (6, .int x6), (11, .int x11)] [] (wM ad cI cZ u) := by
  intro n
  induction n with
  | zero => intro x1 x2 x3 x4 x5 x6 x11 u h; rw [m_X12_findMap_301] at h; exact h.elim
  | succ n ih =>
    intro x1 x2 x3 x4 x5 x6 x11 u h
    rw [m_X12_findMap_301] at h
    refine ww_iload C dX12_findMap_301 7 rfl ?_
    refine ww_iconst (v := 1) C dX12_findMap_303 (by decide) ?_
    refine ww_iadd C dX12_findMap_304 ?_
    refine ww_iload C dX12_findMap_305 7 rfl ?_
    refine ww_iconst (v := 1) C dX12_findMap_307 (by decide) ?_
    refine ww_iadd C dX12_findMap_308 ?_
    refine ww_imul C dX12_findMap_309 ?_
    refine ww_aload_n C dX12_findMap_310 rfl 0 rfl ?_
    refine ww_iload C dX12_findMap_311 6 rfl ?_
    refine ww_iload_n C dX12_findMap_313 rfl 1 rfl ?_
    refine ww_iload_n C dX12_findMap_314 rfl 2 rfl ?_
    refine ww_callVi (As := [.int x6, .int x1, .int x2]) (rest := [.int ((x11 + (1 : Int32)) * (x11 + (1 : Int32)))]) C EM_ok (c_X12_farOf h) tb_5_40 tb_5_42 tbs_27 tb_1_13 tb_5_43 rfl rfl ⟨rfl, hd_X12_farOf⟩ ⟨Nat.le_of_ble_eq_true rfl, Nat.le_of_ble_eq_true rfl⟩ rfl MF_0_0 rfl rfl (Nat.le_of_ble_eq_true rfl) dX12_findMap_315 ⟨Nat.zero_le _, Nat.zero_le _⟩ (fun r_2 u_1 h => ?_)
    refine ww_icmp_gt (tgt := 327) C dX12_findMap_318 (by decide) (fun hc => ?_) (fun hc => ?_)
    · have h := ite_t h hc
      refine ww_bipush (v := 100) C dX12_findMap_327 (by decide) ?_
      refine ww_iconst (v := 4) C dX12_findMap_329 (by decide) ?_
      refine ww_iload C dX12_findMap_330 7 rfl ?_
      refine ww_imul C dX12_findMap_332 ?_
      refine ww_isub C dX12_findMap_333 ?_
      refine ww_bipush (v := 10) C dX12_findMap_334 (by decide) ?_
      refine ww_iconst (v := 3) C dX12_findMap_336 (by decide) ?_
      refine ww_iload_n C dX12_findMap_337 rfl 3 rfl ?_
      refine ww_isub C dX12_findMap_338 ?_
      refine ww_imul C dX12_findMap_339 ?_
      refine ww_isub C dX12_findMap_340 ?_
      refine ww_iload C dX12_findMap_341 5 rfl ?_
      refine ww_iload C dX12_findMap_343 4 rfl ?_
      refine ww_isub C dX12_findMap_345 ?_
      refine ww_isub C dX12_findMap_346 ?_
      refine ww_nI (fun z_3 ez_3 => ?_)
      have h := h z_3 ez_3
      refine ww_istore (i := 12) (lv' := [(12, .int z_3), (0, .ref (ad 0)), (1, .int x1), (2, .int x2), (3, .int x3), (4, .int x4), (5, .int x5), (6, .int x6), (11, .int x11)]) C dX12_findMap_347 (by decide) rfl ?_
      refine ww_aload_n C dX12_findMap_349 rfl 1 rfl ?_
      refine ww_iload C dX12_findMap_350 0 rfl ?_
      refine ww_if_ge (tgt := 359) C dX12_findMap_352 (by decide) (fun hc => ?_) (fun hc => ?_)
      · have h := ite_t h hc
        refine ww_iload C dX12_findMap_359 0 rfl ?_
        refine ww_sub [] rfl ?_
        exact w_X12_findMap_361 C h
      · have h := ite_f h hc
        refine ww_iconst (v := 0) C dX12_findMap_355 (by decide) ?_
        refine ww_goto (tgt := 361) C dX12_findMap_356 (by decide) ?_
        refine ww_sub [] rfl ?_
        exact w_X12_findMap_361 C h
    · have h := ite_f h hc
      obtain ⟨z_4, ez_4⟩ : ∃ z_4 : Int32, z_4 = x11 + (1 : Int32) := ⟨_, rfl⟩
      have h := h z_4 ez_4
      refine ww_iinc (i := 11) (j := 7) (v := z_4) (lv' := [(11, .int z_4), (0, .ref (ad 0)), (1, .int x1), (2, .int x2), (3, .int x3), (4, .int x4), (5, .int x5), (6, .int x6)]) C dX12_findMap_321 rfl (by rw [ez_4]; rfl) (by decide) rfl ?_
      refine ww_goto (tgt := 301) C dX12_findMap_324 (by decide) ?_
      refine ww_sub [1, 2, 3, 4, 5, 6, 7, 0] rfl ?_
      exact ih _ _ _ _ _ _ _ _ h
set_option maxRecDepth 100000 in
theorem w_X12_findMap_295 {p : Program} {l : Launch} {e : Env} {s : State} {m : MethodId} {args : Array Value} {below : List Frame} {meth : Method} {c : Code} {A : Nat → Prop} {D : va_G} {ad : Nat → Nat} {cI cZ : ClassId} {N : Nat} {Q : Int32 → UU → Prop} (C : Cx p m c cX12_findMap 14 s args RX12 meth (some .boolean) A D [(cI, .int), (cZ, .boolean)] EM) : ∀ {x1 : Int32} {x2 : Int32} {x3 : Int32} {x4 : Int32} {x5 : Int32} {x6 : Int32} {y1 : Int32} {u : UU}, m_X12_findMap_295 N x1 x2 x3 x4 x5 x6 y1 u Q → WW p l e rm_X12_findMap s m args below meth c 0 0 (MQ below (QI D A (wM ad cI cZ) Q) args s 0 0 A) A D 14 295 [(0, .ref (ad 0)), (1, .int x1), (2, .int x2), (3, .int x3), (4, .int x4), (5, .int x5), (6, .int x6)] [.int y1, .ref (ad 0)] (wM ad cI cZ u) := by
  intro x1 x2 x3 x4 x5 x6 y1 u h
  unfold m_X12_findMap_295 at h
  refine ww_put C inX12 rfl tyX12 tyX12_ok nmX12 26 (by decide) tb_4_62 rfl rfl rfl MS_0_26 dX12_findMap_295 ?_
  refine ww_nU (wM ad cI cZ) (fun u_1 eu_1 => ?_)
  have h := h u_1 eu_1
  refine ww_iconst (v := 0) C dX12_findMap_298 (by decide) ?_
  refine ww_istore (i := 11) (lv' := [(11, .int (0 : Int32)), (0, .ref (ad 0)), (1, .int x1), (2, .int x2), (3, .int x3), (4, .int x4), (5, .int x5), (6, .int x6)]) C dX12_findMap_299 (by decide) rfl ?_
  refine ww_sub [1, 2, 3, 4, 5, 6, 7, 0] rfl ?_
  exact w_X12_findMap_301 C N _ _ _ _ _ _ _ _ h
set_option maxRecDepth 100000 in
theorem w_X12_findMap_56 {p : Program} {l : Launch} {e : Env} {s : State} {m : MethodId} {args : Array Value} {below : List Frame} {meth : Method} {c : Code} {A : Nat → Prop} {D : va_G} {ad : Nat → Nat} {cI cZ : ClassId} {N : Nat} {Q : Int32 → UU → Prop} (C : Cx p m c cX12_findMap 14 s args RX12 meth (some .boolean) A D [(cI, .int), (cZ, .boolean)] EM) : ∀ (n : Nat) (x1 : Int32) (x2 : Int32) (x3 : Int32) (x4 : Int32) (x5 : Int32) (x6 : Int32) (x7 : Int64) (x9 : Int64) (x11 : Int32) (u : UU), m_X12_findMap_56 N Q n x1 x2 x3 x4 x5 x6 x7 x9 x11 u → WW p l e rm_X12_findMap s m args below meth c 0 0 (MQ below (QI D A (wM ad cI cZ) Q) args s 0 0 A) A D 14 56 [(0, .ref (ad 0)), (1, .int x1), (2, .int x2), (3, .int x3), (4, .int x4), (5, .int x5), (6, .int x6), (7, .long x7), (9, .long x9), (11, .int x11)] [] (wM ad cI cZ u) := by
  intro n
  induction n with
  | zero => intro x1 x2 x3 x4 x5 x6 x7 x9 x11 u h; rw [m_X12_findMap_56] at h; exact h.elim
  | succ n ih =>
    intro x1 x2 x3 x4 x5 x6 x7 x9 x11 u h
    rw [m_X12_findMap_56] at h
    refine ww_iload C dX12_findMap_56 9 rfl ?_
    refine ww_iconst (v := 3) C dX12_findMap_58 (by decide) ?_
    refine ww_icmp_ge (tgt := 265) C dX12_findMap_59 (by decide) (fun hc => ?_) (fun hc => ?_)
    · have h := ite_t h hc
      refine ww_iload_n C dX12_findMap_265 rfl 3 rfl ?_
      refine ww_if_ne (tgt := 271) C dX12_findMap_266 (by decide) (fun hc => ?_) (fun hc => ?_)
      · have h := ite_f h hc
        refine ww_aload_n C dX12_findMap_271 rfl 0 rfl ?_
        refine ww_lload C dX12_findMap_272 7 rfl ?_
        refine ww_lconst (v := 0) C dX12_findMap_274 (by decide) ?_
        refine ww_lcmp C dX12_findMap_275 ?_
        refine ww_if_ne (tgt := 289) C dX12_findMap_276 (by decide) (fun hc => ?_) (fun hc => ?_)
        · have h := ite_f h hc
          refine ww_lload C dX12_findMap_289 8 rfl ?_
          refine ww_lload C dX12_findMap_291 7 rfl ?_
          obtain ⟨hz, h⟩ := h
          refine ww_ldiv C dX12_findMap_293 hz ?_
          refine ww_l2i C dX12_findMap_294 ?_
          refine ww_sub [0, 1, 2, 3, 4, 5, 6] rfl ?_
          exact w_X12_findMap_295 C h
        · have h := ite_t h hc
          refine ww_aload_n C dX12_findMap_279 rfl 0 rfl ?_
          refine ww_get C inX12 rfl 19 (by decide) tb_4_55 MF_0_19 dX12_findMap_280 ?_
          refine ww_iload C dX12_findMap_283 6 rfl ?_
          obtain ⟨hin, h⟩ := h
          refine ww_iald C 0 rfl MA_15 hin dX12_findMap_285 ?_
          refine ww_goto (tgt := 295) C dX12_findMap_286 (by decide) ?_
          refine ww_sub [0, 1, 2, 3, 4, 5, 6] rfl ?_
          exact w_X12_findMap_295 C h
      · have h := ite_t h hc
        refine ww_iconst (v := 0) C dX12_findMap_269 (by decide) ?_
        exact ww_zret C h.1 h.2 dX12_findMap_270
    · have h := ite_f h hc
      refine ww_iconst (v := (-1)) C dX12_findMap_62 (by decide) ?_
      refine ww_istore (i := 12) (lv' := [(12, .int ((-1) : Int32)), (0, .ref (ad 0)), (1, .int x1), (2, .int x2), (3, .int x3), (4, .int x4), (5, .int x5), (6, .int x6), (7, .long x7), (9, .long x9), (11, .int x11)]) C dX12_findMap_63 (by decide) rfl ?_
      refine ww_iconst (v := 0) C dX12_findMap_65 (by decide) ?_
      refine ww_istore (i := 13) (lv' := [(13, .int (0 : Int32)), (12, .int ((-1) : Int32)), (0, .ref (ad 0)), (1, .int x1), (2, .int x2), (3, .int x3), (4, .int x4), (5, .int x5), (6, .int x6), (7, .long x7), (9, .long x9), (11, .int x11)]) C dX12_findMap_66 (by decide) rfl ?_
      refine ww_sub [2, 3, 4, 5, 6, 7, 8, 9, 10, 11, 1, 0] rfl ?_
      exact w_X12_findMap_68 C ih N _ _ _ _ _ _ _ _ _ _ _ _ h
set_option maxRecDepth 100000 in
theorem w_X12_findMap_2 {p : Program} {l : Launch} {e : Env} {s : State} {m : MethodId} {args : Array Value} {below : List Frame} {meth : Method} {c : Code} {A : Nat → Prop} {D : va_G} {ad : Nat → Nat} {cI cZ : ClassId} {N : Nat} {Q : Int32 → UU → Prop} (C : Cx p m c cX12_findMap 14 s args RX12 meth (some .boolean) A D [(cI, .int), (cZ, .boolean)] EM) : ∀ (n : Nat) (x1 : Int32) (x2 : Int32) (x3 : Int32) (u : UU), m_X12_findMap_2 N Q n x1 x2 x3 u → WW p l e rm_X12_findMap s m args below meth c 0 0 (MQ below (QI D A (wM ad cI cZ) Q) args s 0 0 A) A D 14 2 [(0, .ref (ad 0)), (1, .int x1), (2, .int x2), (3, .int x3)] [] (wM ad cI cZ u) := by
  intro n
  induction n with
  | zero => intro x1 x2 x3 u h; rw [m_X12_findMap_2] at h; exact h.elim
  | succ n ih =>
    intro x1 x2 x3 u h
    rw [m_X12_findMap_2] at h
    refine ww_iload_n C dX12_findMap_2 rfl 3 rfl ?_
    refine ww_aload_n C dX12_findMap_3 rfl 0 rfl ?_
    refine ww_get C inX12 rfl 2 (by decide) tb_4_38 MF_0_2 dX12_findMap_4 ?_
    refine ww_icmp_ge (tgt := 36) C dX12_findMap_7 (by decide) (fun hc => ?_) (fun hc => ?_)
    · have h := ite_t h hc
      refine ww_iconst (v := 0) C dX12_findMap_36 (by decide) ?_
      refine ww_istore_n (i := 3) (lv' := [(3, .int (0 : Int32)), (0, .ref (ad 0)), (1, .int x1), (2, .int x2)]) C dX12_findMap_37 rfl (by decide) rfl ?_
      refine ww_iconst (v := 0) C dX12_findMap_38 (by decide) ?_
      refine ww_istore (i := 4) (lv' := [(4, .int (0 : Int32)), (3, .int (0 : Int32)), (0, .ref (ad 0)), (1, .int x1), (2, .int x2)]) C dX12_findMap_39 (by decide) rfl ?_
      refine ww_iconst (v := 0) C dX12_findMap_41 (by decide) ?_
      refine ww_istore (i := 5) (lv' := [(5, .int (0 : Int32)), (4, .int (0 : Int32)), (3, .int (0 : Int32)), (0, .ref (ad 0)), (1, .int x1), (2, .int x2)]) C dX12_findMap_42 (by decide) rfl ?_
      refine ww_iconst (v := (-1)) C dX12_findMap_44 (by decide) ?_
      refine ww_istore (i := 6) (lv' := [(6, .int ((-1) : Int32)), (5, .int (0 : Int32)), (4, .int (0 : Int32)), (3, .int (0 : Int32)), (0, .ref (ad 0)), (1, .int x1), (2, .int x2)]) C dX12_findMap_45 (by decide) rfl ?_
      refine ww_lconst (v := 0) C dX12_findMap_47 (by decide) ?_
      refine ww_lstore (i := 7) (lv' := [(7, .long (0 : Int64)), (6, .int ((-1) : Int32)), (5, .int (0 : Int32)), (4, .int (0 : Int32)), (3, .int (0 : Int32)), (0, .ref (ad 0)), (1, .int x1), (2, .int x2)]) C dX12_findMap_48 (by decide) rfl ?_
      refine ww_lconst (v := 0) C dX12_findMap_50 (by decide) ?_
      refine ww_lstore (i := 9) (lv' := [(9, .long (0 : Int64)), (7, .long (0 : Int64)), (6, .int ((-1) : Int32)), (5, .int (0 : Int32)), (4, .int (0 : Int32)), (3, .int (0 : Int32)), (0, .ref (ad 0)), (1, .int x1), (2, .int x2)]) C dX12_findMap_51 (by decide) rfl ?_
      refine ww_iconst (v := 0) C dX12_findMap_53 (by decide) ?_
      refine ww_istore (i := 11) (lv' := [(11, .int (0 : Int32)), (9, .long (0 : Int64)), (7, .long (0 : Int64)), (6, .int ((-1) : Int32)), (5, .int (0 : Int32)), (4, .int (0 : Int32)), (3, .int (0 : Int32)), (0, .ref (ad 0)), (1, .int x1), (2, .int x2)]) C dX12_findMap_54 (by decide) rfl ?_
      refine ww_sub [7, 8, 9, 6, 5, 4, 3, 2, 1, 0] rfl ?_
      exact w_X12_findMap_56 C N _ _ _ _ _ _ _ _ _ _ h
    · have h := ite_f h hc
      refine ww_aload_n C dX12_findMap_10 rfl 0 rfl ?_
      refine ww_get C inX12 rfl 25 (by decide) tb_4_61 MF_0_25 dX12_findMap_11 ?_
      refine ww_iload_n C dX12_findMap_14 rfl 3 rfl ?_
      refine ww_aload_n C dX12_findMap_15 rfl 0 rfl ?_
      refine ww_get C inX12 rfl 21 (by decide) tb_4_57 MF_0_21 dX12_findMap_16 ?_
      refine ww_iload_n C dX12_findMap_19 rfl 3 rfl ?_
      obtain ⟨hin, h⟩ := h
      refine ww_zald C 1 rfl MA_17 hin dX12_findMap_20 ?_
      refine ww_if_ne (tgt := 28) C dX12_findMap_21 (by decide) (fun hc => ?_) (fun hc => ?_)
      · have h := ite_f h hc
        refine ww_iconst (v := 0) C dX12_findMap_28 (by decide) ?_
        exact w_X12_findMap_29 C ih h
      · have h := ite_t h hc
        refine ww_iconst (v := 1) C dX12_findMap_24 (by decide) ?_
        refine ww_goto (tgt := 29) C dX12_findMap_25 (by decide) ?_
        exact w_X12_findMap_29 C ih h
set_option maxRecDepth 100000 in
theorem w_X12_findMap {p : Program} {l : Launch} {e : Env} {s : State} {m : MethodId} {args : Array Value} {below : List Frame} {meth : Method} {c : Code} {A : Nat → Prop} {D : va_G} {ad : Nat → Nat} {cI cZ : ClassId} {N : Nat} {Q : Int32 → UU → Prop} (C : Cx p m c cX12_findMap 14 s args RX12 meth (some .boolean) A D [(cI, .int), (cZ, .boolean)] EM) : ∀ {x1 : Int32} {x2 : Int32} {u : UU}, m_X12_findMap N x1 x2 u Q → WW p l e rm_X12_findMap s m args below meth c 0 0 (MQ below (QI D A (wM ad cI cZ) Q) args s 0 0 A) A D 14 0 [(0, .ref (ad 0)), (1, .int x1), (2, .int x2)] [] (wM ad cI cZ u) := by
  intro x1 x2 u h
  unfold m_X12_findMap at h
  refine ww_iconst (v := 0) C dX12_findMap_0 (by decide) ?_
  refine ww_istore_n (i := 3) (lv' := [(3, .int (0 : Int32)), (0, .ref (ad 0)), (1, .int x1), (2, .int x2)]) C dX12_findMap_1 rfl (by decide) rfl ?_
  refine ww_sub [1, 2, 3, 0] rfl ?_
  exact w_X12_findMap_2 C N _ _ _ _ h
theorem c_X12_findMap {l : Launch} {D : va_G} {ad : Nat → Nat} {cI cZ : ClassId} {N : Nat} {x1 : Int32} {x2 : Int32} {u : UU} {Q : Int32 → UU → Prop} (h : m_X12_findMap N x1 x2 u Q) : MI l D [(cI, .int), (cZ, .boolean)] EM yX12_findMap (Cond.code yX12_findMap cX12_findMap 14 (some .boolean)) rm_X12_findMap [.ref (ad 0), .int x1, .int x2] (wM ad cI cZ u) (wM ad cI cZ) Q :=
  MI_of (own := RX12) (by decide) rfl (Nat.le_of_ble_eq_true rfl) rfl (fun p e s m args below meth c A C => w_X12_findMap C h)
theorem hd_X12_findMap : yX12_findMap.cls ≠ "java/lang/invoke/MethodHandle" ∧ yX12_findMap.cls ≠ "java/lang/invoke/VarHandle" ∧ (parseMethodDescriptor yX12_findMap.desc).map (fun d => d.parameters.length) = some 2 := by decide +kernel
abbrev rm_X12_map : Room := { frames := 2, cells := 0, slots := 0, locals := 56 }
set_option maxRecDepth 100000 in
theorem w_X12_map {p : Program} {l : Launch} {e : Env} {s : State} {m : MethodId} {args : Array Value} {below : List Frame} {meth : Method} {c : Code} {A : Nat → Prop} {D : va_G} {ad : Nat → Nat} {cI cZ : ClassId} {N : Nat} {Q : Int32 → UU → Prop} (C : Cx p m c cX12_map 5 s args RX12 meth (some .int) A D [(cI, .int), (cZ, .boolean)] EM) : ∀ {x1 : Int32} {x2 : Int32} {x3 : Int32} {x4 : Int32} {u : UU}, m_X12_map N x1 x2 x3 x4 u Q → WW p l e rm_X12_map s m args below meth c 0 0 (MQ below (QI D A (wM ad cI cZ) Q) args s 0 0 A) A D 5 0 [(0, .ref (ad 0)), (1, .int x1), (2, .int x2), (3, .int x3), (4, .int x4)] [] (wM ad cI cZ u) := by
  intro x1 x2 x3 x4 u h
  unfold m_X12_map at h
  refine ww_aload_n C dX12_map_0 rfl 0 rfl ?_
  refine ww_iconst (v := 0) C dX12_map_1 (by decide) ?_
  refine ww_put C inX12 rfl tyX12 tyX12_ok nmX12 0 (by decide) tb_4_36 rfl rfl rfl MS_0_0 dX12_map_2 ?_
  refine ww_nU (wM ad cI cZ) (fun u_1 eu_1 => ?_)
  have h := h u_1 eu_1
  refine ww_iload_n C dX12_map_5 rfl 1 rfl ?_
  refine ww_callSi (As := [.int x1]) (rest := []) C EM_ok (c_X12_isPlace h) tb_4_188 tb_4_189 tb_1_13 tb_4_190 rfl rfl hd_X12_isPlace ⟨Nat.le_of_ble_eq_true rfl, Nat.le_of_ble_eq_true rfl⟩ rfl rfl (Nat.le_of_ble_eq_true rfl) dX12_map_6 ⟨Nat.zero_le _, Nat.zero_le _⟩ (fun r_3 u_2 h => ?_)
  refine ww_if_eq (tgt := 37) C dX12_map_9 (by decide) (fun hc => ?_) (fun hc => ?_)
  · have h := ite_t h hc
    refine ww_iconst (v := (-1)) C dX12_map_37 (by decide) ?_
    exact ww_iret C h dX12_map_38
  · have h := ite_f h hc
    refine ww_iload_n C dX12_map_12 rfl 2 rfl ?_
    refine ww_callSi (As := [.int x2]) (rest := []) C EM_ok (c_X12_isPlace h) tb_4_188 tb_4_189 tb_1_13 tb_4_190 rfl rfl hd_X12_isPlace ⟨Nat.le_of_ble_eq_true rfl, Nat.le_of_ble_eq_true rfl⟩ rfl rfl (Nat.le_of_ble_eq_true rfl) dX12_map_13 ⟨Nat.zero_le _, Nat.zero_le _⟩ (fun r_5 u_4 h => ?_)
    refine ww_if_eq (tgt := 37) C dX12_map_16 (by decide) (fun hc => ?_) (fun hc => ?_)
    · have h := ite_t h hc
      refine ww_iconst (v := (-1)) C dX12_map_37 (by decide) ?_
      exact ww_iret C h dX12_map_38
    · have h := ite_f h hc
      refine ww_iload_n C dX12_map_19 rfl 3 rfl ?_
      refine ww_callSi (As := [.int x3]) (rest := []) C EM_ok (c_X12_isKnown h) tb_4_206 tb_4_207 tb_1_13 tb_4_208 rfl rfl hd_X12_isKnown ⟨Nat.le_of_ble_eq_true rfl, Nat.le_of_ble_eq_true rfl⟩ rfl rfl (Nat.le_of_ble_eq_true rfl) dX12_map_20 ⟨Nat.zero_le _, Nat.zero_le _⟩ (fun r_7 u_6 h => ?_)
      refine ww_if_eq (tgt := 37) C dX12_map_23 (by decide) (fun hc => ?_) (fun hc => ?_)
      · have h := ite_t h hc
        refine ww_iconst (v := (-1)) C dX12_map_37 (by decide) ?_
        exact ww_iret C h dX12_map_38
      · have h := ite_f h hc
        refine ww_iload C dX12_map_26 4 rfl ?_
        refine ww_i2l C dX12_map_28 ?_
        refine ww_lconst (v := 0) C dX12_map_29 (by decide) ?_
        refine ww_lconst (v := 1) C dX12_map_30 (by decide) ?_
        refine ww_callSi (As := [.long x4.toInt64, .long (0 : Int64), .long (1 : Int64)]) (rest := []) C EM_ok (c_X12_in h) tb_4_192 tb_4_193 tb_1_13 tb_4_194 rfl rfl hd_X12_in ⟨Nat.le_of_ble_eq_true rfl, Nat.le_of_ble_eq_true rfl⟩ rfl rfl (Nat.le_of_ble_eq_true rfl) dX12_map_31 ⟨Nat.zero_le _, Nat.zero_le _⟩ (fun r_9 u_8 h => ?_)
        refine ww_if_ne (tgt := 39) C dX12_map_34 (by decide) (fun hc => ?_) (fun hc => ?_)
        · have h := ite_f h hc
          refine ww_aload_n C dX12_map_39 rfl 0 rfl ?_
          refine ww_iload_n C dX12_map_40 rfl 3 rfl ?_
          refine ww_callVv (As := [.int x3]) (rest := []) C EM_ok (c_X12_find h) tb_4_227 tb_4_229 tbs_20 tb_1_13 tb_4_230 rfl rfl ⟨rfl, hd_X12_find⟩ ⟨Nat.le_of_ble_eq_true rfl, Nat.le_of_ble_eq_true rfl⟩ rfl MF_0_0 rfl rfl (Nat.le_of_ble_eq_true rfl) dX12_map_41 ⟨Nat.zero_le _, Nat.zero_le _⟩ (fun u_10 h => ?_)
          refine ww_aload_n C dX12_map_44 rfl 0 rfl ?_
          refine ww_iload_n C dX12_map_45 rfl 1 rfl ?_
          refine ww_iload_n C dX12_map_46 rfl 2 rfl ?_
          refine ww_callVi (As := [.int x1, .int x2]) (rest := []) C EM_ok (c_X12_findMap h) tb_5_36 tb_5_38 tbs_26 tb_1_13 tb_5_39 rfl rfl ⟨rfl, hd_X12_findMap⟩ ⟨Nat.le_of_ble_eq_true rfl, Nat.le_of_ble_eq_true rfl⟩ rfl MF_0_0 rfl rfl (Nat.le_of_ble_eq_true rfl) dX12_map_47 ⟨Nat.zero_le _, Nat.zero_le _⟩ (fun r_13 u_12 h => ?_)
          refine ww_if_ne (tgt := 57) C dX12_map_50 (by decide) (fun hc => ?_) (fun hc => ?_)
          · have h := ite_f h hc
            refine ww_iload C dX12_map_57 4 rfl ?_
            refine ww_if_ne (tgt := 69) C dX12_map_59 (by decide) (fun hc => ?_) (fun hc => ?_)
            · have h := ite_f h hc
              refine ww_aload_n C dX12_map_69 rfl 0 rfl ?_
              refine ww_get C inX12 rfl 27 (by decide) tb_4_63 MF_0_27 dX12_map_70 ?_
              exact ww_iret C h dX12_map_73
            · have h := ite_t h hc
              refine ww_aload_n C dX12_map_62 rfl 0 rfl ?_
              refine ww_get C inX12 rfl 26 (by decide) tb_4_62 MF_0_26 dX12_map_63 ?_
              refine ww_goto (tgt := 73) C dX12_map_66 (by decide) ?_
              exact ww_iret C h dX12_map_73
          · have h := ite_t h hc
            refine ww_iconst (v := (-1)) C dX12_map_53 (by decide) ?_
            refine ww_goto (tgt := 73) C dX12_map_54 (by decide) ?_
            exact ww_iret C h dX12_map_73
        · have h := ite_t h hc
          refine ww_iconst (v := (-1)) C dX12_map_37 (by decide) ?_
          exact ww_iret C h dX12_map_38
theorem c_X12_map {l : Launch} {D : va_G} {ad : Nat → Nat} {cI cZ : ClassId} {N : Nat} {x1 : Int32} {x2 : Int32} {x3 : Int32} {x4 : Int32} {u : UU} {Q : Int32 → UU → Prop} (h : m_X12_map N x1 x2 x3 x4 u Q) : MI l D [(cI, .int), (cZ, .boolean)] EM yX12_map (Cond.code yX12_map cX12_map 5 (some .int)) rm_X12_map [.ref (ad 0), .int x1, .int x2, .int x3, .int x4] (wM ad cI cZ u) (wM ad cI cZ) Q :=
  MI_of (own := RX12) (by decide) rfl (Nat.le_of_ble_eq_true rfl) rfl (fun p e s m args below meth c A C => w_X12_map C h)
theorem hd_X12_map : yX12_map.cls ≠ "java/lang/invoke/MethodHandle" ∧ yX12_map.cls ≠ "java/lang/invoke/VarHandle" ∧ (parseMethodDescriptor yX12_map.desc).map (fun d => d.parameters.length) = some 4 := by decide +kernel
abbrev rm_X12_radar : Room := { frames := 1, cells := 0, slots := 0, locals := 25 }
set_option maxRecDepth 100000 in
theorem w_X12_radar_43 {p : Program} {l : Launch} {e : Env} {s : State} {m : MethodId} {args : Array Value} {below : List Frame} {meth : Method} {c : Code} {A : Nat → Prop} {D : va_G} {ad : Nat → Nat} {cI cZ : ClassId} {N : Nat} {Q : Int32 → UU → Prop} (C : Cx p m c cX12_radar 4 s args RX12 meth (some .int) A D [(cI, .int), (cZ, .boolean)] EM) : ∀ {u : UU}, m_X12_radar_43 N  u Q → WW p l e rm_X12_radar s m args below meth c 0 0 (MQ below (QI D A (wM ad cI cZ) Q) args s 0 0 A) A D 4 43 [(0, .ref (ad 0))] [] (wM ad cI cZ u) := by
  intro  u h
  unfold m_X12_radar_43 at h
  refine ww_aload_n C dX12_radar_43 rfl 0 rfl ?_
  refine ww_iconst (v := (-1)) C dX12_radar_44 (by decide) ?_
  refine ww_callVi (As := [.int ((-1) : Int32)]) (rest := []) C EM_ok (c_X12_told h) tb_4_195 tb_4_197 tbs_18 tb_1_13 tb_4_198 rfl rfl ⟨rfl, hd_X12_told⟩ ⟨Nat.le_of_ble_eq_true rfl, Nat.le_of_ble_eq_true rfl⟩ rfl MF_0_0 rfl rfl (Nat.le_of_ble_eq_true rfl) dX12_radar_45 ⟨Nat.zero_le _, Nat.zero_le _⟩ (fun r_2 u_1 h => ?_)
  exact ww_iret C h dX12_radar_48
set_option maxRecDepth 100000 in
theorem w_X12_radar {p : Program} {l : Launch} {e : Env} {s : State} {m : MethodId} {args : Array Value} {below : List Frame} {meth : Method} {c : Code} {A : Nat → Prop} {D : va_G} {ad : Nat → Nat} {cI cZ : ClassId} {N : Nat} {Q : Int32 → UU → Prop} (C : Cx p m c cX12_radar 4 s args RX12 meth (some .int) A D [(cI, .int), (cZ, .boolean)] EM) : ∀ {x1 : Int32} {x2 : Int32} {x3 : Int32} {u : UU}, m_X12_radar N x1 x2 x3 u Q → WW p l e rm_X12_radar s m args below meth c 0 0 (MQ below (QI D A (wM ad cI cZ) Q) args s 0 0 A) A D 4 0 [(0, .ref (ad 0)), (1, .int x1), (2, .int x2), (3, .int x3)] [] (wM ad cI cZ u) := by
  intro x1 x2 x3 u h
  unfold m_X12_radar at h
  refine ww_aload_n C dX12_radar_0 rfl 0 rfl ?_
  refine ww_iconst (v := 0) C dX12_radar_1 (by decide) ?_
  refine ww_put C inX12 rfl tyX12 tyX12_ok nmX12 0 (by decide) tb_4_36 rfl rfl rfl MS_0_0 dX12_radar_2 ?_
  refine ww_nU (wM ad cI cZ) (fun u_1 eu_1 => ?_)
  have h := h u_1 eu_1
  refine ww_iload_n C dX12_radar_5 rfl 1 rfl ?_
  refine ww_i2l C dX12_radar_6 ?_
  refine ww_lconst (v := 0) C dX12_radar_7 (by decide) ?_
  refine ww_ldc2 C tb_4_204 dX12_radar_8 ?_
  refine ww_callSi (As := [.long x1.toInt64, .long (0 : Int64), .long (7 : Int64)]) (rest := []) C EM_ok (c_X12_in h) tb_4_192 tb_4_193 tb_1_13 tb_4_194 rfl rfl hd_X12_in ⟨Nat.le_of_ble_eq_true rfl, Nat.le_of_ble_eq_true rfl⟩ rfl rfl (Nat.le_of_ble_eq_true rfl) dX12_radar_11 ⟨Nat.zero_le _, Nat.zero_le _⟩ (fun r_3 u_2 h => ?_)
  refine ww_if_eq (tgt := 43) C dX12_radar_14 (by decide) (fun hc => ?_) (fun hc => ?_)
  · have h := ite_t h hc
    refine ww_sub [0] rfl ?_
    exact w_X12_radar_43 C h
  · have h := ite_f h hc
    refine ww_iload_n C dX12_radar_17 rfl 2 rfl ?_
    refine ww_i2l C dX12_radar_18 ?_
    refine ww_lconst (v := 0) C dX12_radar_19 (by decide) ?_
    refine ww_ldc2 C tb_4_204 dX12_radar_20 ?_
    refine ww_callSi (As := [.long x2.toInt64, .long (0 : Int64), .long (7 : Int64)]) (rest := []) C EM_ok (c_X12_in h) tb_4_192 tb_4_193 tb_1_13 tb_4_194 rfl rfl hd_X12_in ⟨Nat.le_of_ble_eq_true rfl, Nat.le_of_ble_eq_true rfl⟩ rfl rfl (Nat.le_of_ble_eq_true rfl) dX12_radar_23 ⟨Nat.zero_le _, Nat.zero_le _⟩ (fun r_5 u_4 h => ?_)
    refine ww_if_eq (tgt := 43) C dX12_radar_26 (by decide) (fun hc => ?_) (fun hc => ?_)
    · have h := ite_t h hc
      refine ww_sub [0] rfl ?_
      exact w_X12_radar_43 C h
    · have h := ite_f h hc
      refine ww_iload_n C dX12_radar_29 rfl 3 rfl ?_
      refine ww_i2l C dX12_radar_30 ?_
      refine ww_ldc2 C tb_5_48 dX12_radar_31 ?_
      refine ww_ldc2 C tb_4_222 dX12_radar_34 ?_
      refine ww_callSi (As := [.long x3.toInt64, .long ((-1) : Int64), .long (100 : Int64)]) (rest := []) C EM_ok (c_X12_in h) tb_4_192 tb_4_193 tb_1_13 tb_4_194 rfl rfl hd_X12_in ⟨Nat.le_of_ble_eq_true rfl, Nat.le_of_ble_eq_true rfl⟩ rfl rfl (Nat.le_of_ble_eq_true rfl) dX12_radar_37 ⟨Nat.zero_le _, Nat.zero_le _⟩ (fun r_7 u_6 h => ?_)
      refine ww_if_ne (tgt := 49) C dX12_radar_40 (by decide) (fun hc => ?_) (fun hc => ?_)
      · have h := ite_f h hc
        refine ww_aload_n C dX12_radar_49 rfl 0 rfl ?_
        refine ww_get C inX12 rfl 28 (by decide) tb_4_64 MF_0_28 dX12_radar_50 ?_
        refine ww_bipush (v := 8) C dX12_radar_53 (by decide) ?_
        refine ww_iload_n C dX12_radar_55 rfl 2 rfl ?_
        refine ww_imul C dX12_radar_56 ?_
        refine ww_iload_n C dX12_radar_57 rfl 1 rfl ?_
        refine ww_iadd C dX12_radar_58 ?_
        refine ww_iload_n C dX12_radar_59 rfl 3 rfl ?_
        obtain ⟨hin, h⟩ := h
        refine ww_iast C 0 rfl MU_19 hin dX12_radar_60 ?_
        refine ww_nU (wM ad cI cZ) (fun u_8 eu_8 => ?_)
        have h := h u_8 eu_8
        refine ww_aload_n C dX12_radar_61 rfl 0 rfl ?_
        refine ww_iconst (v := 0) C dX12_radar_62 (by decide) ?_
        refine ww_callVi (As := [.int (0 : Int32)]) (rest := []) C EM_ok (c_X12_told h) tb_4_195 tb_4_197 tbs_18 tb_1_13 tb_4_198 rfl rfl ⟨rfl, hd_X12_told⟩ ⟨Nat.le_of_ble_eq_true rfl, Nat.le_of_ble_eq_true rfl⟩ rfl MF_0_0 rfl rfl (Nat.le_of_ble_eq_true rfl) dX12_radar_63 ⟨Nat.zero_le _, Nat.zero_le _⟩ (fun r_10 u_9 h => ?_)
        exact ww_iret C h dX12_radar_66
      · have h := ite_t h hc
        refine ww_sub [0] rfl ?_
        exact w_X12_radar_43 C h
theorem c_X12_radar {l : Launch} {D : va_G} {ad : Nat → Nat} {cI cZ : ClassId} {N : Nat} {x1 : Int32} {x2 : Int32} {x3 : Int32} {u : UU} {Q : Int32 → UU → Prop} (h : m_X12_radar N x1 x2 x3 u Q) : MI l D [(cI, .int), (cZ, .boolean)] EM yX12_radar (Cond.code yX12_radar cX12_radar 4 (some .int)) rm_X12_radar [.ref (ad 0), .int x1, .int x2, .int x3] (wM ad cI cZ u) (wM ad cI cZ) Q :=
  MI_of (own := RX12) (by decide) rfl (Nat.le_of_ble_eq_true rfl) rfl (fun p e s m args below meth c A C => w_X12_radar C h)
theorem hd_X12_radar : yX12_radar.cls ≠ "java/lang/invoke/MethodHandle" ∧ yX12_radar.cls ≠ "java/lang/invoke/VarHandle" ∧ (parseMethodDescriptor yX12_radar.desc).map (fun d => d.parameters.length) = some 3 := by decide +kernel
abbrev rm_X12_radarAt : Room := { frames := 0, cells := 0, slots := 0, locals := 0 }
set_option maxRecDepth 100000 in
theorem w_X12_radarAt {p : Program} {l : Launch} {e : Env} {s : State} {m : MethodId} {args : Array Value} {below : List Frame} {meth : Method} {c : Code} {A : Nat → Prop} {D : va_G} {ad : Nat → Nat} {cI cZ : ClassId} {N : Nat} {Q : Int32 → UU → Prop} (C : Cx p m c cX12_radarAt 3 s args RX12 meth (some .int) A D [(cI, .int), (cZ, .boolean)] EM) : ∀ {x1 : Int32} {x2 : Int32} {u : UU}, m_X12_radarAt N x1 x2 u Q → WW p l e rm_X12_radarAt s m args below meth c 0 0 (MQ below (QI D A (wM ad cI cZ) Q) args s 0 0 A) A D 3 0 [(0, .ref (ad 0)), (1, .int x1), (2, .int x2)] [] (wM ad cI cZ u) := by
  intro x1 x2 u h
  unfold m_X12_radarAt at h
  refine ww_aload_n C dX12_radarAt_0 rfl 0 rfl ?_
  refine ww_get C inX12 rfl 28 (by decide) tb_4_64 MF_0_28 dX12_radarAt_1 ?_
  refine ww_bipush (v := 8) C dX12_radarAt_4 (by decide) ?_
  refine ww_iload_n C dX12_radarAt_6 rfl 2 rfl ?_
  refine ww_bipush (v := 8) C dX12_radarAt_7 (by decide) ?_
  obtain ⟨hz, h⟩ := h
  refine ww_idiv C dX12_radarAt_9 hz ?_
  refine ww_imul C dX12_radarAt_10 ?_
  refine ww_iload_n C dX12_radarAt_11 rfl 1 rfl ?_
  refine ww_bipush (v := 8) C dX12_radarAt_12 (by decide) ?_
  obtain ⟨hz, h⟩ := h
  refine ww_idiv C dX12_radarAt_14 hz ?_
  refine ww_iadd C dX12_radarAt_15 ?_
  obtain ⟨hin, h⟩ := h
  refine ww_iald C 0 rfl MA_19 hin dX12_radarAt_16 ?_
  exact ww_iret C h dX12_radarAt_17
theorem c_X12_radarAt {l : Launch} {D : va_G} {ad : Nat → Nat} {cI cZ : ClassId} {N : Nat} {x1 : Int32} {x2 : Int32} {u : UU} {Q : Int32 → UU → Prop} (h : m_X12_radarAt N x1 x2 u Q) : MI l D [(cI, .int), (cZ, .boolean)] EM yX12_radarAt (Cond.code yX12_radarAt cX12_radarAt 3 (some .int)) rm_X12_radarAt [.ref (ad 0), .int x1, .int x2] (wM ad cI cZ u) (wM ad cI cZ) Q :=
  MI_of (own := RX12) (by decide) rfl (Nat.le_of_ble_eq_true rfl) rfl (fun p e s m args below meth c A C => w_X12_radarAt C h)
theorem hd_X12_radarAt : yX12_radarAt.cls ≠ "java/lang/invoke/MethodHandle" ∧ yX12_radarAt.cls ≠ "java/lang/invoke/VarHandle" ∧ (parseMethodDescriptor yX12_radarAt.desc).map (fun d => d.parameters.length) = some 2 := by decide +kernel
abbrev rm_X12_off : Room := { frames := 2, cells := 0, slots := 0, locals := 56 }
set_option maxRecDepth 100000 in
theorem w_X12_off {p : Program} {l : Launch} {e : Env} {s : State} {m : MethodId} {args : Array Value} {below : List Frame} {meth : Method} {c : Code} {A : Nat → Prop} {D : va_G} {ad : Nat → Nat} {cI cZ : ClassId} {N : Nat} {Q : Int32 → UU → Prop} (C : Cx p m c cX12_off 4 s args RX12 meth (some .int) A D [(cI, .int), (cZ, .boolean)] EM) : ∀ {x1 : Int32} {x2 : Int32} {x3 : Int32} {u : UU}, m_X12_off N x1 x2 x3 u Q → WW p l e rm_X12_off s m args below meth c 0 0 (MQ below (QI D A (wM ad cI cZ) Q) args s 0 0 A) A D 4 0 [(0, .ref (ad 0)), (1, .int x1), (2, .int x2), (3, .int x3)] [] (wM ad cI cZ u) := by
  intro x1 x2 x3 u h
  unfold m_X12_off at h
  refine ww_aload_n C dX12_off_0 rfl 0 rfl ?_
  refine ww_iconst (v := 0) C dX12_off_1 (by decide) ?_
  refine ww_put C inX12 rfl tyX12 tyX12_ok nmX12 0 (by decide) tb_4_36 rfl rfl rfl MS_0_0 dX12_off_2 ?_
  refine ww_nU (wM ad cI cZ) (fun u_1 eu_1 => ?_)
  have h := h u_1 eu_1
  refine ww_iload_n C dX12_off_5 rfl 1 rfl ?_
  refine ww_callSi (As := [.int x1]) (rest := []) C EM_ok (c_X12_isPlace h) tb_4_188 tb_4_189 tb_1_13 tb_4_190 rfl rfl hd_X12_isPlace ⟨Nat.le_of_ble_eq_true rfl, Nat.le_of_ble_eq_true rfl⟩ rfl rfl (Nat.le_of_ble_eq_true rfl) dX12_off_6 ⟨Nat.zero_le _, Nat.zero_le _⟩ (fun r_3 u_2 h => ?_)
  refine ww_if_eq (tgt := 36) C dX12_off_9 (by decide) (fun hc => ?_) (fun hc => ?_)
  · have h := ite_t h hc
    refine ww_sipush (v := (-1000)) C dX12_off_36 (by decide) ?_
    exact ww_iret C h dX12_off_39
  · have h := ite_f h hc
    refine ww_iload_n C dX12_off_12 rfl 2 rfl ?_
    refine ww_callSi (As := [.int x2]) (rest := []) C EM_ok (c_X12_isPlace h) tb_4_188 tb_4_189 tb_1_13 tb_4_190 rfl rfl hd_X12_isPlace ⟨Nat.le_of_ble_eq_true rfl, Nat.le_of_ble_eq_true rfl⟩ rfl rfl (Nat.le_of_ble_eq_true rfl) dX12_off_13 ⟨Nat.zero_le _, Nat.zero_le _⟩ (fun r_5 u_4 h => ?_)
    refine ww_if_eq (tgt := 36) C dX12_off_16 (by decide) (fun hc => ?_) (fun hc => ?_)
    · have h := ite_t h hc
      refine ww_sipush (v := (-1000)) C dX12_off_36 (by decide) ?_
      exact ww_iret C h dX12_off_39
    · have h := ite_f h hc
      refine ww_iload_n C dX12_off_19 rfl 3 rfl ?_
      refine ww_callSi (As := [.int x3]) (rest := []) C EM_ok (c_X12_isKnown h) tb_4_206 tb_4_207 tb_1_13 tb_4_208 rfl rfl hd_X12_isKnown ⟨Nat.le_of_ble_eq_true rfl, Nat.le_of_ble_eq_true rfl⟩ rfl rfl (Nat.le_of_ble_eq_true rfl) dX12_off_20 ⟨Nat.zero_le _, Nat.zero_le _⟩ (fun r_7 u_6 h => ?_)
      refine ww_if_eq (tgt := 36) C dX12_off_23 (by decide) (fun hc => ?_) (fun hc => ?_)
      · have h := ite_t h hc
        refine ww_sipush (v := (-1000)) C dX12_off_36 (by decide) ?_
        exact ww_iret C h dX12_off_39
      · have h := ite_f h hc
        refine ww_aload_n C dX12_off_26 rfl 0 rfl ?_
        refine ww_iload_n C dX12_off_27 rfl 1 rfl ?_
        refine ww_iload_n C dX12_off_28 rfl 2 rfl ?_
        refine ww_callVi (As := [.int x1, .int x2]) (rest := []) C EM_ok (c_X12_radarAt h) tb_5_53 tb_5_55 tbs_28 tb_1_13 tb_5_56 rfl rfl ⟨rfl, hd_X12_radarAt⟩ ⟨Nat.le_of_ble_eq_true rfl, Nat.le_of_ble_eq_true rfl⟩ rfl MF_0_0 rfl rfl (Nat.le_of_ble_eq_true rfl) dX12_off_29 ⟨Nat.zero_le _, Nat.zero_le _⟩ (fun r_9 u_8 h => ?_)
        refine ww_iconst (v := (-1)) C dX12_off_32 (by decide) ?_
        refine ww_icmp_ne (tgt := 40) C dX12_off_33 (by decide) (fun hc => ?_) (fun hc => ?_)
        · have h := ite_f h hc
          refine ww_aload_n C dX12_off_40 rfl 0 rfl ?_
          refine ww_iload_n C dX12_off_41 rfl 3 rfl ?_
          refine ww_callVv (As := [.int x3]) (rest := []) C EM_ok (c_X12_find h) tb_4_227 tb_4_229 tbs_20 tb_1_13 tb_4_230 rfl rfl ⟨rfl, hd_X12_find⟩ ⟨Nat.le_of_ble_eq_true rfl, Nat.le_of_ble_eq_true rfl⟩ rfl MF_0_0 rfl rfl (Nat.le_of_ble_eq_true rfl) dX12_off_42 ⟨Nat.zero_le _, Nat.zero_le _⟩ (fun u_10 h => ?_)
          refine ww_aload_n C dX12_off_45 rfl 0 rfl ?_
          refine ww_iload_n C dX12_off_46 rfl 1 rfl ?_
          refine ww_iload_n C dX12_off_47 rfl 2 rfl ?_
          refine ww_callVi (As := [.int x1, .int x2]) (rest := []) C EM_ok (c_X12_findMap h) tb_5_36 tb_5_38 tbs_26 tb_1_13 tb_5_39 rfl rfl ⟨rfl, hd_X12_findMap⟩ ⟨Nat.le_of_ble_eq_true rfl, Nat.le_of_ble_eq_true rfl⟩ rfl MF_0_0 rfl rfl (Nat.le_of_ble_eq_true rfl) dX12_off_48 ⟨Nat.zero_le _, Nat.zero_le _⟩ (fun r_13 u_12 h => ?_)
          refine ww_if_eq (tgt := 68) C dX12_off_51 (by decide) (fun hc => ?_) (fun hc => ?_)
          · have h := ite_t h hc
            refine ww_sipush (v := (-1000)) C dX12_off_68 (by decide) ?_
            exact ww_iret C h dX12_off_71
          · have h := ite_f h hc
            refine ww_aload_n C dX12_off_54 rfl 0 rfl ?_
            refine ww_iload_n C dX12_off_55 rfl 1 rfl ?_
            refine ww_iload_n C dX12_off_56 rfl 2 rfl ?_
            refine ww_callVi (As := [.int x1, .int x2]) (rest := []) C EM_ok (c_X12_radarAt h) tb_5_53 tb_5_55 tbs_28 tb_1_13 tb_5_56 rfl rfl ⟨rfl, hd_X12_radarAt⟩ ⟨Nat.le_of_ble_eq_true rfl, Nat.le_of_ble_eq_true rfl⟩ rfl MF_0_0 rfl rfl (Nat.le_of_ble_eq_true rfl) dX12_off_57 ⟨Nat.zero_le _, Nat.zero_le _⟩ (fun r_15 u_14 h => ?_)
            refine ww_aload_n C dX12_off_60 rfl 0 rfl ?_
            refine ww_get C inX12 rfl 26 (by decide) tb_4_62 MF_0_26 dX12_off_61 ?_
            refine ww_isub C dX12_off_64 ?_
            refine ww_goto (tgt := 71) C dX12_off_65 (by decide) ?_
            exact ww_iret C h dX12_off_71
        · have h := ite_t h hc
          refine ww_sipush (v := (-1000)) C dX12_off_36 (by decide) ?_
          exact ww_iret C h dX12_off_39
theorem c_X12_off {l : Launch} {D : va_G} {ad : Nat → Nat} {cI cZ : ClassId} {N : Nat} {x1 : Int32} {x2 : Int32} {x3 : Int32} {u : UU} {Q : Int32 → UU → Prop} (h : m_X12_off N x1 x2 x3 u Q) : MI l D [(cI, .int), (cZ, .boolean)] EM yX12_off (Cond.code yX12_off cX12_off 4 (some .int)) rm_X12_off [.ref (ad 0), .int x1, .int x2, .int x3] (wM ad cI cZ u) (wM ad cI cZ) Q :=
  MI_of (own := RX12) (by decide) rfl (Nat.le_of_ble_eq_true rfl) rfl (fun p e s m args below meth c A C => w_X12_off C h)
theorem hd_X12_off : yX12_off.cls ≠ "java/lang/invoke/MethodHandle" ∧ yX12_off.cls ≠ "java/lang/invoke/VarHandle" ∧ (parseMethodDescriptor yX12_off.desc).map (fun d => d.parameters.length) = some 3 := by decide +kernel
abbrev rm_X12_four : Room := { frames := 0, cells := 0, slots := 0, locals := 0 }
set_option maxRecDepth 100000 in
theorem w_X12_four_3 {p : Program} {l : Launch} {e : Env} {s : State} {m : MethodId} {args : Array Value} {below : List Frame} {meth : Method} {c : Code} {A : Nat → Prop} {D : va_G} {ad : Nat → Nat} {cI cZ : ClassId} {N : Nat} {Q : UU → Prop} (C : Cx p m c cX12_four 3 s args RX12 meth none A D [(cI, .int), (cZ, .boolean)] EM) : ∀ (n : Nat) (x1 : Int32) (x2 : Int32) (u : UU), m_X12_four_3 N Q n x1 x2 u → WW p l e rm_X12_four s m args below meth c 0 0 (MQ below (QV D A (wM ad cI cZ) Q) args s 0 0 A) A D 3 3 [(0, .ref (ad 0)), (1, .int x1), (2, .int x2)] [] (wM ad cI cZ u) := by
  intro n
  induction n with
  | zero => intro x1 x2 u h; rw [m_X12_four_3] at h; exact h.elim
  | succ n ih =>
    intro x1 x2 u h
    rw [m_X12_four_3] at h
    refine ww_iload_n C dX12_four_3 rfl 2 rfl ?_
    refine ww_if_lt (tgt := 39) C dX12_four_4 (by decide) (fun hc => ?_) (fun hc => ?_)
    · have h := ite_t h hc
      exact ww_vret C h dX12_four_39
    · have h := ite_f h hc
      refine ww_aload_n C dX12_four_7 rfl 0 rfl ?_
      refine ww_get C inX12 rfl 36 (by decide) tb_4_72 MF_0_36 dX12_four_8 ?_
      refine ww_aload_n C dX12_four_11 rfl 0 rfl ?_
      refine ww_get C inX12 rfl 37 (by decide) tb_4_73 MF_0_37 dX12_four_12 ?_
      refine ww_iload_n C dX12_four_15 rfl 1 rfl ?_
      refine ww_iload_n C dX12_four_16 rfl 2 rfl ?_
      refine ww_ishr C dX12_four_17 ?_
      refine ww_sipush (v := 255) C dX12_four_18 (by decide) ?_
      refine ww_iand C dX12_four_21 ?_
      obtain ⟨hin, h⟩ := h
      refine ww_iast C 0 rfl MU_25 hin dX12_four_22 ?_
      refine ww_nU (wM ad cI cZ) (fun u_1 eu_1 => ?_)
      have h := h u_1 eu_1
      refine ww_aload_n C dX12_four_23 rfl 0 rfl ?_
      refine ww_dup C dX12_four_24 rfl ?_
      refine ww_get C inX12 rfl 37 (by decide) tb_4_73 MF_0_37 dX12_four_25 ?_
      refine ww_iconst (v := 1) C dX12_four_28 (by decide) ?_
      refine ww_iadd C dX12_four_29 ?_
      refine ww_put C inX12 rfl tyX12 tyX12_ok nmX12 37 (by decide) tb_4_73 rfl rfl rfl MS_0_37 dX12_four_30 ?_
      refine ww_nU (wM ad cI cZ) (fun u_2 eu_2 => ?_)
      have h := h u_2 eu_2
      obtain ⟨z_3, ez_3⟩ : ∃ z_3 : Int32, z_3 = x2 + ((-8) : Int32) := ⟨_, rfl⟩
      have h := h z_3 ez_3
      refine ww_iinc (i := 2) (j := 2) (v := z_3) (lv' := [(2, .int z_3), (0, .ref (ad 0)), (1, .int x1)]) C dX12_four_33 rfl (by rw [ez_3]; rfl) (by decide) rfl ?_
      refine ww_goto (tgt := 3) C dX12_four_36 (by decide) ?_
      refine ww_sub [1, 2, 0] rfl ?_
      exact ih _ _ _ h
set_option maxRecDepth 100000 in
theorem w_X12_four {p : Program} {l : Launch} {e : Env} {s : State} {m : MethodId} {args : Array Value} {below : List Frame} {meth : Method} {c : Code} {A : Nat → Prop} {D : va_G} {ad : Nat → Nat} {cI cZ : ClassId} {N : Nat} {Q : UU → Prop} (C : Cx p m c cX12_four 3 s args RX12 meth none A D [(cI, .int), (cZ, .boolean)] EM) : ∀ {x1 : Int32} {u : UU}, m_X12_four N x1 u Q → WW p l e rm_X12_four s m args below meth c 0 0 (MQ below (QV D A (wM ad cI cZ) Q) args s 0 0 A) A D 3 0 [(0, .ref (ad 0)), (1, .int x1)] [] (wM ad cI cZ u) := by
  intro x1 u h
  unfold m_X12_four at h
  refine ww_bipush (v := 24) C dX12_four_0 (by decide) ?_
  refine ww_istore_n (i := 2) (lv' := [(2, .int (24 : Int32)), (0, .ref (ad 0)), (1, .int x1)]) C dX12_four_2 rfl (by decide) rfl ?_
  refine ww_sub [1, 2, 0] rfl ?_
  exact w_X12_four_3 C N _ _ _ h
theorem c_X12_four {l : Launch} {D : va_G} {ad : Nat → Nat} {cI cZ : ClassId} {N : Nat} {x1 : Int32} {u : UU} {Q : UU → Prop} (h : m_X12_four N x1 u Q) : MV l D [(cI, .int), (cZ, .boolean)] EM yX12_four (Cond.code yX12_four cX12_four 3 none) rm_X12_four [.ref (ad 0), .int x1] (wM ad cI cZ u) (wM ad cI cZ) Q 0 0 :=
  MV_of (own := RX12) (by decide) rfl (Nat.le_of_ble_eq_true rfl) rfl (fun p e s m args below meth c A C => w_X12_four C h)
theorem hd_X12_four : yX12_four.cls ≠ "java/lang/invoke/MethodHandle" ∧ yX12_four.cls ≠ "java/lang/invoke/VarHandle" ∧ (parseMethodDescriptor yX12_four.desc).map (fun d => d.parameters.length) = some 1 := by decide +kernel
abbrev rm_X12_feed : Room := { frames := 1, cells := 0, slots := 0, locals := 22 }
set_option maxRecDepth 100000 in
theorem w_X12_feed {p : Program} {l : Launch} {e : Env} {s : State} {m : MethodId} {args : Array Value} {below : List Frame} {meth : Method} {c : Code} {A : Nat → Prop} {D : va_G} {ad : Nat → Nat} {cI cZ : ClassId} {N : Nat} {Q : Int32 → UU → Prop} (C : Cx p m c cX12_feed 6 s args RX12 meth (some .int) A D [(cI, .int), (cZ, .boolean)] EM) : ∀ {x1 : Int32} {x2 : Int32} {x3 : Int32} {x4 : Int32} {x5 : Int32} {u : UU}, m_X12_feed N x1 x2 x3 x4 x5 u Q → WW p l e rm_X12_feed s m args below meth c 0 0 (MQ below (QI D A (wM ad cI cZ) Q) args s 0 0 A) A D 6 0 [(0, .ref (ad 0)), (1, .int x1), (2, .int x2), (3, .int x3), (4, .int x4), (5, .int x5)] [] (wM ad cI cZ u) := by
  intro x1 x2 x3 x4 x5 u h
  unfold m_X12_feed at h
  refine ww_aload_n C dX12_feed_0 rfl 0 rfl ?_
  refine ww_iconst (v := 0) C dX12_feed_1 (by decide) ?_
  refine ww_put C inX12 rfl tyX12 tyX12_ok nmX12 0 (by decide) tb_4_36 rfl rfl rfl MS_0_0 dX12_feed_2 ?_
  refine ww_nU (wM ad cI cZ) (fun u_1 eu_1 => ?_)
  have h := h u_1 eu_1
  refine ww_aload_n C dX12_feed_5 rfl 0 rfl ?_
  refine ww_get C inX12 rfl 37 (by decide) tb_4_73 MF_0_37 dX12_feed_6 ?_
  refine ww_bipush (v := 20) C dX12_feed_9 (by decide) ?_
  refine ww_iadd C dX12_feed_11 ?_
  refine ww_sipush (v := 200) C dX12_feed_12 (by decide) ?_
  refine ww_icmp_le (tgt := 20) C dX12_feed_15 (by decide) (fun hc => ?_) (fun hc => ?_)
  · have h := ite_t h hc
    refine ww_aload_n C dX12_feed_20 rfl 0 rfl ?_
    refine ww_iload_n C dX12_feed_21 rfl 1 rfl ?_
    refine ww_callVv (As := [.int x1]) (rest := []) C EM_ok (c_X12_four h) tb_5_61 tb_5_63 tbs_29 tb_1_13 tb_5_64 rfl rfl ⟨rfl, hd_X12_four⟩ ⟨Nat.le_of_ble_eq_true rfl, Nat.le_of_ble_eq_true rfl⟩ rfl MF_0_0 rfl rfl (Nat.le_of_ble_eq_true rfl) dX12_feed_22 ⟨Nat.zero_le _, Nat.zero_le _⟩ (fun u_2 h => ?_)
    refine ww_aload_n C dX12_feed_25 rfl 0 rfl ?_
    refine ww_iload_n C dX12_feed_26 rfl 2 rfl ?_
    refine ww_callVv (As := [.int x2]) (rest := []) C EM_ok (c_X12_four h) tb_5_61 tb_5_63 tbs_29 tb_1_13 tb_5_64 rfl rfl ⟨rfl, hd_X12_four⟩ ⟨Nat.le_of_ble_eq_true rfl, Nat.le_of_ble_eq_true rfl⟩ rfl MF_0_0 rfl rfl (Nat.le_of_ble_eq_true rfl) dX12_feed_27 ⟨Nat.zero_le _, Nat.zero_le _⟩ (fun u_4 h => ?_)
    refine ww_aload_n C dX12_feed_30 rfl 0 rfl ?_
    refine ww_iload_n C dX12_feed_31 rfl 3 rfl ?_
    refine ww_callVv (As := [.int x3]) (rest := []) C EM_ok (c_X12_four h) tb_5_61 tb_5_63 tbs_29 tb_1_13 tb_5_64 rfl rfl ⟨rfl, hd_X12_four⟩ ⟨Nat.le_of_ble_eq_true rfl, Nat.le_of_ble_eq_true rfl⟩ rfl MF_0_0 rfl rfl (Nat.le_of_ble_eq_true rfl) dX12_feed_32 ⟨Nat.zero_le _, Nat.zero_le _⟩ (fun u_6 h => ?_)
    refine ww_aload_n C dX12_feed_35 rfl 0 rfl ?_
    refine ww_iload C dX12_feed_36 4 rfl ?_
    refine ww_callVv (As := [.int x4]) (rest := []) C EM_ok (c_X12_four h) tb_5_61 tb_5_63 tbs_29 tb_1_13 tb_5_64 rfl rfl ⟨rfl, hd_X12_four⟩ ⟨Nat.le_of_ble_eq_true rfl, Nat.le_of_ble_eq_true rfl⟩ rfl MF_0_0 rfl rfl (Nat.le_of_ble_eq_true rfl) dX12_feed_38 ⟨Nat.zero_le _, Nat.zero_le _⟩ (fun u_8 h => ?_)
    refine ww_aload_n C dX12_feed_41 rfl 0 rfl ?_
    refine ww_iload C dX12_feed_42 5 rfl ?_
    refine ww_callVv (As := [.int x5]) (rest := []) C EM_ok (c_X12_four h) tb_5_61 tb_5_63 tbs_29 tb_1_13 tb_5_64 rfl rfl ⟨rfl, hd_X12_four⟩ ⟨Nat.le_of_ble_eq_true rfl, Nat.le_of_ble_eq_true rfl⟩ rfl MF_0_0 rfl rfl (Nat.le_of_ble_eq_true rfl) dX12_feed_44 ⟨Nat.zero_le _, Nat.zero_le _⟩ (fun u_10 h => ?_)
    refine ww_aload_n C dX12_feed_47 rfl 0 rfl ?_
    refine ww_get C inX12 rfl 37 (by decide) tb_4_73 MF_0_37 dX12_feed_48 ?_
    exact ww_iret C h dX12_feed_51
  · have h := ite_f h hc
    refine ww_iconst (v := (-1)) C dX12_feed_18 (by decide) ?_
    exact ww_iret C h dX12_feed_19
theorem c_X12_feed {l : Launch} {D : va_G} {ad : Nat → Nat} {cI cZ : ClassId} {N : Nat} {x1 : Int32} {x2 : Int32} {x3 : Int32} {x4 : Int32} {x5 : Int32} {u : UU} {Q : Int32 → UU → Prop} (h : m_X12_feed N x1 x2 x3 x4 x5 u Q) : MI l D [(cI, .int), (cZ, .boolean)] EM yX12_feed (Cond.code yX12_feed cX12_feed 6 (some .int)) rm_X12_feed [.ref (ad 0), .int x1, .int x2, .int x3, .int x4, .int x5] (wM ad cI cZ u) (wM ad cI cZ) Q :=
  MI_of (own := RX12) (by decide) rfl (Nat.le_of_ble_eq_true rfl) rfl (fun p e s m args below meth c A C => w_X12_feed C h)
theorem hd_X12_feed : yX12_feed.cls ≠ "java/lang/invoke/MethodHandle" ∧ yX12_feed.cls ≠ "java/lang/invoke/VarHandle" ∧ (parseMethodDescriptor yX12_feed.desc).map (fun d => d.parameters.length) = some 5 := by decide +kernel
abbrev rm_X12_end : Room := { frames := 0, cells := 0, slots := 0, locals := 0 }
set_option maxRecDepth 100000 in
theorem w_X12_end {p : Program} {l : Launch} {e : Env} {s : State} {m : MethodId} {args : Array Value} {below : List Frame} {meth : Method} {c : Code} {A : Nat → Prop} {D : va_G} {ad : Nat → Nat} {cI cZ : ClassId} {N : Nat} {Q : Int32 → UU → Prop} (C : Cx p m c cX12_end 2 s args RX12 meth (some .int) A D [(cI, .int), (cZ, .boolean)] EM) : ∀ {x1 : Int32} {u : UU}, m_X12_end N x1 u Q → WW p l e rm_X12_end s m args below meth c 0 0 (MQ below (QI D A (wM ad cI cZ) Q) args s 0 0 A) A D 2 0 [(0, .ref (ad 0)), (1, .int x1)] [] (wM ad cI cZ u) := by
  intro x1 u h
  unfold m_X12_end at h
  refine ww_aload_n C dX12_end_0 rfl 0 rfl ?_
  refine ww_iconst (v := 0) C dX12_end_1 (by decide) ?_
  refine ww_put C inX12 rfl tyX12 tyX12_ok nmX12 0 (by decide) tb_4_36 rfl rfl rfl MS_0_0 dX12_end_2 ?_
  refine ww_nU (wM ad cI cZ) (fun u_1 eu_1 => ?_)
  have h := h u_1 eu_1
  refine ww_iload_n C dX12_end_5 rfl 1 rfl ?_
  refine ww_if_lt (tgt := 17) C dX12_end_6 (by decide) (fun hc => ?_) (fun hc => ?_)
  · have h := ite_t h hc
    refine ww_iconst (v := (-1)) C dX12_end_17 (by decide) ?_
    exact ww_iret C h dX12_end_18
  · have h := ite_f h hc
    refine ww_iload_n C dX12_end_9 rfl 1 rfl ?_
    refine ww_aload_n C dX12_end_10 rfl 0 rfl ?_
    refine ww_get C inX12 rfl 37 (by decide) tb_4_73 MF_0_37 dX12_end_11 ?_
    refine ww_icmp_le (tgt := 19) C dX12_end_14 (by decide) (fun hc => ?_) (fun hc => ?_)
    · have h := ite_t h hc
      refine ww_aload_n C dX12_end_19 rfl 0 rfl ?_
      refine ww_iload_n C dX12_end_20 rfl 1 rfl ?_
      refine ww_put C inX12 rfl tyX12 tyX12_ok nmX12 37 (by decide) tb_4_73 rfl rfl rfl MS_0_37 dX12_end_21 ?_
      refine ww_nU (wM ad cI cZ) (fun u_2 eu_2 => ?_)
      have h := h u_2 eu_2
      refine ww_iload_n C dX12_end_24 rfl 1 rfl ?_
      exact ww_iret C h dX12_end_25
    · have h := ite_f h hc
      refine ww_iconst (v := (-1)) C dX12_end_17 (by decide) ?_
      exact ww_iret C h dX12_end_18
theorem c_X12_end {l : Launch} {D : va_G} {ad : Nat → Nat} {cI cZ : ClassId} {N : Nat} {x1 : Int32} {u : UU} {Q : Int32 → UU → Prop} (h : m_X12_end N x1 u Q) : MI l D [(cI, .int), (cZ, .boolean)] EM yX12_end (Cond.code yX12_end cX12_end 2 (some .int)) rm_X12_end [.ref (ad 0), .int x1] (wM ad cI cZ u) (wM ad cI cZ) Q :=
  MI_of (own := RX12) (by decide) rfl (Nat.le_of_ble_eq_true rfl) rfl (fun p e s m args below meth c A C => w_X12_end C h)
theorem hd_X12_end : yX12_end.cls ≠ "java/lang/invoke/MethodHandle" ∧ yX12_end.cls ≠ "java/lang/invoke/VarHandle" ∧ (parseMethodDescriptor yX12_end.desc).map (fun d => d.parameters.length) = some 1 := by decide +kernel
abbrev rm_X12_isDigit : Room := { frames := 0, cells := 0, slots := 0, locals := 0 }
set_option maxRecDepth 100000 in
theorem w_X12_isDigit {p : Program} {l : Launch} {e : Env} {s : State} {m : MethodId} {args : Array Value} {below : List Frame} {meth : Method} {c : Code} {A : Nat → Prop} {D : va_G} {ad : Nat → Nat} {cI cZ : ClassId} {N : Nat} {Q : Int32 → UU → Prop} (C : Cx p m c cX12_isDigit 1 s args RX12 meth (some .boolean) A D [(cI, .int), (cZ, .boolean)] EM) : ∀ {x0 : Int32} {u : UU}, m_X12_isDigit N x0 u Q → WW p l e rm_X12_isDigit s m args below meth c 0 0 (MQ below (QI D A (wM ad cI cZ) Q) args s 0 0 A) A D 1 0 [(0, .int x0)] [] (wM ad cI cZ u) := by
  intro x0 u h
  unfold m_X12_isDigit at h
  refine ww_iload_n C dX12_isDigit_0 rfl 0 rfl ?_
  refine ww_bipush (v := 48) C dX12_isDigit_1 (by decide) ?_
  refine ww_icmp_lt (tgt := 16) C dX12_isDigit_3 (by decide) (fun hc => ?_) (fun hc => ?_)
  · have h := ite_t h hc
    refine ww_iconst (v := 0) C dX12_isDigit_16 (by decide) ?_
    exact ww_zret C h.1 h.2 dX12_isDigit_17
  · have h := ite_f h hc
    refine ww_iload_n C dX12_isDigit_6 rfl 0 rfl ?_
    refine ww_bipush (v := 57) C dX12_isDigit_7 (by decide) ?_
    refine ww_icmp_gt (tgt := 16) C dX12_isDigit_9 (by decide) (fun hc => ?_) (fun hc => ?_)
    · have h := ite_t h hc
      refine ww_iconst (v := 0) C dX12_isDigit_16 (by decide) ?_
      exact ww_zret C h.1 h.2 dX12_isDigit_17
    · have h := ite_f h hc
      refine ww_iconst (v := 1) C dX12_isDigit_12 (by decide) ?_
      refine ww_goto (tgt := 17) C dX12_isDigit_13 (by decide) ?_
      exact ww_zret C h.1 h.2 dX12_isDigit_17
theorem c_X12_isDigit {l : Launch} {D : va_G} {ad : Nat → Nat} {cI cZ : ClassId} {N : Nat} {x0 : Int32} {u : UU} {Q : Int32 → UU → Prop} (h : m_X12_isDigit N x0 u Q) : MI l D [(cI, .int), (cZ, .boolean)] EM yX12_isDigit (Cond.code yX12_isDigit cX12_isDigit 1 (some .boolean)) rm_X12_isDigit [.int x0] (wM ad cI cZ u) (wM ad cI cZ) Q :=
  MI_of (own := RX12) (by decide) rfl (Nat.le_of_ble_eq_true rfl) rfl (fun p e s m args below meth c A C => w_X12_isDigit C h)
theorem hd_X12_isDigit : yX12_isDigit.cls ≠ "java/lang/invoke/MethodHandle" ∧ yX12_isDigit.cls ≠ "java/lang/invoke/VarHandle" ∧ (parseMethodDescriptor yX12_isDigit.desc).map (fun d => d.parameters.length) = some 1 := by decide +kernel
abbrev rm_X12_isSmall : Room := { frames := 0, cells := 0, slots := 0, locals := 0 }
set_option maxRecDepth 100000 in
theorem w_X12_isSmall {p : Program} {l : Launch} {e : Env} {s : State} {m : MethodId} {args : Array Value} {below : List Frame} {meth : Method} {c : Code} {A : Nat → Prop} {D : va_G} {ad : Nat → Nat} {cI cZ : ClassId} {N : Nat} {Q : Int32 → UU → Prop} (C : Cx p m c cX12_isSmall 1 s args RX12 meth (some .boolean) A D [(cI, .int), (cZ, .boolean)] EM) : ∀ {x0 : Int32} {u : UU}, m_X12_isSmall N x0 u Q → WW p l e rm_X12_isSmall s m args below meth c 0 0 (MQ below (QI D A (wM ad cI cZ) Q) args s 0 0 A) A D 1 0 [(0, .int x0)] [] (wM ad cI cZ u) := by
  intro x0 u h
  unfold m_X12_isSmall at h
  refine ww_iload_n C dX12_isSmall_0 rfl 0 rfl ?_
  refine ww_bipush (v := 97) C dX12_isSmall_1 (by decide) ?_
  refine ww_icmp_lt (tgt := 16) C dX12_isSmall_3 (by decide) (fun hc => ?_) (fun hc => ?_)
  · have h := ite_t h hc
    refine ww_iconst (v := 0) C dX12_isSmall_16 (by decide) ?_
    exact ww_zret C h.1 h.2 dX12_isSmall_17
  · have h := ite_f h hc
    refine ww_iload_n C dX12_isSmall_6 rfl 0 rfl ?_
    refine ww_bipush (v := 122) C dX12_isSmall_7 (by decide) ?_
    refine ww_icmp_gt (tgt := 16) C dX12_isSmall_9 (by decide) (fun hc => ?_) (fun hc => ?_)
    · have h := ite_t h hc
      refine ww_iconst (v := 0) C dX12_isSmall_16 (by decide) ?_
      exact ww_zret C h.1 h.2 dX12_isSmall_17
    · have h := ite_f h hc
      refine ww_iconst (v := 1) C dX12_isSmall_12 (by decide) ?_
      refine ww_goto (tgt := 17) C dX12_isSmall_13 (by decide) ?_
      exact ww_zret C h.1 h.2 dX12_isSmall_17
theorem c_X12_isSmall {l : Launch} {D : va_G} {ad : Nat → Nat} {cI cZ : ClassId} {N : Nat} {x0 : Int32} {u : UU} {Q : Int32 → UU → Prop} (h : m_X12_isSmall N x0 u Q) : MI l D [(cI, .int), (cZ, .boolean)] EM yX12_isSmall (Cond.code yX12_isSmall cX12_isSmall 1 (some .boolean)) rm_X12_isSmall [.int x0] (wM ad cI cZ u) (wM ad cI cZ) Q :=
  MI_of (own := RX12) (by decide) rfl (Nat.le_of_ble_eq_true rfl) rfl (fun p e s m args below meth c A C => w_X12_isSmall C h)
theorem hd_X12_isSmall : yX12_isSmall.cls ≠ "java/lang/invoke/MethodHandle" ∧ yX12_isSmall.cls ≠ "java/lang/invoke/VarHandle" ∧ (parseMethodDescriptor yX12_isSmall.desc).map (fun d => d.parameters.length) = some 1 := by decide +kernel
abbrev rm_X12_next : Room := { frames := 1, cells := 0, slots := 0, locals := 20 }
set_option maxRecDepth 100000 in
theorem w_X12_next_227 {p : Program} {l : Launch} {e : Env} {s : State} {m : MethodId} {args : Array Value} {below : List Frame} {meth : Method} {c : Code} {A : Nat → Prop} {D : va_G} {ad : Nat → Nat} {cI cZ : ClassId} {N : Nat} {Q : UU → Prop} {k149 : UU → Prop} (C : Cx p m c cX12_next 1 s args RX12 meth none A D [(cI, .int), (cZ, .boolean)] EM) (hk149 : ∀ (u : UU), k149  u → WW p l e rm_X12_next s m args below meth c 0 0 (MQ below (QV D A (wM ad cI cZ) Q) args s 0 0 A) A D 1 149 [(0, .ref (ad 0))] [] (wM ad cI cZ u)) : ∀ {y1 : Int64} {u : UU}, m_X12_next_227 N k149 y1 u Q → WW p l e rm_X12_next s m args below meth c 0 0 (MQ below (QV D A (wM ad cI cZ) Q) args s 0 0 A) A D 1 227 [(0, .ref (ad 0))] [.long y1, .ref (ad 0)] (wM ad cI cZ u) := by
  intro y1 u h
  unfold m_X12_next_227 at h
  refine ww_put C inX12 rfl tyX12 tyX12_ok nmX12 41 (by decide) tb_4_77 rfl rfl rfl MS_0_41 dX12_next_227 ?_
  refine ww_nU (wM ad cI cZ) (fun u_1 eu_1 => ?_)
  have h := h u_1 eu_1
  refine ww_aload_n C dX12_next_230 rfl 0 rfl ?_
  refine ww_dup C dX12_next_231 rfl ?_
  refine ww_get C inX12 rfl 39 (by decide) tb_4_75 MF_0_39 dX12_next_232 ?_
  refine ww_iconst (v := 1) C dX12_next_235 (by decide) ?_
  refine ww_iadd C dX12_next_236 ?_
  refine ww_put C inX12 rfl tyX12 tyX12_ok nmX12 39 (by decide) tb_4_75 rfl rfl rfl MS_0_39 dX12_next_237 ?_
  refine ww_nU (wM ad cI cZ) (fun u_2 eu_2 => ?_)
  have h := h u_2 eu_2
  refine ww_goto (tgt := 149) C dX12_next_240 (by decide) ?_
  exact hk149 _ h
set_option maxRecDepth 100000 in
theorem w_X12_next_319 {p : Program} {l : Launch} {e : Env} {s : State} {m : MethodId} {args : Array Value} {below : List Frame} {meth : Method} {c : Code} {A : Nat → Prop} {D : va_G} {ad : Nat → Nat} {cI cZ : ClassId} {N : Nat} {Q : UU → Prop} {k243 : UU → Prop} (C : Cx p m c cX12_next 1 s args RX12 meth none A D [(cI, .int), (cZ, .boolean)] EM) (hk243 : ∀ (u : UU), k243  u → WW p l e rm_X12_next s m args below meth c 0 0 (MQ below (QV D A (wM ad cI cZ) Q) args s 0 0 A) A D 1 243 [(0, .ref (ad 0))] [] (wM ad cI cZ u)) : ∀ {y1 : Int64} {u : UU}, m_X12_next_319 N k243 y1 u Q → WW p l e rm_X12_next s m args below meth c 0 0 (MQ below (QV D A (wM ad cI cZ) Q) args s 0 0 A) A D 1 319 [(0, .ref (ad 0))] [.long y1, .ref (ad 0)] (wM ad cI cZ u) := by
  intro y1 u h
  unfold m_X12_next_319 at h
  refine ww_put C inX12 rfl tyX12 tyX12_ok nmX12 41 (by decide) tb_4_77 rfl rfl rfl MS_0_41 dX12_next_319 ?_
  refine ww_nU (wM ad cI cZ) (fun u_1 eu_1 => ?_)
  have h := h u_1 eu_1
  refine ww_aload_n C dX12_next_322 rfl 0 rfl ?_
  refine ww_dup C dX12_next_323 rfl ?_
  refine ww_get C inX12 rfl 39 (by decide) tb_4_75 MF_0_39 dX12_next_324 ?_
  refine ww_iconst (v := 1) C dX12_next_327 (by decide) ?_
  refine ww_iadd C dX12_next_328 ?_
  refine ww_put C inX12 rfl tyX12 tyX12_ok nmX12 39 (by decide) tb_4_75 rfl rfl rfl MS_0_39 dX12_next_329 ?_
  refine ww_nU (wM ad cI cZ) (fun u_2 eu_2 => ?_)
  have h := h u_2 eu_2
  refine ww_goto (tgt := 243) C dX12_next_332 (by decide) ?_
  exact hk243 _ h
set_option maxRecDepth 100000 in
theorem w_X12_next_243 {p : Program} {l : Launch} {e : Env} {s : State} {m : MethodId} {args : Array Value} {below : List Frame} {meth : Method} {c : Code} {A : Nat → Prop} {D : va_G} {ad : Nat → Nat} {cI cZ : ClassId} {N : Nat} {Q : UU → Prop} (C : Cx p m c cX12_next 1 s args RX12 meth none A D [(cI, .int), (cZ, .boolean)] EM) : ∀ (n : Nat) (u : UU), m_X12_next_243 N Q n  u → WW p l e rm_X12_next s m args below meth c 0 0 (MQ below (QV D A (wM ad cI cZ) Q) args s 0 0 A) A D 1 243 [(0, .ref (ad 0))] [] (wM ad cI cZ u) := by
  intro n
  induction n with
  | zero => intro  u h; rw [m_X12_next_243] at h; exact h.elim
  | succ n ih =>
    intro  u h
    rw [m_X12_next_243] at h
    refine ww_aload_n C dX12_next_243 rfl 0 rfl ?_
    refine ww_get C inX12 rfl 40 (by decide) tb_4_76 MF_0_40 dX12_next_244 ?_
    refine ww_iconst (v := 2) C dX12_next_247 (by decide) ?_
    refine ww_icmp_ne (tgt := 335) C dX12_next_248 (by decide) (fun hc => ?_) (fun hc => ?_)
    · have h := ite_f h hc
      exact ww_vret C h dX12_next_335
    · have h := ite_t h hc
      refine ww_aload_n C dX12_next_251 rfl 0 rfl ?_
      refine ww_get C inX12 rfl 39 (by decide) tb_4_75 MF_0_39 dX12_next_252 ?_
      refine ww_aload_n C dX12_next_255 rfl 0 rfl ?_
      refine ww_get C inX12 rfl 37 (by decide) tb_4_73 MF_0_37 dX12_next_256 ?_
      refine ww_icmp_ge (tgt := 335) C dX12_next_259 (by decide) (fun hc => ?_) (fun hc => ?_)
      · have h := ite_t h hc
        exact ww_vret C h dX12_next_335
      · have h := ite_f h hc
        refine ww_aload_n C dX12_next_262 rfl 0 rfl ?_
        refine ww_get C inX12 rfl 36 (by decide) tb_4_72 MF_0_36 dX12_next_263 ?_
        refine ww_aload_n C dX12_next_266 rfl 0 rfl ?_
        refine ww_get C inX12 rfl 39 (by decide) tb_4_75 MF_0_39 dX12_next_267 ?_
        obtain ⟨hin, h⟩ := h
        refine ww_iald C 0 rfl MA_25 hin dX12_next_270 ?_
        refine ww_callSi (As := [.int (u.2.1 24 (u.1 14).toNatClampNeg)]) (rest := []) C EM_ok (c_X12_isDigit h) tb_5_80 tb_5_81 tb_1_13 tb_5_82 rfl rfl hd_X12_isDigit ⟨Nat.le_of_ble_eq_true rfl, Nat.le_of_ble_eq_true rfl⟩ rfl rfl (Nat.le_of_ble_eq_true rfl) dX12_next_271 ⟨Nat.zero_le _, Nat.zero_le _⟩ (fun r_2 u_1 h => ?_)
        refine ww_if_eq (tgt := 335) C dX12_next_274 (by decide) (fun hc => ?_) (fun hc => ?_)
        · have h := ite_t h hc
          exact ww_vret C h dX12_next_335
        · have h := ite_f h hc
          refine ww_aload_n C dX12_next_277 rfl 0 rfl ?_
          refine ww_aload_n C dX12_next_278 rfl 0 rfl ?_
          refine ww_get C inX12 rfl 41 (by decide) tb_4_77 MF_0_41 dX12_next_279 ?_
          refine ww_ldc2 C tb_4_209 dX12_next_282 ?_
          refine ww_lcmp C dX12_next_285 ?_
          refine ww_if_le (tgt := 296) C dX12_next_286 (by decide) (fun hc => ?_) (fun hc => ?_)
          · have h := ite_t h hc
            refine ww_aload_n C dX12_next_296 rfl 0 rfl ?_
            refine ww_get C inX12 rfl 41 (by decide) tb_4_77 MF_0_41 dX12_next_297 ?_
            refine ww_ldc2 C tb_5_85 dX12_next_300 ?_
            refine ww_lmul C dX12_next_303 ?_
            refine ww_aload_n C dX12_next_304 rfl 0 rfl ?_
            refine ww_get C inX12 rfl 36 (by decide) tb_4_72 MF_0_36 dX12_next_305 ?_
            refine ww_aload_n C dX12_next_308 rfl 0 rfl ?_
            refine ww_get C inX12 rfl 39 (by decide) tb_4_75 MF_0_39 dX12_next_309 ?_
            obtain ⟨hin, h⟩ := h
            refine ww_iald C 0 rfl MA_25 hin dX12_next_312 ?_
            refine ww_i2l C dX12_next_313 ?_
            refine ww_ladd C dX12_next_314 ?_
            refine ww_ldc2 C tb_5_86 dX12_next_315 ?_
            refine ww_lsub C dX12_next_318 ?_
            exact w_X12_next_319 C ih h
          · have h := ite_f h hc
            refine ww_aload_n C dX12_next_289 rfl 0 rfl ?_
            refine ww_get C inX12 rfl 41 (by decide) tb_4_77 MF_0_41 dX12_next_290 ?_
            refine ww_goto (tgt := 319) C dX12_next_293 (by decide) ?_
            exact w_X12_next_319 C ih h
set_option maxRecDepth 100000 in
theorem w_X12_next_149 {p : Program} {l : Launch} {e : Env} {s : State} {m : MethodId} {args : Array Value} {below : List Frame} {meth : Method} {c : Code} {A : Nat → Prop} {D : va_G} {ad : Nat → Nat} {cI cZ : ClassId} {N : Nat} {Q : UU → Prop} (C : Cx p m c cX12_next 1 s args RX12 meth none A D [(cI, .int), (cZ, .boolean)] EM) : ∀ (n : Nat) (u : UU), m_X12_next_149 N Q n  u → WW p l e rm_X12_next s m args below meth c 0 0 (MQ below (QV D A (wM ad cI cZ) Q) args s 0 0 A) A D 1 149 [(0, .ref (ad 0))] [] (wM ad cI cZ u) := by
  intro n
  induction n with
  | zero => intro  u h; rw [m_X12_next_149] at h; exact h.elim
  | succ n ih =>
    intro  u h
    rw [m_X12_next_149] at h
    refine ww_aload_n C dX12_next_149 rfl 0 rfl ?_
    refine ww_get C inX12 rfl 40 (by decide) tb_4_76 MF_0_40 dX12_next_150 ?_
    refine ww_iconst (v := 1) C dX12_next_153 (by decide) ?_
    refine ww_icmp_ne (tgt := 243) C dX12_next_154 (by decide) (fun hc => ?_) (fun hc => ?_)
    · have h := ite_f h hc
      exact w_X12_next_243 C N _ h
    · have h := ite_t h hc
      refine ww_aload_n C dX12_next_157 rfl 0 rfl ?_
      refine ww_get C inX12 rfl 39 (by decide) tb_4_75 MF_0_39 dX12_next_158 ?_
      refine ww_aload_n C dX12_next_161 rfl 0 rfl ?_
      refine ww_get C inX12 rfl 37 (by decide) tb_4_73 MF_0_37 dX12_next_162 ?_
      refine ww_icmp_ge (tgt := 243) C dX12_next_165 (by decide) (fun hc => ?_) (fun hc => ?_)
      · have h := ite_t h hc
        exact w_X12_next_243 C N _ h
      · have h := ite_f h hc
        refine ww_aload_n C dX12_next_168 rfl 0 rfl ?_
        refine ww_get C inX12 rfl 36 (by decide) tb_4_72 MF_0_36 dX12_next_169 ?_
        refine ww_aload_n C dX12_next_172 rfl 0 rfl ?_
        refine ww_get C inX12 rfl 39 (by decide) tb_4_75 MF_0_39 dX12_next_173 ?_
        obtain ⟨hin, h⟩ := h
        refine ww_iald C 0 rfl MA_25 hin dX12_next_176 ?_
        refine ww_callSi (As := [.int (u.2.1 24 (u.1 14).toNatClampNeg)]) (rest := []) C EM_ok (c_X12_isSmall h) tb_5_77 tb_5_78 tb_1_13 tb_5_79 rfl rfl hd_X12_isSmall ⟨Nat.le_of_ble_eq_true rfl, Nat.le_of_ble_eq_true rfl⟩ rfl rfl (Nat.le_of_ble_eq_true rfl) dX12_next_177 ⟨Nat.zero_le _, Nat.zero_le _⟩ (fun r_2 u_1 h => ?_)
        refine ww_if_eq (tgt := 243) C dX12_next_180 (by decide) (fun hc => ?_) (fun hc => ?_)
        · have h := ite_t h hc
          exact w_X12_next_243 C N _ h
        · have h := ite_f h hc
          refine ww_aload_n C dX12_next_183 rfl 0 rfl ?_
          refine ww_aload_n C dX12_next_184 rfl 0 rfl ?_
          refine ww_get C inX12 rfl 39 (by decide) tb_4_75 MF_0_39 dX12_next_185 ?_
          refine ww_aload_n C dX12_next_188 rfl 0 rfl ?_
          refine ww_get C inX12 rfl 38 (by decide) tb_4_74 MF_0_38 dX12_next_189 ?_
          refine ww_isub C dX12_next_192 ?_
          refine ww_bipush (v := 6) C dX12_next_193 (by decide) ?_
          refine ww_icmp_ge (tgt := 224) C dX12_next_195 (by decide) (fun hc => ?_) (fun hc => ?_)
          · have h := ite_t h hc
            refine ww_ldc2 C tb_5_48 dX12_next_224 ?_
            exact w_X12_next_227 C ih h
          · have h := ite_f h hc
            refine ww_aload_n C dX12_next_198 rfl 0 rfl ?_
            refine ww_get C inX12 rfl 41 (by decide) tb_4_77 MF_0_41 dX12_next_199 ?_
            refine ww_ldc2 C tb_5_83 dX12_next_202 ?_
            refine ww_lmul C dX12_next_205 ?_
            refine ww_aload_n C dX12_next_206 rfl 0 rfl ?_
            refine ww_get C inX12 rfl 36 (by decide) tb_4_72 MF_0_36 dX12_next_207 ?_
            refine ww_aload_n C dX12_next_210 rfl 0 rfl ?_
            refine ww_get C inX12 rfl 39 (by decide) tb_4_75 MF_0_39 dX12_next_211 ?_
            obtain ⟨hin, h⟩ := h
            refine ww_iald C 0 rfl MA_25 hin dX12_next_214 ?_
            refine ww_i2l C dX12_next_215 ?_
            refine ww_ladd C dX12_next_216 ?_
            refine ww_ldc2 C tb_5_84 dX12_next_217 ?_
            refine ww_lsub C dX12_next_220 ?_
            refine ww_goto (tgt := 227) C dX12_next_221 (by decide) ?_
            exact w_X12_next_227 C ih h
set_option maxRecDepth 100000 in
theorem w_X12_next_114 {p : Program} {l : Launch} {e : Env} {s : State} {m : MethodId} {args : Array Value} {below : List Frame} {meth : Method} {c : Code} {A : Nat → Prop} {D : va_G} {ad : Nat → Nat} {cI cZ : ClassId} {N : Nat} {Q : UU → Prop} (C : Cx p m c cX12_next 1 s args RX12 meth none A D [(cI, .int), (cZ, .boolean)] EM) : ∀ {y1 : Int32} {u : UU}, m_X12_next_114 N y1 u Q → WW p l e rm_X12_next s m args below meth c 0 0 (MQ below (QV D A (wM ad cI cZ) Q) args s 0 0 A) A D 1 114 [(0, .ref (ad 0))] [.int y1, .ref (ad 0)] (wM ad cI cZ u) := by
  intro y1 u h
  unfold m_X12_next_114 at h
  refine ww_put C inX12 rfl tyX12 tyX12_ok nmX12 40 (by decide) tb_4_76 rfl rfl rfl MS_0_40 dX12_next_114 ?_
  refine ww_nU (wM ad cI cZ) (fun u_1 eu_1 => ?_)
  have h := h u_1 eu_1
  refine ww_aload_n C dX12_next_117 rfl 0 rfl ?_
  refine ww_get C inX12 rfl 40 (by decide) tb_4_76 MF_0_40 dX12_next_118 ?_
  refine ww_iconst (v := 3) C dX12_next_121 (by decide) ?_
  refine ww_icmp_ne (tgt := 149) C dX12_next_122 (by decide) (fun hc => ?_) (fun hc => ?_)
  · have h := ite_f h hc
    exact w_X12_next_149 C N _ h
  · have h := ite_t h hc
    refine ww_aload_n C dX12_next_125 rfl 0 rfl ?_
    refine ww_aload_n C dX12_next_126 rfl 0 rfl ?_
    refine ww_get C inX12 rfl 36 (by decide) tb_4_72 MF_0_36 dX12_next_127 ?_
    refine ww_aload_n C dX12_next_130 rfl 0 rfl ?_
    refine ww_get C inX12 rfl 38 (by decide) tb_4_74 MF_0_38 dX12_next_131 ?_
    obtain ⟨hin, h⟩ := h
    refine ww_iald C 0 rfl MA_25 hin dX12_next_134 ?_
    refine ww_i2l C dX12_next_135 ?_
    refine ww_put C inX12 rfl tyX12 tyX12_ok nmX12 41 (by decide) tb_4_77 rfl rfl rfl MS_0_41 dX12_next_136 ?_
    refine ww_nU (wM ad cI cZ) (fun u_2 eu_2 => ?_)
    have h := h u_2 eu_2
    refine ww_aload_n C dX12_next_139 rfl 0 rfl ?_
    refine ww_dup C dX12_next_140 rfl ?_
    refine ww_get C inX12 rfl 39 (by decide) tb_4_75 MF_0_39 dX12_next_141 ?_
    refine ww_iconst (v := 1) C dX12_next_144 (by decide) ?_
    refine ww_iadd C dX12_next_145 ?_
    refine ww_put C inX12 rfl tyX12 tyX12_ok nmX12 39 (by decide) tb_4_75 rfl rfl rfl MS_0_39 dX12_next_146 ?_
    refine ww_nU (wM ad cI cZ) (fun u_3 eu_3 => ?_)
    have h := h u_3 eu_3
    exact w_X12_next_149 C N _ h
set_option maxRecDepth 100000 in
theorem w_X12_next_46 {p : Program} {l : Launch} {e : Env} {s : State} {m : MethodId} {args : Array Value} {below : List Frame} {meth : Method} {c : Code} {A : Nat → Prop} {D : va_G} {ad : Nat → Nat} {cI cZ : ClassId} {N : Nat} {Q : UU → Prop} (C : Cx p m c cX12_next 1 s args RX12 meth none A D [(cI, .int), (cZ, .boolean)] EM) : ∀ {u : UU}, m_X12_next_46 N  u Q → WW p l e rm_X12_next s m args below meth c 0 0 (MQ below (QV D A (wM ad cI cZ) Q) args s 0 0 A) A D 1 46 [(0, .ref (ad 0))] [] (wM ad cI cZ u) := by
  intro  u h
  unfold m_X12_next_46 at h
  refine ww_aload_n C dX12_next_46 rfl 0 rfl ?_
  refine ww_aload_n C dX12_next_47 rfl 0 rfl ?_
  refine ww_get C inX12 rfl 38 (by decide) tb_4_74 MF_0_38 dX12_next_48 ?_
  refine ww_put C inX12 rfl tyX12 tyX12_ok nmX12 39 (by decide) tb_4_75 rfl rfl rfl MS_0_39 dX12_next_51 ?_
  refine ww_nU (wM ad cI cZ) (fun u_1 eu_1 => ?_)
  have h := h u_1 eu_1
  refine ww_aload_n C dX12_next_54 rfl 0 rfl ?_
  refine ww_lconst (v := 0) C dX12_next_55 (by decide) ?_
  refine ww_put C inX12 rfl tyX12 tyX12_ok nmX12 41 (by decide) tb_4_77 rfl rfl rfl MS_0_41 dX12_next_56 ?_
  refine ww_nU (wM ad cI cZ) (fun u_2 eu_2 => ?_)
  have h := h u_2 eu_2
  refine ww_aload_n C dX12_next_59 rfl 0 rfl ?_
  refine ww_aload_n C dX12_next_60 rfl 0 rfl ?_
  refine ww_get C inX12 rfl 38 (by decide) tb_4_74 MF_0_38 dX12_next_61 ?_
  refine ww_aload_n C dX12_next_64 rfl 0 rfl ?_
  refine ww_get C inX12 rfl 37 (by decide) tb_4_73 MF_0_37 dX12_next_65 ?_
  refine ww_icmp_ne (tgt := 75) C dX12_next_68 (by decide) (fun hc => ?_) (fun hc => ?_)
  · have h := ite_f h hc
    refine ww_aload_n C dX12_next_75 rfl 0 rfl ?_
    refine ww_get C inX12 rfl 36 (by decide) tb_4_72 MF_0_36 dX12_next_76 ?_
    refine ww_aload_n C dX12_next_79 rfl 0 rfl ?_
    refine ww_get C inX12 rfl 38 (by decide) tb_4_74 MF_0_38 dX12_next_80 ?_
    obtain ⟨hin, h⟩ := h
    refine ww_iald C 0 rfl MA_25 hin dX12_next_83 ?_
    refine ww_callSi (As := [.int (u_2.2.1 24 (u_2.1 13).toNatClampNeg)]) (rest := [.ref (ad 0)]) C EM_ok (c_X12_isSmall h) tb_5_77 tb_5_78 tb_1_13 tb_5_79 rfl rfl hd_X12_isSmall ⟨Nat.le_of_ble_eq_true rfl, Nat.le_of_ble_eq_true rfl⟩ rfl rfl (Nat.le_of_ble_eq_true rfl) dX12_next_84 ⟨Nat.zero_le _, Nat.zero_le _⟩ (fun r_4 u_3 h => ?_)
    refine ww_if_eq (tgt := 94) C dX12_next_87 (by decide) (fun hc => ?_) (fun hc => ?_)
    · have h := ite_t h hc
      refine ww_aload_n C dX12_next_94 rfl 0 rfl ?_
      refine ww_get C inX12 rfl 36 (by decide) tb_4_72 MF_0_36 dX12_next_95 ?_
      refine ww_aload_n C dX12_next_98 rfl 0 rfl ?_
      refine ww_get C inX12 rfl 38 (by decide) tb_4_74 MF_0_38 dX12_next_99 ?_
      obtain ⟨hin, h⟩ := h
      refine ww_iald C 0 rfl MA_25 hin dX12_next_102 ?_
      refine ww_callSi (As := [.int (u_3.2.1 24 (u_3.1 13).toNatClampNeg)]) (rest := [.ref (ad 0)]) C EM_ok (c_X12_isDigit h) tb_5_80 tb_5_81 tb_1_13 tb_5_82 rfl rfl hd_X12_isDigit ⟨Nat.le_of_ble_eq_true rfl, Nat.le_of_ble_eq_true rfl⟩ rfl rfl (Nat.le_of_ble_eq_true rfl) dX12_next_103 ⟨Nat.zero_le _, Nat.zero_le _⟩ (fun r_6 u_5 h => ?_)
      refine ww_if_eq (tgt := 113) C dX12_next_106 (by decide) (fun hc => ?_) (fun hc => ?_)
      · have h := ite_t h hc
        refine ww_iconst (v := 3) C dX12_next_113 (by decide) ?_
        exact w_X12_next_114 C h
      · have h := ite_f h hc
        refine ww_iconst (v := 2) C dX12_next_109 (by decide) ?_
        refine ww_goto (tgt := 114) C dX12_next_110 (by decide) ?_
        exact w_X12_next_114 C h
    · have h := ite_f h hc
      refine ww_iconst (v := 1) C dX12_next_90 (by decide) ?_
      refine ww_goto (tgt := 114) C dX12_next_91 (by decide) ?_
      exact w_X12_next_114 C h
  · have h := ite_t h hc
    refine ww_iconst (v := 0) C dX12_next_71 (by decide) ?_
    refine ww_goto (tgt := 114) C dX12_next_72 (by decide) ?_
    exact w_X12_next_114 C h
set_option maxRecDepth 100000 in
theorem w_X12_next_8 {p : Program} {l : Launch} {e : Env} {s : State} {m : MethodId} {args : Array Value} {below : List Frame} {meth : Method} {c : Code} {A : Nat → Prop} {D : va_G} {ad : Nat → Nat} {cI cZ : ClassId} {N : Nat} {Q : UU → Prop} (C : Cx p m c cX12_next 1 s args RX12 meth none A D [(cI, .int), (cZ, .boolean)] EM) : ∀ (n : Nat) (u : UU), m_X12_next_8 N Q n  u → WW p l e rm_X12_next s m args below meth c 0 0 (MQ below (QV D A (wM ad cI cZ) Q) args s 0 0 A) A D 1 8 [(0, .ref (ad 0))] [] (wM ad cI cZ u) := by
  intro n
  induction n with
  | zero => intro  u h; rw [m_X12_next_8] at h; exact h.elim
  | succ n ih =>
    intro  u h
    rw [m_X12_next_8] at h
    refine ww_aload_n C dX12_next_8 rfl 0 rfl ?_
    refine ww_get C inX12 rfl 38 (by decide) tb_4_74 MF_0_38 dX12_next_9 ?_
    refine ww_aload_n C dX12_next_12 rfl 0 rfl ?_
    refine ww_get C inX12 rfl 37 (by decide) tb_4_73 MF_0_37 dX12_next_13 ?_
    refine ww_icmp_ge (tgt := 46) C dX12_next_16 (by decide) (fun hc => ?_) (fun hc => ?_)
    · have h := ite_t h hc
      exact w_X12_next_46 C h
    · have h := ite_f h hc
      refine ww_aload_n C dX12_next_19 rfl 0 rfl ?_
      refine ww_get C inX12 rfl 36 (by decide) tb_4_72 MF_0_36 dX12_next_20 ?_
      refine ww_aload_n C dX12_next_23 rfl 0 rfl ?_
      refine ww_get C inX12 rfl 38 (by decide) tb_4_74 MF_0_38 dX12_next_24 ?_
      obtain ⟨hin, h⟩ := h
      refine ww_iald C 0 rfl MA_25 hin dX12_next_27 ?_
      refine ww_bipush (v := 32) C dX12_next_28 (by decide) ?_
      refine ww_icmp_ne (tgt := 46) C dX12_next_30 (by decide) (fun hc => ?_) (fun hc => ?_)
      · have h := ite_f h hc
        exact w_X12_next_46 C h
      · have h := ite_t h hc
        refine ww_aload_n C dX12_next_33 rfl 0 rfl ?_
        refine ww_dup C dX12_next_34 rfl ?_
        refine ww_get C inX12 rfl 38 (by decide) tb_4_74 MF_0_38 dX12_next_35 ?_
        refine ww_iconst (v := 1) C dX12_next_38 (by decide) ?_
        refine ww_iadd C dX12_next_39 ?_
        refine ww_put C inX12 rfl tyX12 tyX12_ok nmX12 38 (by decide) tb_4_74 rfl rfl rfl MS_0_38 dX12_next_40 ?_
        refine ww_nU (wM ad cI cZ) (fun u_1 eu_1 => ?_)
        have h := h u_1 eu_1
        refine ww_goto (tgt := 8) C dX12_next_43 (by decide) ?_
        exact ih _ h
set_option maxRecDepth 100000 in
theorem w_X12_next {p : Program} {l : Launch} {e : Env} {s : State} {m : MethodId} {args : Array Value} {below : List Frame} {meth : Method} {c : Code} {A : Nat → Prop} {D : va_G} {ad : Nat → Nat} {cI cZ : ClassId} {N : Nat} {Q : UU → Prop} (C : Cx p m c cX12_next 1 s args RX12 meth none A D [(cI, .int), (cZ, .boolean)] EM) : ∀ {u : UU}, m_X12_next N  u Q → WW p l e rm_X12_next s m args below meth c 0 0 (MQ below (QV D A (wM ad cI cZ) Q) args s 0 0 A) A D 1 0 [(0, .ref (ad 0))] [] (wM ad cI cZ u) := by
  intro  u h
  unfold m_X12_next at h
  refine ww_aload_n C dX12_next_0 rfl 0 rfl ?_
  refine ww_aload_n C dX12_next_1 rfl 0 rfl ?_
  refine ww_get C inX12 rfl 39 (by decide) tb_4_75 MF_0_39 dX12_next_2 ?_
  refine ww_put C inX12 rfl tyX12 tyX12_ok nmX12 38 (by decide) tb_4_74 rfl rfl rfl MS_0_38 dX12_next_5 ?_
  refine ww_nU (wM ad cI cZ) (fun u_1 eu_1 => ?_)
  have h := h u_1 eu_1
  exact w_X12_next_8 C N _ h
theorem c_X12_next {l : Launch} {D : va_G} {ad : Nat → Nat} {cI cZ : ClassId} {N : Nat}  {u : UU} {Q : UU → Prop} (h : m_X12_next N  u Q) : MV l D [(cI, .int), (cZ, .boolean)] EM yX12_next (Cond.code yX12_next cX12_next 1 none) rm_X12_next [.ref (ad 0)] (wM ad cI cZ u) (wM ad cI cZ) Q 0 0 :=
  MV_of (own := RX12) (by decide) rfl (Nat.le_of_ble_eq_true rfl) rfl (fun p e s m args below meth c A C => w_X12_next C h)
theorem hd_X12_next : yX12_next.cls ≠ "java/lang/invoke/MethodHandle" ∧ yX12_next.cls ≠ "java/lang/invoke/VarHandle" ∧ (parseMethodDescriptor yX12_next.desc).map (fun d => d.parameters.length) = some 0 := by decide +kernel
