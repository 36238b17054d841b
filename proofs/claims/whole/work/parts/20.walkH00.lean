abbrev rm_X11_isIn : Room := { frames := 0, cells := 0, slots := 0, locals := 0 }
set_option maxRecDepth 100000 in
theorem w_X11_isIn {p : Program} {l : Launch} {e : Env} {s : State} {m : MethodId} {args : Array Value} {below : List Frame} {meth : Method} {c : Code} {A : Nat → Prop} {D : va_G} {ad : Nat → Nat} {kK kV : Nat → Nat} {cI cZ : ClassId} {N : Nat} {Q : Int32 → UU → Prop} (C : Cx p m c cX11_isIn 3 s args RX11 meth (some .boolean) A D [(cI, .int), (cZ, .boolean)] (EH kK kV)) : ∀ {x0 : Int32} {x1 : Int32} {x2 : Int32} {u : UU}, m_X11_isIn N x0 x1 x2 u Q → WW p l e rm_X11_isIn s m args below meth c 0 0 (MQ below (QI D A (wH ad cI cZ) Q) args s 0 0 A) A D 3 0 [(0, .int x0), (1, .int x1), (2, .int x2)] [] (wH ad cI cZ u) := by
  intro x0 x1 x2 u h
  unfold m_X11_isIn at h
  refine ww_iload_n C dX11_isIn_0 rfl 0 rfl ?_
  refine ww_iload_n C dX11_isIn_1 rfl 1 rfl ?_
  refine ww_icmp_lt (tgt := 14) C dX11_isIn_2 (by decide) (fun hc => ?_) (fun hc => ?_)
  · have h := ite_t h hc
    refine ww_iconst (v := 0) C dX11_isIn_14 (by decide) ?_
    exact ww_zret C h.1 h.2 dX11_isIn_15
  · have h := ite_f h hc
    refine ww_iload_n C dX11_isIn_5 rfl 0 rfl ?_
    refine ww_iload_n C dX11_isIn_6 rfl 2 rfl ?_
    refine ww_icmp_gt (tgt := 14) C dX11_isIn_7 (by decide) (fun hc => ?_) (fun hc => ?_)
    · have h := ite_t h hc
      refine ww_iconst (v := 0) C dX11_isIn_14 (by decide) ?_
      exact ww_zret C h.1 h.2 dX11_isIn_15
    · have h := ite_f h hc
      refine ww_iconst (v := 1) C dX11_isIn_10 (by decide) ?_
      refine ww_goto (tgt := 15) C dX11_isIn_11 (by decide) ?_
      exact ww_zret C h.1 h.2 dX11_isIn_15
theorem c_X11_isIn {l : Launch} {D : va_G} {ad : Nat → Nat} {kK kV : Nat → Nat} {cI cZ : ClassId} {N : Nat} {x0 : Int32} {x1 : Int32} {x2 : Int32} {u : UU} {Q : Int32 → UU → Prop} (h : m_X11_isIn N x0 x1 x2 u Q) : MI l D [(cI, .int), (cZ, .boolean)] (EH kK kV) yX11_isIn (Cond.code yX11_isIn cX11_isIn 3 (some .boolean)) rm_X11_isIn [.int x0, .int x1, .int x2] (wH ad cI cZ u) (wH ad cI cZ) Q :=
  MI_of (own := RX11) (by decide) rfl (Nat.le_of_ble_eq_true rfl) rfl (fun p e s m args below meth c A C => w_X11_isIn C h)
theorem hd_X11_isIn : yX11_isIn.cls ≠ "java/lang/invoke/MethodHandle" ∧ yX11_isIn.cls ≠ "java/lang/invoke/VarHandle" ∧ (parseMethodDescriptor yX11_isIn.desc).map (fun d => d.parameters.length) = some 3 := by decide +kernel
abbrev rm_X11_isPlace : Room := { frames := 1, cells := 0, slots := 0, locals := 22 }
set_option maxRecDepth 100000 in
theorem w_X11_isPlace {p : Program} {l : Launch} {e : Env} {s : State} {m : MethodId} {args : Array Value} {below : List Frame} {meth : Method} {c : Code} {A : Nat → Prop} {D : va_G} {ad : Nat → Nat} {kK kV : Nat → Nat} {cI cZ : ClassId} {N : Nat} {Q : Int32 → UU → Prop} (C : Cx p m c cX11_isPlace 2 s args RX11 meth (some .boolean) A D [(cI, .int), (cZ, .boolean)] (EH kK kV)) : ∀ {x0 : Int32} {x1 : Int32} {u : UU}, m_X11_isPlace N x0 x1 u Q → WW p l e rm_X11_isPlace s m args below meth c 0 0 (MQ below (QI D A (wH ad cI cZ) Q) args s 0 0 A) A D 2 0 [(0, .int x0), (1, .int x1)] [] (wH ad cI cZ u) := by
  intro x0 x1 u h
  unfold m_X11_isPlace at h
  refine ww_iload_n C dX11_isPlace_0 rfl 0 rfl ?_
  refine ww_iconst (v := 0) C dX11_isPlace_1 (by decide) ?_
  refine ww_bipush (v := 63) C dX11_isPlace_2 (by decide) ?_
  refine ww_callSi (As := [.int x0, .int (0 : Int32), .int (63 : Int32)]) (rest := []) C EH_ok (c_X11_isIn h) tb_2_99 tb_2_100 tb_1_1 tb_2_101 rfl rfl hd_X11_isIn ⟨Nat.le_of_ble_eq_true rfl, Nat.le_of_ble_eq_true rfl⟩ rfl rfl (Nat.le_of_ble_eq_true rfl) dX11_isPlace_4 ⟨Nat.zero_le _, Nat.zero_le _⟩ (fun r_2 u_1 h => ?_)
  refine ww_if_eq (tgt := 24) C dX11_isPlace_7 (by decide) (fun hc => ?_) (fun hc => ?_)
  · have h := ite_t h hc
    refine ww_iconst (v := 0) C dX11_isPlace_24 (by decide) ?_
    exact ww_zret C h.1 h.2 dX11_isPlace_25
  · have h := ite_f h hc
    refine ww_iload_n C dX11_isPlace_10 rfl 1 rfl ?_
    refine ww_iconst (v := 0) C dX11_isPlace_11 (by decide) ?_
    refine ww_bipush (v := 63) C dX11_isPlace_12 (by decide) ?_
    refine ww_callSi (As := [.int x1, .int (0 : Int32), .int (63 : Int32)]) (rest := []) C EH_ok (c_X11_isIn h) tb_2_99 tb_2_100 tb_1_1 tb_2_101 rfl rfl hd_X11_isIn ⟨Nat.le_of_ble_eq_true rfl, Nat.le_of_ble_eq_true rfl⟩ rfl rfl (Nat.le_of_ble_eq_true rfl) dX11_isPlace_14 ⟨Nat.zero_le _, Nat.zero_le _⟩ (fun r_4 u_3 h => ?_)
    refine ww_if_eq (tgt := 24) C dX11_isPlace_17 (by decide) (fun hc => ?_) (fun hc => ?_)
    · have h := ite_t h hc
      refine ww_iconst (v := 0) C dX11_isPlace_24 (by decide) ?_
      exact ww_zret C h.1 h.2 dX11_isPlace_25
    · have h := ite_f h hc
      refine ww_iconst (v := 1) C dX11_isPlace_20 (by decide) ?_
      refine ww_goto (tgt := 25) C dX11_isPlace_21 (by decide) ?_
      exact ww_zret C h.1 h.2 dX11_isPlace_25
theorem c_X11_isPlace {l : Launch} {D : va_G} {ad : Nat → Nat} {kK kV : Nat → Nat} {cI cZ : ClassId} {N : Nat} {x0 : Int32} {x1 : Int32} {u : UU} {Q : Int32 → UU → Prop} (h : m_X11_isPlace N x0 x1 u Q) : MI l D [(cI, .int), (cZ, .boolean)] (EH kK kV) yX11_isPlace (Cond.code yX11_isPlace cX11_isPlace 2 (some .boolean)) rm_X11_isPlace [.int x0, .int x1] (wH ad cI cZ u) (wH ad cI cZ) Q :=
  MI_of (own := RX11) (by decide) rfl (Nat.le_of_ble_eq_true rfl) rfl (fun p e s m args below meth c A C => w_X11_isPlace C h)
theorem hd_X11_isPlace : yX11_isPlace.cls ≠ "java/lang/invoke/MethodHandle" ∧ yX11_isPlace.cls ≠ "java/lang/invoke/VarHandle" ∧ (parseMethodDescriptor yX11_isPlace.desc).map (fun d => d.parameters.length) = some 2 := by decide +kernel
abbrev rm_X0_add : Room := { frames := 0, cells := 0, slots := 0, locals := 0 }
set_option maxRecDepth 100000 in
theorem w_X0_add {p : Program} {l : Launch} {e : Env} {s : State} {m : MethodId} {args : Array Value} {below : List Frame} {meth : Method} {c : Code} {A : Nat → Prop} {D : va_G} {ad : Nat → Nat} {kK kV : Nat → Nat} {cI cZ : ClassId} {N : Nat} {Q : Int32 → UU → Prop} (C : Cx p m c cX0_add 3 s args RX0 meth (some .int) A D [(cI, .int), (cZ, .boolean)] (EH kK kV)) : ∀ {x1 : Int32} {x2 : Int32} {u : UU}, m_X0_add N x1 x2 u Q → WW p l e rm_X0_add s m args below meth c 0 0 (MQ below (QI D A (wH ad cI cZ) Q) args s 0 0 A) A D 3 0 [(0, .ref (ad 1)), (1, .int x1), (2, .int x2)] [] (wH ad cI cZ u) := by
  intro x1 x2 u h
  unfold m_X0_add at h
  refine ww_aload_n C dX0_add_0 rfl 0 rfl ?_
  refine ww_get C inX0 rfl 3 (by decide) tb_1_42 HF_1_3 dX0_add_1 ?_
  refine ww_bipush (v := 30) C dX0_add_4 (by decide) ?_
  refine ww_icmp_lt (tgt := 11) C dX0_add_6 (by decide) (fun hc => ?_) (fun hc => ?_)
  · have h := ite_t h hc
    refine ww_aload_n C dX0_add_11 rfl 0 rfl ?_
    refine ww_get C inX0 rfl 0 (by decide) tb_1_34 HF_1_0 dX0_add_12 ?_
    refine ww_aload_n C dX0_add_15 rfl 0 rfl ?_
    refine ww_get C inX0 rfl 3 (by decide) tb_1_42 HF_1_3 dX0_add_16 ?_
    refine ww_iload_n C dX0_add_19 rfl 1 rfl ?_
    obtain ⟨hin, h⟩ := h
    refine ww_iast C 0 rfl HU_13 hin dX0_add_20 ?_
    refine ww_nU (wH ad cI cZ) (fun u_1 eu_1 => ?_)
    have h := h u_1 eu_1
    refine ww_aload_n C dX0_add_21 rfl 0 rfl ?_
    refine ww_get C inX0 rfl 1 (by decide) tb_1_37 HF_1_1 dX0_add_22 ?_
    refine ww_aload_n C dX0_add_25 rfl 0 rfl ?_
    refine ww_get C inX0 rfl 3 (by decide) tb_1_42 HF_1_3 dX0_add_26 ?_
    refine ww_iload_n C dX0_add_29 rfl 2 rfl ?_
    obtain ⟨hin, h⟩ := h
    refine ww_iast C 0 rfl HU_14 hin dX0_add_30 ?_
    refine ww_nU (wH ad cI cZ) (fun u_2 eu_2 => ?_)
    have h := h u_2 eu_2
    refine ww_aload_n C dX0_add_31 rfl 0 rfl ?_
    refine ww_get C inX0 rfl 2 (by decide) tb_1_40 HF_1_2 dX0_add_32 ?_
    refine ww_aload_n C dX0_add_35 rfl 0 rfl ?_
    refine ww_get C inX0 rfl 3 (by decide) tb_1_42 HF_1_3 dX0_add_36 ?_
    refine ww_sipush (v := 1001) C dX0_add_39 (by decide) ?_
    obtain ⟨hin, h⟩ := h
    refine ww_iast C 0 rfl HU_15 hin dX0_add_42 ?_
    refine ww_nU (wH ad cI cZ) (fun u_3 eu_3 => ?_)
    have h := h u_3 eu_3
    refine ww_aload_n C dX0_add_43 rfl 0 rfl ?_
    refine ww_dup C dX0_add_44 rfl ?_
    refine ww_get C inX0 rfl 3 (by decide) tb_1_42 HF_1_3 dX0_add_45 ?_
    refine ww_iconst (v := 1) C dX0_add_48 (by decide) ?_
    refine ww_iadd C dX0_add_49 ?_
    refine ww_put C inX0 rfl tyX0 tyX0_ok nmX0 3 (by decide) tb_1_42 rfl rfl rfl HS_1_3 dX0_add_50 ?_
    refine ww_nU (wH ad cI cZ) (fun u_4 eu_4 => ?_)
    have h := h u_4 eu_4
    refine ww_aload_n C dX0_add_53 rfl 0 rfl ?_
    refine ww_get C inX0 rfl 3 (by decide) tb_1_42 HF_1_3 dX0_add_54 ?_
    refine ww_iconst (v := 1) C dX0_add_57 (by decide) ?_
    refine ww_isub C dX0_add_58 ?_
    exact ww_iret C h dX0_add_59
  · have h := ite_f h hc
    refine ww_iconst (v := (-1)) C dX0_add_9 (by decide) ?_
    exact ww_iret C h dX0_add_10
theorem c_X0_add {l : Launch} {D : va_G} {ad : Nat → Nat} {kK kV : Nat → Nat} {cI cZ : ClassId} {N : Nat} {x1 : Int32} {x2 : Int32} {u : UU} {Q : Int32 → UU → Prop} (h : m_X0_add N x1 x2 u Q) : MI l D [(cI, .int), (cZ, .boolean)] (EH kK kV) yX0_add (Cond.code yX0_add cX0_add 3 (some .int)) rm_X0_add [.ref (ad 1), .int x1, .int x2] (wH ad cI cZ u) (wH ad cI cZ) Q :=
  MI_of (own := RX0) (by decide) rfl (Nat.le_of_ble_eq_true rfl) rfl (fun p e s m args below meth c A C => w_X0_add C h)
theorem hd_X0_add : yX0_add.cls ≠ "java/lang/invoke/MethodHandle" ∧ yX0_add.cls ≠ "java/lang/invoke/VarHandle" ∧ (parseMethodDescriptor yX0_add.desc).map (fun d => d.parameters.length) = some 2 := by decide +kernel
abbrev rm_X11_taken : Room := { frames := 0, cells := 0, slots := 0, locals := 0 }
set_option maxRecDepth 100000 in
theorem w_X11_taken {p : Program} {l : Launch} {e : Env} {s : State} {m : MethodId} {args : Array Value} {below : List Frame} {meth : Method} {c : Code} {A : Nat → Prop} {D : va_G} {ad : Nat → Nat} {kK kV : Nat → Nat} {cI cZ : ClassId} {N : Nat} {Q : Int32 → UU → Prop} (C : Cx p m c cX11_taken 2 s args RX11 meth (some .int) A D [(cI, .int), (cZ, .boolean)] (EH kK kV)) : ∀ {x1 : Int32} {u : UU}, m_X11_taken N x1 u Q → WW p l e rm_X11_taken s m args below meth c 0 0 (MQ below (QI D A (wH ad cI cZ) Q) args s 0 0 A) A D 2 0 [(0, .ref (ad 0)), (1, .int x1)] [] (wH ad cI cZ u) := by
  intro x1 u h
  unfold m_X11_taken at h
  refine ww_aload_n C dX11_taken_0 rfl 0 rfl ?_
  refine ww_iconst (v := 0) C dX11_taken_1 (by decide) ?_
  refine ww_put C inX11 rfl tyX11 tyX11_ok nmX11 13 (by decide) tb_2_62 rfl rfl rfl HS_0_13 dX11_taken_2 ?_
  refine ww_nU (wH ad cI cZ) (fun u_1 eu_1 => ?_)
  have h := h u_1 eu_1
  refine ww_iload_n C dX11_taken_5 rfl 1 rfl ?_
  exact ww_iret C h dX11_taken_6
theorem c_X11_taken {l : Launch} {D : va_G} {ad : Nat → Nat} {kK kV : Nat → Nat} {cI cZ : ClassId} {N : Nat} {x1 : Int32} {u : UU} {Q : Int32 → UU → Prop} (h : m_X11_taken N x1 u Q) : MI l D [(cI, .int), (cZ, .boolean)] (EH kK kV) yX11_taken (Cond.code yX11_taken cX11_taken 2 (some .int)) rm_X11_taken [.ref (ad 0), .int x1] (wH ad cI cZ u) (wH ad cI cZ) Q :=
  MI_of (own := RX11) (by decide) rfl (Nat.le_of_ble_eq_true rfl) rfl (fun p e s m args below meth c A C => w_X11_taken C h)
theorem hd_X11_taken : yX11_taken.cls ≠ "java/lang/invoke/MethodHandle" ∧ yX11_taken.cls ≠ "java/lang/invoke/VarHandle" ∧ (parseMethodDescriptor yX11_taken.desc).map (fun d => d.parameters.length) = some 1 := by decide +kernel
abbrev rm_X11_refused : Room := { frames := 0, cells := 0, slots := 0, locals := 0 }
set_option maxRecDepth 100000 in
theorem w_X11_refused {p : Program} {l : Launch} {e : Env} {s : State} {m : MethodId} {args : Array Value} {below : List Frame} {meth : Method} {c : Code} {A : Nat → Prop} {D : va_G} {ad : Nat → Nat} {kK kV : Nat → Nat} {cI cZ : ClassId} {N : Nat} {Q : Int32 → UU → Prop} (C : Cx p m c cX11_refused 2 s args RX11 meth (some .int) A D [(cI, .int), (cZ, .boolean)] (EH kK kV)) : ∀ {x1 : Int32} {u : UU}, m_X11_refused N x1 u Q → WW p l e rm_X11_refused s m args below meth c 0 0 (MQ below (QI D A (wH ad cI cZ) Q) args s 0 0 A) A D 2 0 [(0, .ref (ad 0)), (1, .int x1)] [] (wH ad cI cZ u) := by
  intro x1 u h
  unfold m_X11_refused at h
  refine ww_aload_n C dX11_refused_0 rfl 0 rfl ?_
  refine ww_iload_n C dX11_refused_1 rfl 1 rfl ?_
  refine ww_put C inX11 rfl tyX11 tyX11_ok nmX11 13 (by decide) tb_2_62 rfl rfl rfl HS_0_13 dX11_refused_2 ?_
  refine ww_nU (wH ad cI cZ) (fun u_1 eu_1 => ?_)
  have h := h u_1 eu_1
  refine ww_iload_n C dX11_refused_5 rfl 1 rfl ?_
  exact ww_iret C h dX11_refused_6
theorem c_X11_refused {l : Launch} {D : va_G} {ad : Nat → Nat} {kK kV : Nat → Nat} {cI cZ : ClassId} {N : Nat} {x1 : Int32} {u : UU} {Q : Int32 → UU → Prop} (h : m_X11_refused N x1 u Q) : MI l D [(cI, .int), (cZ, .boolean)] (EH kK kV) yX11_refused (Cond.code yX11_refused cX11_refused 2 (some .int)) rm_X11_refused [.ref (ad 0), .int x1] (wH ad cI cZ u) (wH ad cI cZ) Q :=
  MI_of (own := RX11) (by decide) rfl (Nat.le_of_ble_eq_true rfl) rfl (fun p e s m args below meth c A C => w_X11_refused C h)
theorem hd_X11_refused : yX11_refused.cls ≠ "java/lang/invoke/MethodHandle" ∧ yX11_refused.cls ≠ "java/lang/invoke/VarHandle" ∧ (parseMethodDescriptor yX11_refused.desc).map (fun d => d.parameters.length) = some 1 := by decide +kernel
abbrev rm_X11_board : Room := { frames := 2, cells := 0, slots := 0, locals := 43 }
set_option maxRecDepth 100000 in
theorem w_X11_board {p : Program} {l : Launch} {e : Env} {s : State} {m : MethodId} {args : Array Value} {below : List Frame} {meth : Method} {c : Code} {A : Nat → Prop} {D : va_G} {ad : Nat → Nat} {kK kV : Nat → Nat} {cI cZ : ClassId} {N : Nat} {Q : Int32 → UU → Prop} (C : Cx p m c cX11_board 3 s args RX11 meth (some .int) A D [(cI, .int), (cZ, .boolean)] (EH kK kV)) : ∀ {x1 : Int32} {x2 : Int32} {u : UU}, m_X11_board N x1 x2 u Q → WW p l e rm_X11_board s m args below meth c 0 0 (MQ below (QI D A (wH ad cI cZ) Q) args s 0 0 A) A D 3 0 [(0, .ref (ad 0)), (1, .int x1), (2, .int x2)] [] (wH ad cI cZ u) := by
  intro x1 x2 u h
  unfold m_X11_board at h
  refine ww_iload_n C dX11_board_0 rfl 1 rfl ?_
  refine ww_iload_n C dX11_board_1 rfl 2 rfl ?_
  refine ww_callSi (As := [.int x1, .int x2]) (rest := []) C EH_ok (c_X11_isPlace h) tb_2_96 tb_2_97 tb_1_1 tb_2_98 rfl rfl hd_X11_isPlace ⟨Nat.le_of_ble_eq_true rfl, Nat.le_of_ble_eq_true rfl⟩ rfl rfl (Nat.le_of_ble_eq_true rfl) dX11_board_2 ⟨Nat.zero_le _, Nat.zero_le _⟩ (fun r_2 u_1 h => ?_)
  refine ww_if_ne (tgt := 14) C dX11_board_5 (by decide) (fun hc => ?_) (fun hc => ?_)
  · have h := ite_f h hc
    refine ww_aload_n C dX11_board_14 rfl 0 rfl ?_
    refine ww_get C inX11 rfl 0 (by decide) tb_2_49 HF_0_0 dX11_board_15 ?_
    refine ww_get C inX0 rfl 3 (by decide) tb_1_44 HF_1_3 dX11_board_18 ?_
    refine ww_bipush (v := 30) C dX11_board_21 (by decide) ?_
    refine ww_icmp_lt (tgt := 33) C dX11_board_23 (by decide) (fun hc => ?_) (fun hc => ?_)
    · have h := ite_t h hc
      refine ww_aload_n C dX11_board_33 rfl 0 rfl ?_
      refine ww_aload_n C dX11_board_34 rfl 0 rfl ?_
      refine ww_get C inX11 rfl 0 (by decide) tb_2_49 HF_0_0 dX11_board_35 ?_
      refine ww_iload_n C dX11_board_38 rfl 1 rfl ?_
      refine ww_iload_n C dX11_board_39 rfl 2 rfl ?_
      refine ww_callVi (As := [.int x1, .int x2]) (rest := [.ref (ad 0)]) C EH_ok (c_X0_add h) tb_2_106 tb_2_107 tb_2_108 tb_1_2 tb_2_109 rfl rfl ⟨rfl, hd_X0_add⟩ ⟨Nat.le_of_ble_eq_true rfl, Nat.le_of_ble_eq_true rfl⟩ rfl HF_1_0 rfl rfl (Nat.le_of_ble_eq_true rfl) dX11_board_40 ⟨Nat.zero_le _, Nat.zero_le _⟩ (fun r_4 u_3 h => ?_)
      refine ww_callVi (As := [.int r_4]) (rest := []) C EH_ok (c_X11_taken h) tb_2_110 tb_2_112 tbs_1 tb_1_1 tb_2_113 rfl rfl ⟨rfl, hd_X11_taken⟩ ⟨Nat.le_of_ble_eq_true rfl, Nat.le_of_ble_eq_true rfl⟩ rfl HF_0_0 rfl rfl (Nat.le_of_ble_eq_true rfl) dX11_board_43 ⟨Nat.zero_le _, Nat.zero_le _⟩ (fun r_6 u_5 h => ?_)
      exact ww_iret C h dX11_board_46
    · have h := ite_f h hc
      refine ww_aload_n C dX11_board_26 rfl 0 rfl ?_
      refine ww_bipush (v := (-5)) C dX11_board_27 (by decide) ?_
      refine ww_callVi (As := [.int ((-5) : Int32)]) (rest := []) C EH_ok (c_X11_refused h) tb_2_102 tb_2_104 tbs_0 tb_1_1 tb_2_105 rfl rfl ⟨rfl, hd_X11_refused⟩ ⟨Nat.le_of_ble_eq_true rfl, Nat.le_of_ble_eq_true rfl⟩ rfl HF_0_0 rfl rfl (Nat.le_of_ble_eq_true rfl) dX11_board_29 ⟨Nat.zero_le _, Nat.zero_le _⟩ (fun r_8 u_7 h => ?_)
      exact ww_iret C h dX11_board_32
  · have h := ite_t h hc
    refine ww_aload_n C dX11_board_8 rfl 0 rfl ?_
    refine ww_iconst (v := (-1)) C dX11_board_9 (by decide) ?_
    refine ww_callVi (As := [.int ((-1) : Int32)]) (rest := []) C EH_ok (c_X11_refused h) tb_2_102 tb_2_104 tbs_0 tb_1_1 tb_2_105 rfl rfl ⟨rfl, hd_X11_refused⟩ ⟨Nat.le_of_ble_eq_true rfl, Nat.le_of_ble_eq_true rfl⟩ rfl HF_0_0 rfl rfl (Nat.le_of_ble_eq_true rfl) dX11_board_10 ⟨Nat.zero_le _, Nat.zero_le _⟩ (fun r_10 u_9 h => ?_)
    exact ww_iret C h dX11_board_13
theorem c_X11_board {l : Launch} {D : va_G} {ad : Nat → Nat} {kK kV : Nat → Nat} {cI cZ : ClassId} {N : Nat} {x1 : Int32} {x2 : Int32} {u : UU} {Q : Int32 → UU → Prop} (h : m_X11_board N x1 x2 u Q) : MI l D [(cI, .int), (cZ, .boolean)] (EH kK kV) yX11_board (Cond.code yX11_board cX11_board 3 (some .int)) rm_X11_board [.ref (ad 0), .int x1, .int x2] (wH ad cI cZ u) (wH ad cI cZ) Q :=
  MI_of (own := RX11) (by decide) rfl (Nat.le_of_ble_eq_true rfl) rfl (fun p e s m args below meth c A C => w_X11_board C h)
theorem hd_X11_board : yX11_board.cls ≠ "java/lang/invoke/MethodHandle" ∧ yX11_board.cls ≠ "java/lang/invoke/VarHandle" ∧ (parseMethodDescriptor yX11_board.desc).map (fun d => d.parameters.length) = some 2 := by decide +kernel
abbrev rm_X11_isHour : Room := { frames := 1, cells := 0, slots := 0, locals := 22 }
set_option maxRecDepth 100000 in
theorem w_X11_isHour {p : Program} {l : Launch} {e : Env} {s : State} {m : MethodId} {args : Array Value} {below : List Frame} {meth : Method} {c : Code} {A : Nat → Prop} {D : va_G} {ad : Nat → Nat} {kK kV : Nat → Nat} {cI cZ : ClassId} {N : Nat} {Q : Int32 → UU → Prop} (C : Cx p m c cX11_isHour 1 s args RX11 meth (some .boolean) A D [(cI, .int), (cZ, .boolean)] (EH kK kV)) : ∀ {x0 : Int32} {u : UU}, m_X11_isHour N x0 u Q → WW p l e rm_X11_isHour s m args below meth c 0 0 (MQ below (QI D A (wH ad cI cZ) Q) args s 0 0 A) A D 1 0 [(0, .int x0)] [] (wH ad cI cZ u) := by
  intro x0 u h
  unfold m_X11_isHour at h
  refine ww_iload_n C dX11_isHour_0 rfl 0 rfl ?_
  refine ww_iconst (v := 0) C dX11_isHour_1 (by decide) ?_
  refine ww_sipush (v := 1000) C dX11_isHour_2 (by decide) ?_
  refine ww_callSi (As := [.int x0, .int (0 : Int32), .int (1000 : Int32)]) (rest := []) C EH_ok (c_X11_isIn h) tb_2_99 tb_2_100 tb_1_1 tb_2_101 rfl rfl hd_X11_isIn ⟨Nat.le_of_ble_eq_true rfl, Nat.le_of_ble_eq_true rfl⟩ rfl rfl (Nat.le_of_ble_eq_true rfl) dX11_isHour_5 ⟨Nat.zero_le _, Nat.zero_le _⟩ (fun r_2 u_1 h => ?_)
  exact ww_zret C h.1 h.2 dX11_isHour_8
theorem c_X11_isHour {l : Launch} {D : va_G} {ad : Nat → Nat} {kK kV : Nat → Nat} {cI cZ : ClassId} {N : Nat} {x0 : Int32} {u : UU} {Q : Int32 → UU → Prop} (h : m_X11_isHour N x0 u Q) : MI l D [(cI, .int), (cZ, .boolean)] (EH kK kV) yX11_isHour (Cond.code yX11_isHour cX11_isHour 1 (some .boolean)) rm_X11_isHour [.int x0] (wH ad cI cZ u) (wH ad cI cZ) Q :=
  MI_of (own := RX11) (by decide) rfl (Nat.le_of_ble_eq_true rfl) rfl (fun p e s m args below meth c A C => w_X11_isHour C h)
theorem hd_X11_isHour : yX11_isHour.cls ≠ "java/lang/invoke/MethodHandle" ∧ yX11_isHour.cls ≠ "java/lang/invoke/VarHandle" ∧ (parseMethodDescriptor yX11_isHour.desc).map (fun d => d.parameters.length) = some 1 := by decide +kernel
abbrev rm_X0_has : Room := { frames := 1, cells := 0, slots := 0, locals := 22 }
set_option maxRecDepth 100000 in
theorem w_X0_has {p : Program} {l : Launch} {e : Env} {s : State} {m : MethodId} {args : Array Value} {below : List Frame} {meth : Method} {c : Code} {A : Nat → Prop} {D : va_G} {ad : Nat → Nat} {kK kV : Nat → Nat} {cI cZ : ClassId} {N : Nat} {Q : Int32 → UU → Prop} (C : Cx p m c cX0_has 2 s args RX0 meth (some .boolean) A D [(cI, .int), (cZ, .boolean)] (EH kK kV)) : ∀ {x1 : Int32} {u : UU}, m_X0_has N x1 u Q → WW p l e rm_X0_has s m args below meth c 0 0 (MQ below (QI D A (wH ad cI cZ) Q) args s 0 0 A) A D 2 0 [(0, .ref (ad 1)), (1, .int x1)] [] (wH ad cI cZ u) := by
  intro x1 u h
  unfold m_X0_has at h
  refine ww_iload_n C dX0_has_0 rfl 1 rfl ?_
  refine ww_iconst (v := 0) C dX0_has_1 (by decide) ?_
  refine ww_aload_n C dX0_has_2 rfl 0 rfl ?_
  refine ww_get C inX0 rfl 3 (by decide) tb_1_42 HF_1_3 dX0_has_3 ?_
  refine ww_iconst (v := 1) C dX0_has_6 (by decide) ?_
  refine ww_isub C dX0_has_7 ?_
  refine ww_callSNi (As := [.int x1, .int (0 : Int32), .int ((u.1 2) - (1 : Int32))]) (rest := []) C EH_ok (c_X11_isIn h) (C.2.2.2.2.1.1 _ (List.mem_of_getElem? (i := 7) rfl)) tb_1_1 tb_2_100 tb_2_101 rfl rfl hd_X11_isIn ⟨Nat.le_of_ble_eq_true rfl, Nat.le_of_ble_eq_true rfl⟩ rfl rfl (Nat.le_of_ble_eq_true rfl) dX0_has_8 ⟨Nat.zero_le _, Nat.zero_le _⟩ (fun r_2 u_1 h => ?_)
  exact ww_zret C h.1 h.2 dX0_has_11
theorem c_X0_has {l : Launch} {D : va_G} {ad : Nat → Nat} {kK kV : Nat → Nat} {cI cZ : ClassId} {N : Nat} {x1 : Int32} {u : UU} {Q : Int32 → UU → Prop} (h : m_X0_has N x1 u Q) : MI l D [(cI, .int), (cZ, .boolean)] (EH kK kV) yX0_has (Cond.code yX0_has cX0_has 2 (some .boolean)) rm_X0_has [.ref (ad 1), .int x1] (wH ad cI cZ u) (wH ad cI cZ) Q :=
  MI_of (own := RX0) (by decide) rfl (Nat.le_of_ble_eq_true rfl) rfl (fun p e s m args below meth c A C => w_X0_has C h)
theorem hd_X0_has : yX0_has.cls ≠ "java/lang/invoke/MethodHandle" ∧ yX0_has.cls ≠ "java/lang/invoke/VarHandle" ∧ (parseMethodDescriptor yX0_has.desc).map (fun d => d.parameters.length) = some 1 := by decide +kernel
abbrev rm_X10_forget : Room := { frames := 0, cells := 0, slots := 0, locals := 0 }
set_option maxRecDepth 100000 in
theorem w_X10_forget {p : Program} {l : Launch} {e : Env} {s : State} {m : MethodId} {args : Array Value} {below : List Frame} {meth : Method} {c : Code} {A : Nat → Prop} {D : va_G} {ad : Nat → Nat} {kK kV : Nat → Nat} {cI cZ : ClassId} {N : Nat} {Q : UU → Prop} (C : Cx p m c cX10_forget 1 s args RX10 meth none A D [(cI, .int), (cZ, .boolean)] (EH kK kV)) : ∀ {u : UU}, m_X10_forget N  u Q → WW p l e rm_X10_forget s m args below meth c 0 0 (MQ below (QV D A (wH ad cI cZ) Q) args s 0 0 A) A D 1 0 [(0, .ref (ad 4))] [] (wH ad cI cZ u) := by
  intro  u h
  unfold m_X10_forget at h
  refine ww_aload_n C dX10_forget_0 rfl 0 rfl ?_
  refine ww_iconst (v := (-1)) C dX10_forget_1 (by decide) ?_
  refine ww_put C inX10 rfl tyX10 tyX10_ok nmX10 9 (by decide) tb_1_113 rfl rfl rfl HS_4_9 dX10_forget_2 ?_
  refine ww_nU (wH ad cI cZ) (fun u_1 eu_1 => ?_)
  have h := h u_1 eu_1
  exact ww_vret C h dX10_forget_5
theorem c_X10_forget {l : Launch} {D : va_G} {ad : Nat → Nat} {kK kV : Nat → Nat} {cI cZ : ClassId} {N : Nat}  {u : UU} {Q : UU → Prop} (h : m_X10_forget N  u Q) : MV l D [(cI, .int), (cZ, .boolean)] (EH kK kV) yX10_forget (Cond.code yX10_forget cX10_forget 1 none) rm_X10_forget [.ref (ad 4)] (wH ad cI cZ u) (wH ad cI cZ) Q 0 0 :=
  MV_of (own := RX10) (by decide) rfl (Nat.le_of_ble_eq_true rfl) rfl (fun p e s m args below meth c A C => w_X10_forget C h)
theorem hd_X10_forget : yX10_forget.cls ≠ "java/lang/invoke/MethodHandle" ∧ yX10_forget.cls ≠ "java/lang/invoke/VarHandle" ∧ (parseMethodDescriptor yX10_forget.desc).map (fun d => d.parameters.length) = some 0 := by decide +kernel
abbrev rm_X3_add : Room := { frames := 0, cells := 0, slots := 0, locals := 0 }
set_option maxRecDepth 100000 in
theorem w_X3_add {p : Program} {l : Launch} {e : Env} {s : State} {m : MethodId} {args : Array Value} {below : List Frame} {meth : Method} {c : Code} {A : Nat → Prop} {D : va_G} {ad : Nat → Nat} {kK kV : Nat → Nat} {cI cZ : ClassId} {N : Nat} {Q : Int32 → UU → Prop} (C : Cx p m c cX3_add 5 s args RX3 meth (some .int) A D [(cI, .int), (cZ, .boolean)] (EH kK kV)) : ∀ {x1 : Int32} {x2 : Int32} {x3 : Int32} {x4 : Int32} {u : UU}, m_X3_add N x1 x2 x3 x4 u Q → WW p l e rm_X3_add s m args below meth c 0 0 (MQ below (QI D A (wH ad cI cZ) Q) args s 0 0 A) A D 5 0 [(0, .ref (ad 2)), (1, .int x1), (2, .int x2), (3, .int x3), (4, .int x4)] [] (wH ad cI cZ u) := by
  intro x1 x2 x3 x4 u h
  unfold m_X3_add at h
  refine ww_aload_n C dX3_add_0 rfl 0 rfl ?_
  refine ww_get C inX3 rfl 4 (by decide) tb_1_71 HF_2_4 dX3_add_1 ?_
  refine ww_sipush (v := 300) C dX3_add_4 (by decide) ?_
  refine ww_icmp_lt (tgt := 15) C dX3_add_7 (by decide) (fun hc => ?_) (fun hc => ?_)
  · have h := ite_t h hc
    refine ww_aload_n C dX3_add_15 rfl 0 rfl ?_
    refine ww_get C inX3 rfl 0 (by decide) tb_1_63 HF_2_0 dX3_add_16 ?_
    refine ww_aload_n C dX3_add_19 rfl 0 rfl ?_
    refine ww_get C inX3 rfl 4 (by decide) tb_1_71 HF_2_4 dX3_add_20 ?_
    refine ww_iload_n C dX3_add_23 rfl 1 rfl ?_
    obtain ⟨hin, h⟩ := h
    refine ww_iast C 0 rfl HU_16 hin dX3_add_24 ?_
    refine ww_nU (wH ad cI cZ) (fun u_1 eu_1 => ?_)
    have h := h u_1 eu_1
    refine ww_aload_n C dX3_add_25 rfl 0 rfl ?_
    refine ww_get C inX3 rfl 1 (by decide) tb_1_65 HF_2_1 dX3_add_26 ?_
    refine ww_aload_n C dX3_add_29 rfl 0 rfl ?_
    refine ww_get C inX3 rfl 4 (by decide) tb_1_71 HF_2_4 dX3_add_30 ?_
    refine ww_iload_n C dX3_add_33 rfl 2 rfl ?_
    obtain ⟨hin, h⟩ := h
    refine ww_iast C 0 rfl HU_17 hin dX3_add_34 ?_
    refine ww_nU (wH ad cI cZ) (fun u_2 eu_2 => ?_)
    have h := h u_2 eu_2
    refine ww_aload_n C dX3_add_35 rfl 0 rfl ?_
    refine ww_get C inX3 rfl 2 (by decide) tb_1_67 HF_2_2 dX3_add_36 ?_
    refine ww_aload_n C dX3_add_39 rfl 0 rfl ?_
    refine ww_get C inX3 rfl 4 (by decide) tb_1_71 HF_2_4 dX3_add_40 ?_
    refine ww_iload_n C dX3_add_43 rfl 3 rfl ?_
    obtain ⟨hin, h⟩ := h
    refine ww_iast C 0 rfl HU_18 hin dX3_add_44 ?_
    refine ww_nU (wH ad cI cZ) (fun u_3 eu_3 => ?_)
    have h := h u_3 eu_3
    refine ww_aload_n C dX3_add_45 rfl 0 rfl ?_
    refine ww_get C inX3 rfl 3 (by decide) tb_1_69 HF_2_3 dX3_add_46 ?_
    refine ww_aload_n C dX3_add_49 rfl 0 rfl ?_
    refine ww_get C inX3 rfl 4 (by decide) tb_1_71 HF_2_4 dX3_add_50 ?_
    refine ww_iload C dX3_add_53 4 rfl ?_
    obtain ⟨hin, h⟩ := h
    refine ww_iast C 0 rfl HU_19 hin dX3_add_55 ?_
    refine ww_nU (wH ad cI cZ) (fun u_4 eu_4 => ?_)
    have h := h u_4 eu_4
    refine ww_aload_n C dX3_add_56 rfl 0 rfl ?_
    refine ww_dup C dX3_add_57 rfl ?_
    refine ww_get C inX3 rfl 4 (by decide) tb_1_71 HF_2_4 dX3_add_58 ?_
    refine ww_iconst (v := 1) C dX3_add_61 (by decide) ?_
    refine ww_iadd C dX3_add_62 ?_
    refine ww_put C inX3 rfl tyX3 tyX3_ok nmX3 4 (by decide) tb_1_71 rfl rfl rfl HS_2_4 dX3_add_63 ?_
    refine ww_nU (wH ad cI cZ) (fun u_5 eu_5 => ?_)
    have h := h u_5 eu_5
    refine ww_aload_n C dX3_add_66 rfl 0 rfl ?_
    refine ww_get C inX3 rfl 4 (by decide) tb_1_71 HF_2_4 dX3_add_67 ?_
    exact ww_iret C h dX3_add_70
  · have h := ite_f h hc
    refine ww_aload_n C dX3_add_10 rfl 0 rfl ?_
    refine ww_get C inX3 rfl 4 (by decide) tb_1_71 HF_2_4 dX3_add_11 ?_
    exact ww_iret C h dX3_add_14
theorem c_X3_add {l : Launch} {D : va_G} {ad : Nat → Nat} {kK kV : Nat → Nat} {cI cZ : ClassId} {N : Nat} {x1 : Int32} {x2 : Int32} {x3 : Int32} {x4 : Int32} {u : UU} {Q : Int32 → UU → Prop} (h : m_X3_add N x1 x2 x3 x4 u Q) : MI l D [(cI, .int), (cZ, .boolean)] (EH kK kV) yX3_add (Cond.code yX3_add cX3_add 5 (some .int)) rm_X3_add [.ref (ad 2), .int x1, .int x2, .int x3, .int x4] (wH ad cI cZ u) (wH ad cI cZ) Q :=
  MI_of (own := RX3) (by decide) rfl (Nat.le_of_ble_eq_true rfl) rfl (fun p e s m args below meth c A C => w_X3_add C h)
theorem hd_X3_add : yX3_add.cls ≠ "java/lang/invoke/MethodHandle" ∧ yX3_add.cls ≠ "java/lang/invoke/VarHandle" ∧ (parseMethodDescriptor yX3_add.desc).map (fun d => d.parameters.length) = some 4 := by decide +kernel
abbrev rm_X11_dent : Room := { frames := 2, cells := 0, slots := 0, locals := 43 }
set_option maxRecDepth 100000 in
theorem w_X11_dent_40 {p : Program} {l : Launch} {e : Env} {s : State} {m : MethodId} {args : Array Value} {below : List Frame} {meth : Method} {c : Code} {A : Nat → Prop} {D : va_G} {ad : Nat → Nat} {kK kV : Nat → Nat} {cI cZ : ClassId} {N : Nat} {Q : Int32 → UU → Prop} (C : Cx p m c cX11_dent 6 s args RX11 meth (some .int) A D [(cI, .int), (cZ, .boolean)] (EH kK kV)) : ∀ {u : UU}, m_X11_dent_40 N  u Q → WW p l e rm_X11_dent s m args below meth c 0 0 (MQ below (QI D A (wH ad cI cZ) Q) args s 0 0 A) A D 6 40 [(0, .ref (ad 0))] [] (wH ad cI cZ u) := by
  intro  u h
  unfold m_X11_dent_40 at h
  refine ww_aload_n C dX11_dent_40 rfl 0 rfl ?_
  refine ww_iconst (v := (-1)) C dX11_dent_41 (by decide) ?_
  refine ww_callVi (As := [.int ((-1) : Int32)]) (rest := []) C EH_ok (c_X11_refused h) tb_2_102 tb_2_104 tbs_0 tb_1_1 tb_2_105 rfl rfl ⟨rfl, hd_X11_refused⟩ ⟨Nat.le_of_ble_eq_true rfl, Nat.le_of_ble_eq_true rfl⟩ rfl HF_0_0 rfl rfl (Nat.le_of_ble_eq_true rfl) dX11_dent_42 ⟨Nat.zero_le _, Nat.zero_le _⟩ (fun r_2 u_1 h => ?_)
  exact ww_iret C h dX11_dent_45
set_option maxRecDepth 100000 in
theorem w_X11_dent {p : Program} {l : Launch} {e : Env} {s : State} {m : MethodId} {args : Array Value} {below : List Frame} {meth : Method} {c : Code} {A : Nat → Prop} {D : va_G} {ad : Nat → Nat} {kK kV : Nat → Nat} {cI cZ : ClassId} {N : Nat} {Q : Int32 → UU → Prop} (C : Cx p m c cX11_dent 6 s args RX11 meth (some .int) A D [(cI, .int), (cZ, .boolean)] (EH kK kV)) : ∀ {x1 : Int32} {x2 : Int32} {x3 : Int32} {x4 : Int32} {x5 : Int32} {u : UU}, m_X11_dent N x1 x2 x3 x4 x5 u Q → WW p l e rm_X11_dent s m args below meth c 0 0 (MQ below (QI D A (wH ad cI cZ) Q) args s 0 0 A) A D 6 0 [(0, .ref (ad 0)), (1, .int x1), (2, .int x2), (3, .int x3), (4, .int x4), (5, .int x5)] [] (wH ad cI cZ u) := by
  intro x1 x2 x3 x4 x5 u h
  unfold m_X11_dent at h
  refine ww_iload_n C dX11_dent_0 rfl 2 rfl ?_
  refine ww_iconst (v := 0) C dX11_dent_1 (by decide) ?_
  refine ww_bipush (v := 9) C dX11_dent_2 (by decide) ?_
  refine ww_callSi (As := [.int x2, .int (0 : Int32), .int (9 : Int32)]) (rest := []) C EH_ok (c_X11_isIn h) tb_2_99 tb_2_100 tb_1_1 tb_2_101 rfl rfl hd_X11_isIn ⟨Nat.le_of_ble_eq_true rfl, Nat.le_of_ble_eq_true rfl⟩ rfl rfl (Nat.le_of_ble_eq_true rfl) dX11_dent_4 ⟨Nat.zero_le _, Nat.zero_le _⟩ (fun r_2 u_1 h => ?_)
  refine ww_if_eq (tgt := 40) C dX11_dent_7 (by decide) (fun hc => ?_) (fun hc => ?_)
  · have h := ite_t h hc
    refine ww_sub [0] rfl ?_
    exact w_X11_dent_40 C h
  · have h := ite_f h hc
    refine ww_iload_n C dX11_dent_10 rfl 3 rfl ?_
    refine ww_iconst (v := 0) C dX11_dent_11 (by decide) ?_
    refine ww_bipush (v := 7) C dX11_dent_12 (by decide) ?_
    refine ww_callSi (As := [.int x3, .int (0 : Int32), .int (7 : Int32)]) (rest := []) C EH_ok (c_X11_isIn h) tb_2_99 tb_2_100 tb_1_1 tb_2_101 rfl rfl hd_X11_isIn ⟨Nat.le_of_ble_eq_true rfl, Nat.le_of_ble_eq_true rfl⟩ rfl rfl (Nat.le_of_ble_eq_true rfl) dX11_dent_14 ⟨Nat.zero_le _, Nat.zero_le _⟩ (fun r_4 u_3 h => ?_)
    refine ww_if_eq (tgt := 40) C dX11_dent_17 (by decide) (fun hc => ?_) (fun hc => ?_)
    · have h := ite_t h hc
      refine ww_sub [0] rfl ?_
      exact w_X11_dent_40 C h
    · have h := ite_f h hc
      refine ww_iload C dX11_dent_20 4 rfl ?_
      refine ww_iconst (v := 1) C dX11_dent_22 (by decide) ?_
      refine ww_sipush (v := 400) C dX11_dent_23 (by decide) ?_
      refine ww_callSi (As := [.int x4, .int (1 : Int32), .int (400 : Int32)]) (rest := []) C EH_ok (c_X11_isIn h) tb_2_99 tb_2_100 tb_1_1 tb_2_101 rfl rfl hd_X11_isIn ⟨Nat.le_of_ble_eq_true rfl, Nat.le_of_ble_eq_true rfl⟩ rfl rfl (Nat.le_of_ble_eq_true rfl) dX11_dent_26 ⟨Nat.zero_le _, Nat.zero_le _⟩ (fun r_6 u_5 h => ?_)
      refine ww_if_eq (tgt := 40) C dX11_dent_29 (by decide) (fun hc => ?_) (fun hc => ?_)
      · have h := ite_t h hc
        refine ww_sub [0] rfl ?_
        exact w_X11_dent_40 C h
      · have h := ite_f h hc
        refine ww_iload C dX11_dent_32 5 rfl ?_
        refine ww_callSi (As := [.int x5]) (rest := []) C EH_ok (c_X11_isHour h) tb_2_118 tb_2_119 tb_1_1 tb_2_120 rfl rfl hd_X11_isHour ⟨Nat.le_of_ble_eq_true rfl, Nat.le_of_ble_eq_true rfl⟩ rfl rfl (Nat.le_of_ble_eq_true rfl) dX11_dent_34 ⟨Nat.zero_le _, Nat.zero_le _⟩ (fun r_8 u_7 h => ?_)
        refine ww_if_ne (tgt := 46) C dX11_dent_37 (by decide) (fun hc => ?_) (fun hc => ?_)
        · have h := ite_f h hc
          refine ww_aload_n C dX11_dent_46 rfl 0 rfl ?_
          refine ww_get C inX11 rfl 0 (by decide) tb_2_49 HF_0_0 dX11_dent_47 ?_
          refine ww_iload_n C dX11_dent_50 rfl 1 rfl ?_
          refine ww_callVi (As := [.int x1]) (rest := []) C EH_ok (c_X0_has h) tb_2_121 tb_2_122 tb_2_123 tb_1_2 tb_2_124 rfl rfl ⟨rfl, hd_X0_has⟩ ⟨Nat.le_of_ble_eq_true rfl, Nat.le_of_ble_eq_true rfl⟩ rfl HF_1_0 rfl rfl (Nat.le_of_ble_eq_true rfl) dX11_dent_51 ⟨Nat.zero_le _, Nat.zero_le _⟩ (fun r_10 u_9 h => ?_)
          refine ww_if_ne (tgt := 64) C dX11_dent_54 (by decide) (fun hc => ?_) (fun hc => ?_)
          · have h := ite_f h hc
            refine ww_aload_n C dX11_dent_64 rfl 0 rfl ?_
            refine ww_get C inX11 rfl 1 (by decide) tb_2_50 HF_0_1 dX11_dent_65 ?_
            refine ww_get C inX3 rfl 4 (by decide) tb_1_72 HF_2_4 dX11_dent_68 ?_
            refine ww_sipush (v := 300) C dX11_dent_71 (by decide) ?_
            refine ww_icmp_lt (tgt := 84) C dX11_dent_74 (by decide) (fun hc => ?_) (fun hc => ?_)
            · have h := ite_t h hc
              refine ww_aload_n C dX11_dent_84 rfl 0 rfl ?_
              refine ww_get C inX11 rfl 3 (by decide) tb_2_52 HF_0_3 dX11_dent_85 ?_
              refine ww_callVv (As := []) (rest := []) C EH_ok (c_X10_forget h) tb_2_126 tb_2_127 tb_2_128 tb_1_5 tb_2_129 rfl rfl ⟨rfl, hd_X10_forget⟩ ⟨Nat.le_of_ble_eq_true rfl, Nat.le_of_ble_eq_true rfl⟩ rfl HF_4_0 rfl rfl (Nat.le_of_ble_eq_true rfl) dX11_dent_88 ⟨Nat.zero_le _, Nat.zero_le _⟩ (fun u_11 h => ?_)
              refine ww_aload_n C dX11_dent_91 rfl 0 rfl ?_
              refine ww_aload_n C dX11_dent_92 rfl 0 rfl ?_
              refine ww_get C inX11 rfl 1 (by decide) tb_2_50 HF_0_1 dX11_dent_93 ?_
              refine ww_iload_n C dX11_dent_96 rfl 1 rfl ?_
              refine ww_bipush (v := 10) C dX11_dent_97 (by decide) ?_
              refine ww_imul C dX11_dent_99 ?_
              refine ww_iload_n C dX11_dent_100 rfl 2 rfl ?_
              refine ww_iadd C dX11_dent_101 ?_
              refine ww_iload_n C dX11_dent_102 rfl 3 rfl ?_
              refine ww_iload C dX11_dent_103 4 rfl ?_
              refine ww_iload C dX11_dent_105 5 rfl ?_
              refine ww_callVi (As := [.int ((x1 * (10 : Int32)) + x2), .int x3, .int x4, .int x5]) (rest := [.ref (ad 0)]) C EH_ok (c_X3_add h) tb_2_130 tb_2_131 tb_2_132 tb_1_3 tb_2_133 rfl rfl ⟨rfl, hd_X3_add⟩ ⟨Nat.le_of_ble_eq_true rfl, Nat.le_of_ble_eq_true rfl⟩ rfl HF_2_0 rfl rfl (Nat.le_of_ble_eq_true rfl) dX11_dent_107 ⟨Nat.zero_le _, Nat.zero_le _⟩ (fun r_14 u_13 h => ?_)
              refine ww_callVi (As := [.int r_14]) (rest := []) C EH_ok (c_X11_taken h) tb_2_110 tb_2_112 tbs_1 tb_1_1 tb_2_113 rfl rfl ⟨rfl, hd_X11_taken⟩ ⟨Nat.le_of_ble_eq_true rfl, Nat.le_of_ble_eq_true rfl⟩ rfl HF_0_0 rfl rfl (Nat.le_of_ble_eq_true rfl) dX11_dent_110 ⟨Nat.zero_le _, Nat.zero_le _⟩ (fun r_16 u_15 h => ?_)
              exact ww_iret C h dX11_dent_113
            · have h := ite_f h hc
              refine ww_aload_n C dX11_dent_77 rfl 0 rfl ?_
              refine ww_bipush (v := (-5)) C dX11_dent_78 (by decide) ?_
              refine ww_callVi (As := [.int ((-5) : Int32)]) (rest := []) C EH_ok (c_X11_refused h) tb_2_102 tb_2_104 tbs_0 tb_1_1 tb_2_105 rfl rfl ⟨rfl, hd_X11_refused⟩ ⟨Nat.le_of_ble_eq_true rfl, Nat.le_of_ble_eq_true rfl⟩ rfl HF_0_0 rfl rfl (Nat.le_of_ble_eq_true rfl) dX11_dent_80 ⟨Nat.zero_le _, Nat.zero_le _⟩ (fun r_18 u_17 h => ?_)
              exact ww_iret C h dX11_dent_83
          · have h := ite_t h hc
            refine ww_aload_n C dX11_dent_57 rfl 0 rfl ?_
            refine ww_bipush (v := (-2)) C dX11_dent_58 (by decide) ?_
            refine ww_callVi (As := [.int ((-2) : Int32)]) (rest := []) C EH_ok (c_X11_refused h) tb_2_102 tb_2_104 tbs_0 tb_1_1 tb_2_105 rfl rfl ⟨rfl, hd_X11_refused⟩ ⟨Nat.le_of_ble_eq_true rfl, Nat.le_of_ble_eq_true rfl⟩ rfl HF_0_0 rfl rfl (Nat.le_of_ble_eq_true rfl) dX11_dent_60 ⟨Nat.zero_le _, Nat.zero_le _⟩ (fun r_20 u_19 h => ?_)
            exact ww_iret C h dX11_dent_63
        · have h := ite_t h hc
          refine ww_sub [0] rfl ?_
          exact w_X11_dent_40 C h
theorem c_X11_dent {l : Launch} {D : va_G} {ad : Nat → Nat} {kK kV : Nat → Nat} {cI cZ : ClassId} {N : Nat} {x1 : Int32} {x2 : Int32} {x3 : Int32} {x4 : Int32} {x5 : Int32} {u : UU} {Q : Int32 → UU → Prop} (h : m_X11_dent N x1 x2 x3 x4 x5 u Q) : MI l D [(cI, .int), (cZ, .boolean)] (EH kK kV) yX11_dent (Cond.code yX11_dent cX11_dent 6 (some .int)) rm_X11_dent [.ref (ad 0), .int x1, .int x2, .int x3, .int x4, .int x5] (wH ad cI cZ u) (wH ad cI cZ) Q :=
  MI_of (own := RX11) (by decide) rfl (Nat.le_of_ble_eq_true rfl) rfl (fun p e s m args below meth c A C => w_X11_dent C h)
theorem hd_X11_dent : yX11_dent.cls ≠ "java/lang/invoke/MethodHandle" ∧ yX11_dent.cls ≠ "java/lang/invoke/VarHandle" ∧ (parseMethodDescriptor yX11_dent.desc).map (fun d => d.parameters.length) = some 5 := by decide +kernel
abbrev rm_X0_makeClear : Room := { frames := 2, cells := 0, slots := 0, locals := 43 }
set_option maxRecDepth 100000 in
theorem w_X0_makeClear {p : Program} {l : Launch} {e : Env} {s : State} {m : MethodId} {args : Array Value} {below : List Frame} {meth : Method} {c : Code} {A : Nat → Prop} {D : va_G} {ad : Nat → Nat} {kK kV : Nat → Nat} {cI cZ : ClassId} {N : Nat} {Q : UU → Prop} (C : Cx p m c cX0_makeClear 3 s args RX0 meth none A D [(cI, .int), (cZ, .boolean)] (EH kK kV)) : ∀ {x1 : Int32} {x2 : Int32} {u : UU}, m_X0_makeClear N x1 x2 u Q → WW p l e rm_X0_makeClear s m args below meth c 0 0 (MQ below (QV D A (wH ad cI cZ) Q) args s 0 0 A) A D 3 0 [(0, .ref (ad 1)), (1, .int x1), (2, .int x2)] [] (wH ad cI cZ u) := by
  intro x1 x2 u h
  unfold m_X0_makeClear at h
  refine ww_aload_n C dX0_makeClear_0 rfl 0 rfl ?_
  refine ww_iload_n C dX0_makeClear_1 rfl 1 rfl ?_
  refine ww_callVi (As := [.int x1]) (rest := []) C EH_ok (c_X0_has h) tb_2_142 tb_2_122 tb_2_123 tb_1_2 tb_2_124 rfl rfl ⟨rfl, hd_X0_has⟩ ⟨Nat.le_of_ble_eq_true rfl, Nat.le_of_ble_eq_true rfl⟩ rfl HF_1_0 rfl rfl (Nat.le_of_ble_eq_true rfl) dX0_makeClear_2 ⟨Nat.zero_le _, Nat.zero_le _⟩ (fun r_2 u_1 h => ?_)
  refine ww_if_eq (tgt := 24) C dX0_makeClear_5 (by decide) (fun hc => ?_) (fun hc => ?_)
  · have h := ite_t h hc
    exact ww_vret C h dX0_makeClear_24
  · have h := ite_f h hc
    refine ww_aload_n C dX0_makeClear_8 rfl 0 rfl ?_
    refine ww_get C inX0 rfl 2 (by decide) tb_1_40 HF_1_2 dX0_makeClear_9 ?_
    refine ww_iload_n C dX0_makeClear_12 rfl 1 rfl ?_
    refine ww_aload_n C dX0_makeClear_13 rfl 0 rfl ?_
    refine ww_get C inX0 rfl 2 (by decide) tb_1_40 HF_1_2 dX0_makeClear_14 ?_
    refine ww_iload_n C dX0_makeClear_17 rfl 1 rfl ?_
    obtain ⟨hin, h⟩ := h
    refine ww_iald C 0 rfl HA_15 hin dX0_makeClear_18 ?_
    refine ww_iload_n C dX0_makeClear_19 rfl 2 rfl ?_
    refine ww_mmin C tb_2_143 tb_2_144 tb_1_14 tb_2_145 ⟨Nat.le_of_ble_eq_true rfl, Nat.le_of_ble_eq_true rfl⟩ ⟨Nat.zero_le _, Nat.zero_le _⟩ dX0_makeClear_20 ?_
    obtain ⟨hin, h⟩ := h
    refine ww_iast C 0 rfl HU_15 hin dX0_makeClear_23 ?_
    refine ww_nU (wH ad cI cZ) (fun u_3 eu_3 => ?_)
    have h := h u_3 eu_3
    exact ww_vret C h dX0_makeClear_24
theorem c_X0_makeClear {l : Launch} {D : va_G} {ad : Nat → Nat} {kK kV : Nat → Nat} {cI cZ : ClassId} {N : Nat} {x1 : Int32} {x2 : Int32} {u : UU} {Q : UU → Prop} (h : m_X0_makeClear N x1 x2 u Q) : MV l D [(cI, .int), (cZ, .boolean)] (EH kK kV) yX0_makeClear (Cond.code yX0_makeClear cX0_makeClear 3 none) rm_X0_makeClear [.ref (ad 1), .int x1, .int x2] (wH ad cI cZ u) (wH ad cI cZ) Q 0 0 :=
  MV_of (own := RX0) (by decide) rfl (Nat.le_of_ble_eq_true rfl) rfl (fun p e s m args below meth c A C => w_X0_makeClear C h)
theorem hd_X0_makeClear : yX0_makeClear.cls ≠ "java/lang/invoke/MethodHandle" ∧ yX0_makeClear.cls ≠ "java/lang/invoke/VarHandle" ∧ (parseMethodDescriptor yX0_makeClear.desc).map (fun d => d.parameters.length) = some 2 := by decide +kernel
abbrev rm_X11_clear : Room := { frames := 3, cells := 0, slots := 0, locals := 65 }
set_option maxRecDepth 100000 in
theorem w_X11_clear {p : Program} {l : Launch} {e : Env} {s : State} {m : MethodId} {args : Array Value} {below : List Frame} {meth : Method} {c : Code} {A : Nat → Prop} {D : va_G} {ad : Nat → Nat} {kK kV : Nat → Nat} {cI cZ : ClassId} {N : Nat} {Q : Int32 → UU → Prop} (C : Cx p m c cX11_clear 3 s args RX11 meth (some .int) A D [(cI, .int), (cZ, .boolean)] (EH kK kV)) : ∀ {x1 : Int32} {x2 : Int32} {u : UU}, m_X11_clear N x1 x2 u Q → WW p l e rm_X11_clear s m args below meth c 0 0 (MQ below (QI D A (wH ad cI cZ) Q) args s 0 0 A) A D 3 0 [(0, .ref (ad 0)), (1, .int x1), (2, .int x2)] [] (wH ad cI cZ u) := by
  intro x1 x2 u h
  unfold m_X11_clear at h
  refine ww_iload_n C dX11_clear_0 rfl 2 rfl ?_
  refine ww_callSi (As := [.int x2]) (rest := []) C EH_ok (c_X11_isHour h) tb_2_118 tb_2_119 tb_1_1 tb_2_120 rfl rfl hd_X11_isHour ⟨Nat.le_of_ble_eq_true rfl, Nat.le_of_ble_eq_true rfl⟩ rfl rfl (Nat.le_of_ble_eq_true rfl) dX11_clear_1 ⟨Nat.zero_le _, Nat.zero_le _⟩ (fun r_2 u_1 h => ?_)
  refine ww_if_ne (tgt := 13) C dX11_clear_4 (by decide) (fun hc => ?_) (fun hc => ?_)
  · have h := ite_f h hc
    refine ww_aload_n C dX11_clear_13 rfl 0 rfl ?_
    refine ww_get C inX11 rfl 0 (by decide) tb_2_49 HF_0_0 dX11_clear_14 ?_
    refine ww_iload_n C dX11_clear_17 rfl 1 rfl ?_
    refine ww_callVi (As := [.int x1]) (rest := []) C EH_ok (c_X0_has h) tb_2_121 tb_2_122 tb_2_123 tb_1_2 tb_2_124 rfl rfl ⟨rfl, hd_X0_has⟩ ⟨Nat.le_of_ble_eq_true rfl, Nat.le_of_ble_eq_true rfl⟩ rfl HF_1_0 rfl rfl (Nat.le_of_ble_eq_true rfl) dX11_clear_18 ⟨Nat.zero_le _, Nat.zero_le _⟩ (fun r_4 u_3 h => ?_)
    refine ww_if_ne (tgt := 31) C dX11_clear_21 (by decide) (fun hc => ?_) (fun hc => ?_)
    · have h := ite_f h hc
      refine ww_aload_n C dX11_clear_31 rfl 0 rfl ?_
      refine ww_get C inX11 rfl 0 (by decide) tb_2_49 HF_0_0 dX11_clear_32 ?_
      refine ww_iload_n C dX11_clear_35 rfl 1 rfl ?_
      refine ww_iload_n C dX11_clear_36 rfl 2 rfl ?_
      refine ww_callVv (As := [.int x1, .int x2]) (rest := []) C EH_ok (c_X0_makeClear h) tb_2_138 tb_2_139 tb_2_140 tb_1_2 tb_2_141 rfl rfl ⟨rfl, hd_X0_makeClear⟩ ⟨Nat.le_of_ble_eq_true rfl, Nat.le_of_ble_eq_true rfl⟩ rfl HF_1_0 rfl rfl (Nat.le_of_ble_eq_true rfl) dX11_clear_37 ⟨Nat.zero_le _, Nat.zero_le _⟩ (fun u_5 h => ?_)
      refine ww_aload_n C dX11_clear_40 rfl 0 rfl ?_
      refine ww_iconst (v := 0) C dX11_clear_41 (by decide) ?_
      refine ww_callVi (As := [.int (0 : Int32)]) (rest := []) C EH_ok (c_X11_taken h) tb_2_110 tb_2_112 tbs_1 tb_1_1 tb_2_113 rfl rfl ⟨rfl, hd_X11_taken⟩ ⟨Nat.le_of_ble_eq_true rfl, Nat.le_of_ble_eq_true rfl⟩ rfl HF_0_0 rfl rfl (Nat.le_of_ble_eq_true rfl) dX11_clear_42 ⟨Nat.zero_le _, Nat.zero_le _⟩ (fun r_8 u_7 h => ?_)
      exact ww_iret C h dX11_clear_45
    · have h := ite_t h hc
      refine ww_aload_n C dX11_clear_24 rfl 0 rfl ?_
      refine ww_bipush (v := (-2)) C dX11_clear_25 (by decide) ?_
      refine ww_callVi (As := [.int ((-2) : Int32)]) (rest := []) C EH_ok (c_X11_refused h) tb_2_102 tb_2_104 tbs_0 tb_1_1 tb_2_105 rfl rfl ⟨rfl, hd_X11_refused⟩ ⟨Nat.le_of_ble_eq_true rfl, Nat.le_of_ble_eq_true rfl⟩ rfl HF_0_0 rfl rfl (Nat.le_of_ble_eq_true rfl) dX11_clear_27 ⟨Nat.zero_le _, Nat.zero_le _⟩ (fun r_10 u_9 h => ?_)
      exact ww_iret C h dX11_clear_30
  · have h := ite_t h hc
    refine ww_aload_n C dX11_clear_7 rfl 0 rfl ?_
    refine ww_iconst (v := (-1)) C dX11_clear_8 (by decide) ?_
    refine ww_callVi (As := [.int ((-1) : Int32)]) (rest := []) C EH_ok (c_X11_refused h) tb_2_102 tb_2_104 tbs_0 tb_1_1 tb_2_105 rfl rfl ⟨rfl, hd_X11_refused⟩ ⟨Nat.le_of_ble_eq_true rfl, Nat.le_of_ble_eq_true rfl⟩ rfl HF_0_0 rfl rfl (Nat.le_of_ble_eq_true rfl) dX11_clear_9 ⟨Nat.zero_le _, Nat.zero_le _⟩ (fun r_12 u_11 h => ?_)
    exact ww_iret C h dX11_clear_12
theorem c_X11_clear {l : Launch} {D : va_G} {ad : Nat → Nat} {kK kV : Nat → Nat} {cI cZ : ClassId} {N : Nat} {x1 : Int32} {x2 : Int32} {u : UU} {Q : Int32 → UU → Prop} (h : m_X11_clear N x1 x2 u Q) : MI l D [(cI, .int), (cZ, .boolean)] (EH kK kV) yX11_clear (Cond.code yX11_clear cX11_clear 3 (some .int)) rm_X11_clear [.ref (ad 0), .int x1, .int x2] (wH ad cI cZ u) (wH ad cI cZ) Q :=
  MI_of (own := RX11) (by decide) rfl (Nat.le_of_ble_eq_true rfl) rfl (fun p e s m args below meth c A C => w_X11_clear C h)
theorem hd_X11_clear : yX11_clear.cls ≠ "java/lang/invoke/MethodHandle" ∧ yX11_clear.cls ≠ "java/lang/invoke/VarHandle" ∧ (parseMethodDescriptor yX11_clear.desc).map (fun d => d.parameters.length) = some 2 := by decide +kernel
abbrev rm_X11_isSize : Room := { frames := 1, cells := 0, slots := 0, locals := 22 }
set_option maxRecDepth 100000 in
theorem w_X11_isSize {p : Program} {l : Launch} {e : Env} {s : State} {m : MethodId} {args : Array Value} {below : List Frame} {meth : Method} {c : Code} {A : Nat → Prop} {D : va_G} {ad : Nat → Nat} {kK kV : Nat → Nat} {cI cZ : ClassId} {N : Nat} {Q : Int32 → UU → Prop} (C : Cx p m c cX11_isSize 1 s args RX11 meth (some .boolean) A D [(cI, .int), (cZ, .boolean)] (EH kK kV)) : ∀ {x0 : Int32} {u : UU}, m_X11_isSize N x0 u Q → WW p l e rm_X11_isSize s m args below meth c 0 0 (MQ below (QI D A (wH ad cI cZ) Q) args s 0 0 A) A D 1 0 [(0, .int x0)] [] (wH ad cI cZ u) := by
  intro x0 u h
  unfold m_X11_isSize at h
  refine ww_iload_n C dX11_isSize_0 rfl 0 rfl ?_
  refine ww_iconst (v := 0) C dX11_isSize_1 (by decide) ?_
  refine ww_bipush (v := 100) C dX11_isSize_2 (by decide) ?_
  refine ww_callSi (As := [.int x0, .int (0 : Int32), .int (100 : Int32)]) (rest := []) C EH_ok (c_X11_isIn h) tb_2_99 tb_2_100 tb_1_1 tb_2_101 rfl rfl hd_X11_isIn ⟨Nat.le_of_ble_eq_true rfl, Nat.le_of_ble_eq_true rfl⟩ rfl rfl (Nat.le_of_ble_eq_true rfl) dX11_isSize_4 ⟨Nat.zero_le _, Nat.zero_le _⟩ (fun r_2 u_1 h => ?_)
  exact ww_zret C h.1 h.2 dX11_isSize_7
theorem c_X11_isSize {l : Launch} {D : va_G} {ad : Nat → Nat} {kK kV : Nat → Nat} {cI cZ : ClassId} {N : Nat} {x0 : Int32} {u : UU} {Q : Int32 → UU → Prop} (h : m_X11_isSize N x0 u Q) : MI l D [(cI, .int), (cZ, .boolean)] (EH kK kV) yX11_isSize (Cond.code yX11_isSize cX11_isSize 1 (some .boolean)) rm_X11_isSize [.int x0] (wH ad cI cZ u) (wH ad cI cZ) Q :=
  MI_of (own := RX11) (by decide) rfl (Nat.le_of_ble_eq_true rfl) rfl (fun p e s m args below meth c A C => w_X11_isSize C h)
theorem hd_X11_isSize : yX11_isSize.cls ≠ "java/lang/invoke/MethodHandle" ∧ yX11_isSize.cls ≠ "java/lang/invoke/VarHandle" ∧ (parseMethodDescriptor yX11_isSize.desc).map (fun d => d.parameters.length) = some 1 := by decide +kernel
abbrev rm_X7_put : Room := { frames := 1, cells := 0, slots := 0, locals := 22 }
set_option maxRecDepth 100000 in
theorem w_X7_put {p : Program} {l : Launch} {e : Env} {s : State} {m : MethodId} {args : Array Value} {below : List Frame} {meth : Method} {c : Code} {A : Nat → Prop} {D : va_G} {ad : Nat → Nat} {kK kV : Nat → Nat} {cI cZ : ClassId} {N : Nat} {Q : UU → Prop} (C : Cx p m c cX7_put 4 s args RX7 meth none A D [(cI, .int), (cZ, .boolean)] (EH kK kV)) : ∀ {x1 : Int32} {x2 : Int32} {x3 : Int32} {u : UU}, m_X7_put N x1 x2 x3 u Q → WW p l e rm_X7_put s m args below meth c 0 0 (MQ below (QV D A (wH ad cI cZ) Q) args s 0 0 A) A D 4 0 [(0, .ref (ad 3)), (1, .int x1), (2, .int x2), (3, .int x3)] [] (wH ad cI cZ u) := by
  intro x1 x2 x3 u h
  unfold m_X7_put at h
  refine ww_iload_n C dX7_put_0 rfl 1 rfl ?_
  refine ww_iconst (v := 0) C dX7_put_1 (by decide) ?_
  refine ww_bipush (v := 7) C dX7_put_2 (by decide) ?_
  refine ww_callSNi (As := [.int x1, .int (0 : Int32), .int (7 : Int32)]) (rest := []) C EH_ok (c_X11_isIn h) (C.2.2.2.2.1.1 _ (List.mem_of_getElem? (i := 8) rfl)) tb_1_1 tb_2_100 tb_2_101 rfl rfl hd_X11_isIn ⟨Nat.le_of_ble_eq_true rfl, Nat.le_of_ble_eq_true rfl⟩ rfl rfl (Nat.le_of_ble_eq_true rfl) dX7_put_4 ⟨Nat.zero_le _, Nat.zero_le _⟩ (fun r_2 u_1 h => ?_)
  refine ww_if_eq (tgt := 24) C dX7_put_7 (by decide) (fun hc => ?_) (fun hc => ?_)
  · have h := ite_t h hc
    exact ww_vret C h dX7_put_24
  · have h := ite_f h hc
    refine ww_aload_n C dX7_put_10 rfl 0 rfl ?_
    refine ww_get C inX7 rfl 0 (by decide) tb_1_91 HF_3_0 dX7_put_11 ?_
    refine ww_iload_n C dX7_put_14 rfl 1 rfl ?_
    refine ww_iload_n C dX7_put_15 rfl 2 rfl ?_
    obtain ⟨hin, h⟩ := h
    refine ww_iast C 0 rfl HU_20 hin dX7_put_16 ?_
    refine ww_nU (wH ad cI cZ) (fun u_3 eu_3 => ?_)
    have h := h u_3 eu_3
    refine ww_aload_n C dX7_put_17 rfl 0 rfl ?_
    refine ww_get C inX7 rfl 1 (by decide) tb_1_92 HF_3_1 dX7_put_18 ?_
    refine ww_iload_n C dX7_put_21 rfl 1 rfl ?_
    refine ww_iload_n C dX7_put_22 rfl 3 rfl ?_
    obtain ⟨hin, h⟩ := h
    refine ww_iast C 0 rfl HU_21 hin dX7_put_23 ?_
    refine ww_nU (wH ad cI cZ) (fun u_4 eu_4 => ?_)
    have h := h u_4 eu_4
    exact ww_vret C h dX7_put_24
theorem c_X7_put {l : Launch} {D : va_G} {ad : Nat → Nat} {kK kV : Nat → Nat} {cI cZ : ClassId} {N : Nat} {x1 : Int32} {x2 : Int32} {x3 : Int32} {u : UU} {Q : UU → Prop} (h : m_X7_put N x1 x2 x3 u Q) : MV l D [(cI, .int), (cZ, .boolean)] (EH kK kV) yX7_put (Cond.code yX7_put cX7_put 4 none) rm_X7_put [.ref (ad 3), .int x1, .int x2, .int x3] (wH ad cI cZ u) (wH ad cI cZ) Q 0 0 :=
  MV_of (own := RX7) (by decide) rfl (Nat.le_of_ble_eq_true rfl) rfl (fun p e s m args below meth c A C => w_X7_put C h)
theorem hd_X7_put : yX7_put.cls ≠ "java/lang/invoke/MethodHandle" ∧ yX7_put.cls ≠ "java/lang/invoke/VarHandle" ∧ (parseMethodDescriptor yX7_put.desc).map (fun d => d.parameters.length) = some 3 := by decide +kernel
abbrev rm_X11_table : Room := { frames := 2, cells := 0, slots := 0, locals := 45 }
set_option maxRecDepth 100000 in
theorem w_X11_table_28 {p : Program} {l : Launch} {e : Env} {s : State} {m : MethodId} {args : Array Value} {below : List Frame} {meth : Method} {c : Code} {A : Nat → Prop} {D : va_G} {ad : Nat → Nat} {kK kV : Nat → Nat} {cI cZ : ClassId} {N : Nat} {Q : Int32 → UU → Prop} (C : Cx p m c cX11_table 4 s args RX11 meth (some .int) A D [(cI, .int), (cZ, .boolean)] (EH kK kV)) : ∀ {u : UU}, m_X11_table_28 N  u Q → WW p l e rm_X11_table s m args below meth c 0 0 (MQ below (QI D A (wH ad cI cZ) Q) args s 0 0 A) A D 4 28 [(0, .ref (ad 0))] [] (wH ad cI cZ u) := by
  intro  u h
  unfold m_X11_table_28 at h
  refine ww_aload_n C dX11_table_28 rfl 0 rfl ?_
  refine ww_iconst (v := (-1)) C dX11_table_29 (by decide) ?_
  refine ww_callVi (As := [.int ((-1) : Int32)]) (rest := []) C EH_ok (c_X11_refused h) tb_2_102 tb_2_104 tbs_0 tb_1_1 tb_2_105 rfl rfl ⟨rfl, hd_X11_refused⟩ ⟨Nat.le_of_ble_eq_true rfl, Nat.le_of_ble_eq_true rfl⟩ rfl HF_0_0 rfl rfl (Nat.le_of_ble_eq_true rfl) dX11_table_30 ⟨Nat.zero_le _, Nat.zero_le _⟩ (fun r_2 u_1 h => ?_)
  exact ww_iret C h dX11_table_33
set_option maxRecDepth 100000 in
theorem w_X11_table {p : Program} {l : Launch} {e : Env} {s : State} {m : MethodId} {args : Array Value} {below : List Frame} {meth : Method} {c : Code} {A : Nat → Prop} {D : va_G} {ad : Nat → Nat} {kK kV : Nat → Nat} {cI cZ : ClassId} {N : Nat} {Q : Int32 → UU → Prop} (C : Cx p m c cX11_table 4 s args RX11 meth (some .int) A D [(cI, .int), (cZ, .boolean)] (EH kK kV)) : ∀ {x1 : Int32} {x2 : Int32} {x3 : Int32} {u : UU}, m_X11_table N x1 x2 x3 u Q → WW p l e rm_X11_table s m args below meth c 0 0 (MQ below (QI D A (wH ad cI cZ) Q) args s 0 0 A) A D 4 0 [(0, .ref (ad 0)), (1, .int x1), (2, .int x2), (3, .int x3)] [] (wH ad cI cZ u) := by
  intro x1 x2 x3 u h
  unfold m_X11_table at h
  refine ww_iload_n C dX11_table_0 rfl 1 rfl ?_
  refine ww_iconst (v := 0) C dX11_table_1 (by decide) ?_
  refine ww_bipush (v := 7) C dX11_table_2 (by decide) ?_
  refine ww_callSi (As := [.int x1, .int (0 : Int32), .int (7 : Int32)]) (rest := []) C EH_ok (c_X11_isIn h) tb_2_99 tb_2_100 tb_1_1 tb_2_101 rfl rfl hd_X11_isIn ⟨Nat.le_of_ble_eq_true rfl, Nat.le_of_ble_eq_true rfl⟩ rfl rfl (Nat.le_of_ble_eq_true rfl) dX11_table_4 ⟨Nat.zero_le _, Nat.zero_le _⟩ (fun r_2 u_1 h => ?_)
  refine ww_if_eq (tgt := 28) C dX11_table_7 (by decide) (fun hc => ?_) (fun hc => ?_)
  · have h := ite_t h hc
    refine ww_sub [0] rfl ?_
    exact w_X11_table_28 C h
  · have h := ite_f h hc
    refine ww_iload_n C dX11_table_10 rfl 2 rfl ?_
    refine ww_iconst (v := 0) C dX11_table_11 (by decide) ?_
    refine ww_sipush (v := 400) C dX11_table_12 (by decide) ?_
    refine ww_callSi (As := [.int x2, .int (0 : Int32), .int (400 : Int32)]) (rest := []) C EH_ok (c_X11_isIn h) tb_2_99 tb_2_100 tb_1_1 tb_2_101 rfl rfl hd_X11_isIn ⟨Nat.le_of_ble_eq_true rfl, Nat.le_of_ble_eq_true rfl⟩ rfl rfl (Nat.le_of_ble_eq_true rfl) dX11_table_15 ⟨Nat.zero_le _, Nat.zero_le _⟩ (fun r_4 u_3 h => ?_)
    refine ww_if_eq (tgt := 28) C dX11_table_18 (by decide) (fun hc => ?_) (fun hc => ?_)
    · have h := ite_t h hc
      refine ww_sub [0] rfl ?_
      exact w_X11_table_28 C h
    · have h := ite_f h hc
      refine ww_iload_n C dX11_table_21 rfl 3 rfl ?_
      refine ww_callSi (As := [.int x3]) (rest := []) C EH_ok (c_X11_isSize h) tb_2_150 tb_2_151 tb_1_1 tb_2_152 rfl rfl hd_X11_isSize ⟨Nat.le_of_ble_eq_true rfl, Nat.le_of_ble_eq_true rfl⟩ rfl rfl (Nat.le_of_ble_eq_true rfl) dX11_table_22 ⟨Nat.zero_le _, Nat.zero_le _⟩ (fun r_6 u_5 h => ?_)
      refine ww_if_ne (tgt := 34) C dX11_table_25 (by decide) (fun hc => ?_) (fun hc => ?_)
      · have h := ite_f h hc
        refine ww_aload_n C dX11_table_34 rfl 0 rfl ?_
        refine ww_get C inX11 rfl 2 (by decide) tb_2_51 HF_0_2 dX11_table_35 ?_
        refine ww_iload_n C dX11_table_38 rfl 1 rfl ?_
        refine ww_iload_n C dX11_table_39 rfl 2 rfl ?_
        refine ww_iload_n C dX11_table_40 rfl 3 rfl ?_
        refine ww_callVv (As := [.int x1, .int x2, .int x3]) (rest := []) C EH_ok (c_X7_put h) tb_2_153 tb_2_154 tb_2_155 tb_1_4 tb_2_156 rfl rfl ⟨rfl, hd_X7_put⟩ ⟨Nat.le_of_ble_eq_true rfl, Nat.le_of_ble_eq_true rfl⟩ rfl HF_3_0 rfl rfl (Nat.le_of_ble_eq_true rfl) dX11_table_41 ⟨Nat.zero_le _, Nat.zero_le _⟩ (fun u_7 h => ?_)
        refine ww_aload_n C dX11_table_44 rfl 0 rfl ?_
        refine ww_iconst (v := 0) C dX11_table_45 (by decide) ?_
        refine ww_callVi (As := [.int (0 : Int32)]) (rest := []) C EH_ok (c_X11_taken h) tb_2_110 tb_2_112 tbs_1 tb_1_1 tb_2_113 rfl rfl ⟨rfl, hd_X11_taken⟩ ⟨Nat.le_of_ble_eq_true rfl, Nat.le_of_ble_eq_true rfl⟩ rfl HF_0_0 rfl rfl (Nat.le_of_ble_eq_true rfl) dX11_table_46 ⟨Nat.zero_le _, Nat.zero_le _⟩ (fun r_10 u_9 h => ?_)
        exact ww_iret C h dX11_table_49
      · have h := ite_t h hc
        refine ww_sub [0] rfl ?_
        exact w_X11_table_28 C h
theorem c_X11_table {l : Launch} {D : va_G} {ad : Nat → Nat} {kK kV : Nat → Nat} {cI cZ : ClassId} {N : Nat} {x1 : Int32} {x2 : Int32} {x3 : Int32} {u : UU} {Q : Int32 → UU → Prop} (h : m_X11_table N x1 x2 x3 u Q) : MI l D [(cI, .int), (cZ, .boolean)] (EH kK kV) yX11_table (Cond.code yX11_table cX11_table 4 (some .int)) rm_X11_table [.ref (ad 0), .int x1, .int x2, .int x3] (wH ad cI cZ u) (wH ad cI cZ) Q :=
  MI_of (own := RX11) (by decide) rfl (Nat.le_of_ble_eq_true rfl) rfl (fun p e s m args below meth c A C => w_X11_table C h)
theorem hd_X11_table : yX11_table.cls ≠ "java/lang/invoke/MethodHandle" ∧ yX11_table.cls ≠ "java/lang/invoke/VarHandle" ∧ (parseMethodDescriptor yX11_table.desc).map (fun d => d.parameters.length) = some 3 := by decide +kernel
abbrev rm_X10_middleOfRow : Room := { frames := 1, cells := 0, slots := 0, locals := 22 }
set_option maxRecDepth 100000 in
theorem w_X10_middleOfRow_70 {p : Program} {l : Launch} {e : Env} {s : State} {m : MethodId} {args : Array Value} {below : List Frame} {meth : Method} {c : Code} {A : Nat → Prop} {D : va_G} {ad : Nat → Nat} {kK kV : Nat → Nat} {cI cZ : ClassId} {N : Nat} {Q : Int32 → UU → Prop} {k15 : Int32 → Int32 → UU → Prop} (C : Cx p m c cX10_middleOfRow 5 s args RX10 meth (some .int) A D [(cI, .int), (cZ, .boolean)] (EH kK kV)) (hk15 : ∀ (x1 : Int32) (x2 : Int32) (u : UU), k15 x1 x2 u → WW p l e rm_X10_middleOfRow s m args below meth c 0 0 (MQ below (QI D A (wH ad cI cZ) Q) args s 0 0 A) A D 5 15 [(0, .ref (ad 4)), (1, .int x1), (2, .int x2)] [] (wH ad cI cZ u)) : ∀ {x1 : Int32} {x2 : Int32} {x3 : Int32} {x4 : Int32} {u : UU}, m_X10_middleOfRow_70 N k15 x1 x2 x3 x4 u Q → WW p l e rm_X10_middleOfRow s m args below meth c 0 0 (MQ below (QI D A (wH ad cI cZ) Q) args s 0 0 A) A D 5 70 [(0, .ref (ad 4)), (1, .int x1), (2, .int x2), (3, .int x3), (4, .int x4)] [] (wH ad cI cZ u) := by
  intro x1 x2 x3 x4 u h
  unfold m_X10_middleOfRow_70 at h
  refine ww_aload_n C dX10_middleOfRow_70 rfl 0 rfl ?_
  refine ww_get C inX10 rfl 7 (by decide) tb_1_111 HF_4_7 dX10_middleOfRow_71 ?_
  refine ww_iload C dX10_middleOfRow_74 4 rfl ?_
  refine ww_iload_n C dX10_middleOfRow_76 rfl 3 rfl ?_
  obtain ⟨hin, h⟩ := h
  refine ww_iast C 0 rfl HU_26 hin dX10_middleOfRow_77 ?_
  refine ww_nU (wH ad cI cZ) (fun u_1 eu_1 => ?_)
  have h := h u_1 eu_1
  obtain ⟨z_2, ez_2⟩ : ∃ z_2 : Int32, z_2 = x2 + (1 : Int32) := ⟨_, rfl⟩
  have h := h z_2 ez_2
  refine ww_iinc (i := 2) (j := 2) (v := z_2) (lv' := [(2, .int z_2), (0, .ref (ad 4)), (1, .int x1), (3, .int x3), (4, .int x4)]) C dX10_middleOfRow_78 rfl (by rw [ez_2]; rfl) (by decide) rfl ?_
  refine ww_goto (tgt := 15) C dX10_middleOfRow_81 (by decide) ?_
  refine ww_sub [1, 2, 0] rfl ?_
  exact hk15 _ _ _ h
set_option maxRecDepth 100000 in
theorem w_X10_middleOfRow_30 {p : Program} {l : Launch} {e : Env} {s : State} {m : MethodId} {args : Array Value} {below : List Frame} {meth : Method} {c : Code} {A : Nat → Prop} {D : va_G} {ad : Nat → Nat} {kK kV : Nat → Nat} {cI cZ : ClassId} {N : Nat} {Q : Int32 → UU → Prop} {k15 : Int32 → Int32 → UU → Prop} (C : Cx p m c cX10_middleOfRow 5 s args RX10 meth (some .int) A D [(cI, .int), (cZ, .boolean)] (EH kK kV)) (hk15 : ∀ (x1 : Int32) (x2 : Int32) (u : UU), k15 x1 x2 u → WW p l e rm_X10_middleOfRow s m args below meth c 0 0 (MQ below (QI D A (wH ad cI cZ) Q) args s 0 0 A) A D 5 15 [(0, .ref (ad 4)), (1, .int x1), (2, .int x2)] [] (wH ad cI cZ u)) : ∀ (n : Nat) (x1 : Int32) (x2 : Int32) (x3 : Int32) (x4 : Int32) (u : UU), m_X10_middleOfRow_30 N k15 Q n x1 x2 x3 x4 u → WW p l e rm_X10_middleOfRow s m args below meth c 0 0 (MQ below (QI D A (wH ad cI cZ) Q) args s 0 0 A) A D 5 30 [(0, .ref (ad 4)), (1, .int x1), (2, .int x2), (3, .int x3), (4, .int x4)] [] (wH ad cI cZ u) := by
  intro n
  induction n with
  | zero => intro x1 x2 x3 x4 u h; rw [m_X10_middleOfRow_30] at h; exact h.elim
  | succ n ih =>
    intro x1 x2 x3 x4 u h
    rw [m_X10_middleOfRow_30] at h
    refine ww_iload C dX10_middleOfRow_30 4 rfl ?_
    refine ww_if_le (tgt := 70) C dX10_middleOfRow_32 (by decide) (fun hc => ?_) (fun hc => ?_)
    · have h := ite_t h hc
      exact w_X10_middleOfRow_70 C hk15 h
    · have h := ite_f h hc
      refine ww_aload_n C dX10_middleOfRow_35 rfl 0 rfl ?_
      refine ww_get C inX10 rfl 7 (by decide) tb_1_111 HF_4_7 dX10_middleOfRow_36 ?_
      refine ww_iload C dX10_middleOfRow_39 4 rfl ?_
      refine ww_iconst (v := 1) C dX10_middleOfRow_41 (by decide) ?_
      refine ww_isub C dX10_middleOfRow_42 ?_
      obtain ⟨hin, h⟩ := h
      refine ww_iald C 0 rfl HA_26 hin dX10_middleOfRow_43 ?_
      refine ww_iload_n C dX10_middleOfRow_44 rfl 3 rfl ?_
      refine ww_icmp_le (tgt := 70) C dX10_middleOfRow_45 (by decide) (fun hc => ?_) (fun hc => ?_)
      · have h := ite_t h hc
        exact w_X10_middleOfRow_70 C hk15 h
      · have h := ite_f h hc
        refine ww_aload_n C dX10_middleOfRow_48 rfl 0 rfl ?_
        refine ww_get C inX10 rfl 7 (by decide) tb_1_111 HF_4_7 dX10_middleOfRow_49 ?_
        refine ww_iload C dX10_middleOfRow_52 4 rfl ?_
        refine ww_aload_n C dX10_middleOfRow_54 rfl 0 rfl ?_
        refine ww_get C inX10 rfl 7 (by decide) tb_1_111 HF_4_7 dX10_middleOfRow_55 ?_
        refine ww_iload C dX10_middleOfRow_58 4 rfl ?_
        refine ww_iconst (v := 1) C dX10_middleOfRow_60 (by decide) ?_
        refine ww_isub C dX10_middleOfRow_61 ?_
        obtain ⟨hin, h⟩ := h
        refine ww_iald C 0 rfl HA_26 hin dX10_middleOfRow_62 ?_
        obtain ⟨hin, h⟩ := h
        refine ww_iast C 0 rfl HU_26 hin dX10_middleOfRow_63 ?_
        refine ww_nU (wH ad cI cZ) (fun u_1 eu_1 => ?_)
        have h := h u_1 eu_1
        obtain ⟨z_2, ez_2⟩ : ∃ z_2 : Int32, z_2 = x4 + ((-1) : Int32) := ⟨_, rfl⟩
        have h := h z_2 ez_2
        refine ww_iinc (i := 4) (j := 4) (v := z_2) (lv' := [(4, .int z_2), (0, .ref (ad 4)), (1, .int x1), (2, .int x2), (3, .int x3)]) C dX10_middleOfRow_64 rfl (by rw [ez_2]; rfl) (by decide) rfl ?_
        refine ww_goto (tgt := 30) C dX10_middleOfRow_67 (by decide) ?_
        refine ww_sub [1, 2, 3, 4, 0] rfl ?_
        exact ih _ _ _ _ _ h
set_option maxRecDepth 100000 in
theorem w_X10_middleOfRow_15 {p : Program} {l : Launch} {e : Env} {s : State} {m : MethodId} {args : Array Value} {below : List Frame} {meth : Method} {c : Code} {A : Nat → Prop} {D : va_G} {ad : Nat → Nat} {kK kV : Nat → Nat} {cI cZ : ClassId} {N : Nat} {Q : Int32 → UU → Prop} (C : Cx p m c cX10_middleOfRow 5 s args RX10 meth (some .int) A D [(cI, .int), (cZ, .boolean)] (EH kK kV)) : ∀ (n : Nat) (x1 : Int32) (x2 : Int32) (u : UU), m_X10_middleOfRow_15 N Q n x1 x2 u → WW p l e rm_X10_middleOfRow s m args below meth c 0 0 (MQ below (QI D A (wH ad cI cZ) Q) args s 0 0 A) A D 5 15 [(0, .ref (ad 4)), (1, .int x1), (2, .int x2)] [] (wH ad cI cZ u) := by
  intro n
  induction n with
  | zero => intro x1 x2 u h; rw [m_X10_middleOfRow_15] at h; exact h.elim
  | succ n ih =>
    intro x1 x2 u h
    rw [m_X10_middleOfRow_15] at h
    refine ww_iload_n C dX10_middleOfRow_15 rfl 2 rfl ?_
    refine ww_iload_n C dX10_middleOfRow_16 rfl 1 rfl ?_
    refine ww_icmp_ge (tgt := 84) C dX10_middleOfRow_17 (by decide) (fun hc => ?_) (fun hc => ?_)
    · have h := ite_t h hc
      refine ww_aload_n C dX10_middleOfRow_84 rfl 0 rfl ?_
      refine ww_get C inX10 rfl 7 (by decide) tb_1_111 HF_4_7 dX10_middleOfRow_85 ?_
      refine ww_iload_n C dX10_middleOfRow_88 rfl 1 rfl ?_
      refine ww_iconst (v := 1) C dX10_middleOfRow_89 (by decide) ?_
      refine ww_isub C dX10_middleOfRow_90 ?_
      refine ww_iconst (v := 2) C dX10_middleOfRow_91 (by decide) ?_
      obtain ⟨hz, h⟩ := h
      refine ww_idiv C dX10_middleOfRow_92 hz ?_
      obtain ⟨hin, h⟩ := h
      refine ww_iald C 0 rfl HA_26 hin dX10_middleOfRow_93 ?_
      exact ww_iret C h dX10_middleOfRow_94
    · have h := ite_f h hc
      refine ww_aload_n C dX10_middleOfRow_20 rfl 0 rfl ?_
      refine ww_get C inX10 rfl 7 (by decide) tb_1_111 HF_4_7 dX10_middleOfRow_21 ?_
      refine ww_iload_n C dX10_middleOfRow_24 rfl 2 rfl ?_
      obtain ⟨hin, h⟩ := h
      refine ww_iald C 0 rfl HA_26 hin dX10_middleOfRow_25 ?_
      refine ww_nI (fun z_1 ez_1 => ?_)
      have h := h z_1 ez_1
      refine ww_istore_n (i := 3) (lv' := [(3, .int z_1), (0, .ref (ad 4)), (1, .int x1), (2, .int x2)]) C dX10_middleOfRow_26 rfl (by decide) rfl ?_
      refine ww_iload_n C dX10_middleOfRow_27 rfl 3 rfl ?_
      refine ww_istore (i := 4) (lv' := [(4, .int x2), (3, .int z_1), (0, .ref (ad 4)), (1, .int x1), (2, .int x2)]) C dX10_middleOfRow_28 (by decide) rfl ?_
      refine ww_sub [2, 3, 4, 1, 0] rfl ?_
      exact w_X10_middleOfRow_30 C ih N _ _ _ _ _ h
set_option maxRecDepth 100000 in
theorem w_X10_middleOfRow {p : Program} {l : Launch} {e : Env} {s : State} {m : MethodId} {args : Array Value} {below : List Frame} {meth : Method} {c : Code} {A : Nat → Prop} {D : va_G} {ad : Nat → Nat} {kK kV : Nat → Nat} {cI cZ : ClassId} {N : Nat} {Q : Int32 → UU → Prop} (C : Cx p m c cX10_middleOfRow 5 s args RX10 meth (some .int) A D [(cI, .int), (cZ, .boolean)] (EH kK kV)) : ∀ {x1 : Int32} {u : UU}, m_X10_middleOfRow N x1 u Q → WW p l e rm_X10_middleOfRow s m args below meth c 0 0 (MQ below (QI D A (wH ad cI cZ) Q) args s 0 0 A) A D 5 0 [(0, .ref (ad 4)), (1, .int x1)] [] (wH ad cI cZ u) := by
  intro x1 u h
  unfold m_X10_middleOfRow at h
  refine ww_iload_n C dX10_middleOfRow_0 rfl 1 rfl ?_
  refine ww_iconst (v := 1) C dX10_middleOfRow_1 (by decide) ?_
  refine ww_sipush (v := 300) C dX10_middleOfRow_2 (by decide) ?_
  refine ww_callSNi (As := [.int x1, .int (1 : Int32), .int (300 : Int32)]) (rest := []) C EH_ok (c_X11_isIn h) (C.2.2.2.2.1.1 _ (List.mem_of_getElem? (i := 9) rfl)) tb_1_1 tb_2_100 tb_2_101 rfl rfl hd_X11_isIn ⟨Nat.le_of_ble_eq_true rfl, Nat.le_of_ble_eq_true rfl⟩ rfl rfl (Nat.le_of_ble_eq_true rfl) dX10_middleOfRow_5 ⟨Nat.zero_le _, Nat.zero_le _⟩ (fun r_2 u_1 h => ?_)
  refine ww_if_ne (tgt := 13) C dX10_middleOfRow_8 (by decide) (fun hc => ?_) (fun hc => ?_)
  · have h := ite_f h hc
    refine ww_iconst (v := 1) C dX10_middleOfRow_13 (by decide) ?_
    refine ww_istore_n (i := 2) (lv' := [(2, .int (1 : Int32)), (0, .ref (ad 4)), (1, .int x1)]) C dX10_middleOfRow_14 rfl (by decide) rfl ?_
    refine ww_sub [1, 2, 0] rfl ?_
    exact w_X10_middleOfRow_15 C N _ _ _ h
  · have h := ite_t h hc
    refine ww_iconst (v := 0) C dX10_middleOfRow_11 (by decide) ?_
    exact ww_iret C h dX10_middleOfRow_12
theorem c_X10_middleOfRow {l : Launch} {D : va_G} {ad : Nat → Nat} {kK kV : Nat → Nat} {cI cZ : ClassId} {N : Nat} {x1 : Int32} {u : UU} {Q : Int32 → UU → Prop} (h : m_X10_middleOfRow N x1 u Q) : MI l D [(cI, .int), (cZ, .boolean)] (EH kK kV) yX10_middleOfRow (Cond.code yX10_middleOfRow cX10_middleOfRow 5 (some .int)) rm_X10_middleOfRow [.ref (ad 4), .int x1] (wH ad cI cZ u) (wH ad cI cZ) Q :=
  MI_of (own := RX10) (by decide) rfl (Nat.le_of_ble_eq_true rfl) rfl (fun p e s m args below meth c A C => w_X10_middleOfRow C h)
theorem hd_X10_middleOfRow : yX10_middleOfRow.cls ≠ "java/lang/invoke/MethodHandle" ∧ yX10_middleOfRow.cls ≠ "java/lang/invoke/VarHandle" ∧ (parseMethodDescriptor yX10_middleOfRow.desc).map (fun d => d.parameters.length) = some 1 := by decide +kernel
abbrev rm_X10_cellsInUse : Room := { frames := 1, cells := 0, slots := 0, locals := 21 }
set_option maxRecDepth 100000 in
theorem w_X10_cellsInUse {p : Program} {l : Launch} {e : Env} {s : State} {m : MethodId} {args : Array Value} {below : List Frame} {meth : Method} {c : Code} {A : Nat → Prop} {D : va_G} {ad : Nat → Nat} {kK kV : Nat → Nat} {cI cZ : ClassId} {N : Nat} {Q : Int32 → UU → Prop} (C : Cx p m c cX10_cellsInUse 1 s args RX10 meth (some .int) A D [(cI, .int), (cZ, .boolean)] (EH kK kV)) : ∀ {u : UU}, m_X10_cellsInUse N  u Q → WW p l e rm_X10_cellsInUse s m args below meth c 0 0 (MQ below (QI D A (wH ad cI cZ) Q) args s 0 0 A) A D 1 0 [(0, .ref (ad 4))] [] (wH ad cI cZ u) := by
  intro  u h
  unfold m_X10_cellsInUse at h
  refine ww_sipush (v := 300) C dX10_cellsInUse_0 (by decide) ?_
  refine ww_aload_n C dX10_cellsInUse_3 rfl 0 rfl ?_
  refine ww_get C inX10 rfl 0 (by decide) tb_1_104 HF_4_0 dX10_cellsInUse_4 ?_
  refine ww_get C inX0 rfl 3 (by decide) tb_1_46 HF_1_3 dX10_cellsInUse_7 ?_
  refine ww_bipush (v := 10) C dX10_cellsInUse_10 (by decide) ?_
  refine ww_imul C dX10_cellsInUse_12 ?_
  refine ww_mmin C tb_2_185 tb_2_144 tb_1_14 tb_2_145 ⟨Nat.le_of_ble_eq_true rfl, Nat.le_of_ble_eq_true rfl⟩ ⟨Nat.zero_le _, Nat.zero_le _⟩ dX10_cellsInUse_13 ?_
  exact ww_iret C h dX10_cellsInUse_16
theorem c_X10_cellsInUse {l : Launch} {D : va_G} {ad : Nat → Nat} {kK kV : Nat → Nat} {cI cZ : ClassId} {N : Nat}  {u : UU} {Q : Int32 → UU → Prop} (h : m_X10_cellsInUse N  u Q) : MI l D [(cI, .int), (cZ, .boolean)] (EH kK kV) yX10_cellsInUse (Cond.code yX10_cellsInUse cX10_cellsInUse 1 (some .int)) rm_X10_cellsInUse [.ref (ad 4)] (wH ad cI cZ u) (wH ad cI cZ) Q :=
  MI_of (own := RX10) (by decide) rfl (Nat.le_of_ble_eq_true rfl) rfl (fun p e s m args below meth c A C => w_X10_cellsInUse C h)
theorem hd_X10_cellsInUse : yX10_cellsInUse.cls ≠ "java/lang/invoke/MethodHandle" ∧ yX10_cellsInUse.cls ≠ "java/lang/invoke/VarHandle" ∧ (parseMethodDescriptor yX10_cellsInUse.desc).map (fun d => d.parameters.length) = some 0 := by decide +kernel
abbrev rm_X10_findLeaning : Room := { frames := 2, cells := 0, slots := 0, locals := 46 }
set_option maxRecDepth 100000 in
theorem w_X10_findLeaning_69 {p : Program} {l : Launch} {e : Env} {s : State} {m : MethodId} {args : Array Value} {below : List Frame} {meth : Method} {c : Code} {A : Nat → Prop} {D : va_G} {ad : Nat → Nat} {kK kV : Nat → Nat} {cI cZ : ClassId} {N : Nat} {Q : Int32 → UU → Prop} {k10 : Int32 → Int32 → Int32 → Int32 → UU → Prop} (C : Cx p m c cX10_findLeaning 6 s args RX10 meth (some .int) A D [(cI, .int), (cZ, .boolean)] (EH kK kV)) (hk10 : ∀ (x1 : Int32) (x2 : Int32) (x3 : Int32) (x4 : Int32) (u : UU), k10 x1 x2 x3 x4 u → WW p l e rm_X10_findLeaning s m args below meth c 0 0 (MQ below (QI D A (wH ad cI cZ) Q) args s 0 0 A) A D 6 10 [(0, .ref (ad 4)), (1, .int x1), (2, .int x2), (3, .int x3), (4, .int x4)] [] (wH ad cI cZ u)) : ∀ {x1 : Int32} {x2 : Int32} {x3 : Int32} {x4 : Int32} {u : UU}, m_X10_findLeaning_69 N k10 x1 x2 x3 x4 u Q → WW p l e rm_X10_findLeaning s m args below meth c 0 0 (MQ below (QI D A (wH ad cI cZ) Q) args s 0 0 A) A D 6 69 [(0, .ref (ad 4)), (1, .int x1), (2, .int x2), (3, .int x3), (4, .int x4)] [] (wH ad cI cZ u) := by
  intro x1 x2 x3 x4 u h
  unfold m_X10_findLeaning_69 at h
  obtain ⟨z_1, ez_1⟩ : ∃ z_1 : Int32, z_1 = x4 + (1 : Int32) := ⟨_, rfl⟩
  have h := h z_1 ez_1
  refine ww_iinc (i := 4) (j := 4) (v := z_1) (lv' := [(4, .int z_1), (0, .ref (ad 4)), (1, .int x1), (2, .int x2), (3, .int x3)]) C dX10_findLeaning_69 rfl (by rw [ez_1]; rfl) (by decide) rfl ?_
  refine ww_goto (tgt := 10) C dX10_findLeaning_72 (by decide) ?_
  refine ww_sub [1, 2, 3, 4, 0] rfl ?_
  exact hk10 _ _ _ _ _ h
set_option maxRecDepth 100000 in
theorem w_X10_findLeaning_43 {p : Program} {l : Launch} {e : Env} {s : State} {m : MethodId} {args : Array Value} {below : List Frame} {meth : Method} {c : Code} {A : Nat → Prop} {D : va_G} {ad : Nat → Nat} {kK kV : Nat → Nat} {cI cZ : ClassId} {N : Nat} {Q : Int32 → UU → Prop} {k10 : Int32 → Int32 → Int32 → Int32 → UU → Prop} (C : Cx p m c cX10_findLeaning 6 s args RX10 meth (some .int) A D [(cI, .int), (cZ, .boolean)] (EH kK kV)) (hk10 : ∀ (x1 : Int32) (x2 : Int32) (x3 : Int32) (x4 : Int32) (u : UU), k10 x1 x2 x3 x4 u → WW p l e rm_X10_findLeaning s m args below meth c 0 0 (MQ below (QI D A (wH ad cI cZ) Q) args s 0 0 A) A D 6 10 [(0, .ref (ad 4)), (1, .int x1), (2, .int x2), (3, .int x3), (4, .int x4)] [] (wH ad cI cZ u)) : ∀ {x1 : Int32} {x2 : Int32} {x3 : Int32} {x4 : Int32} {y0 : Int32} {u : UU}, m_X10_findLeaning_43 N k10 x1 x2 x3 x4 y0 u Q → WW p l e rm_X10_findLeaning s m args below meth c 0 0 (MQ below (QI D A (wH ad cI cZ) Q) args s 0 0 A) A D 6 43 [(0, .ref (ad 4)), (1, .int x1), (2, .int x2), (3, .int x3), (4, .int x4)] [.int y0] (wH ad cI cZ u) := by
  intro x1 x2 x3 x4 y0 u h
  unfold m_X10_findLeaning_43 at h
  refine ww_istore (i := 5) (lv' := [(5, .int y0), (0, .ref (ad 4)), (1, .int x1), (2, .int x2), (3, .int x3), (4, .int x4)]) C dX10_findLeaning_43 (by decide) rfl ?_
  refine ww_iload C dX10_findLeaning_45 0 rfl ?_
  refine ww_if_le (tgt := 69) C dX10_findLeaning_47 (by decide) (fun hc => ?_) (fun hc => ?_)
  · have h := ite_t h hc
    refine ww_sub [1, 2, 3, 4, 5] rfl ?_
    exact w_X10_findLeaning_69 C hk10 h
  · have h := ite_f h hc
    refine ww_aload_n C dX10_findLeaning_50 rfl 1 rfl ?_
    refine ww_get C inX10 rfl 7 (by decide) tb_1_111 HF_4_7 dX10_findLeaning_51 ?_
    refine ww_iload_n C dX10_findLeaning_54 rfl 3 rfl ?_
    refine ww_iload C dX10_findLeaning_55 0 rfl ?_
    refine ww_aload_n C dX10_findLeaning_57 rfl 1 rfl ?_
    refine ww_get C inX10 rfl 5 (by decide) tb_1_109 HF_4_5 dX10_findLeaning_58 ?_
    refine ww_iload C dX10_findLeaning_61 5 rfl ?_
    obtain ⟨hin, h⟩ := h
    refine ww_iald C 0 rfl HA_24 hin dX10_findLeaning_63 ?_
    refine ww_isub C dX10_findLeaning_64 ?_
    obtain ⟨hin, h⟩ := h
    refine ww_iast C 0 rfl HU_26 hin dX10_findLeaning_65 ?_
    refine ww_nU (wH ad cI cZ) (fun u_1 eu_1 => ?_)
    have h := h u_1 eu_1
    obtain ⟨z_2, ez_2⟩ : ∃ z_2 : Int32, z_2 = x2 + (1 : Int32) := ⟨_, rfl⟩
    have h := h z_2 ez_2
    refine ww_iinc (i := 2) (j := 3) (v := z_2) (lv' := [(2, .int z_2), (5, .int y0), (0, .ref (ad 4)), (1, .int x1), (3, .int x3), (4, .int x4)]) C dX10_findLeaning_66 rfl (by rw [ez_2]; rfl) (by decide) rfl ?_
    refine ww_sub [2, 3, 0, 4, 5] rfl ?_
    exact w_X10_findLeaning_69 C hk10 h
set_option maxRecDepth 100000 in
theorem w_X10_findLeaning_10 {p : Program} {l : Launch} {e : Env} {s : State} {m : MethodId} {args : Array Value} {below : List Frame} {meth : Method} {c : Code} {A : Nat → Prop} {D : va_G} {ad : Nat → Nat} {kK kV : Nat → Nat} {cI cZ : ClassId} {N : Nat} {Q : Int32 → UU → Prop} (C : Cx p m c cX10_findLeaning 6 s args RX10 meth (some .int) A D [(cI, .int), (cZ, .boolean)] (EH kK kV)) : ∀ (n : Nat) (x1 : Int32) (x2 : Int32) (x3 : Int32) (x4 : Int32) (u : UU), m_X10_findLeaning_10 N Q n x1 x2 x3 x4 u → WW p l e rm_X10_findLeaning s m args below meth c 0 0 (MQ below (QI D A (wH ad cI cZ) Q) args s 0 0 A) A D 6 10 [(0, .ref (ad 4)), (1, .int x1), (2, .int x2), (3, .int x3), (4, .int x4)] [] (wH ad cI cZ u) := by
  intro n
  induction n with
  | zero => intro x1 x2 x3 x4 u h; rw [m_X10_findLeaning_10] at h; exact h.elim
  | succ n ih =>
    intro x1 x2 x3 x4 u h
    rw [m_X10_findLeaning_10] at h
    refine ww_iload C dX10_findLeaning_10 4 rfl ?_
    refine ww_iload_n C dX10_findLeaning_12 rfl 3 rfl ?_
    refine ww_icmp_ge (tgt := 75) C dX10_findLeaning_13 (by decide) (fun hc => ?_) (fun hc => ?_)
    · have h := ite_t h hc
      refine ww_aload_n C dX10_findLeaning_75 rfl 0 rfl ?_
      refine ww_iload_n C dX10_findLeaning_76 rfl 2 rfl ?_
      refine ww_callVi (As := [.int x2]) (rest := []) C EH_ok (c_X10_middleOfRow h) tb_2_190 tb_2_192 tbs_6 tb_1_5 tb_2_193 rfl rfl ⟨rfl, hd_X10_middleOfRow⟩ ⟨Nat.le_of_ble_eq_true rfl, Nat.le_of_ble_eq_true rfl⟩ rfl HF_4_0 rfl rfl (Nat.le_of_ble_eq_true rfl) dX10_findLeaning_77 ⟨Nat.zero_le _, Nat.zero_le _⟩ (fun r_2 u_1 h => ?_)
      exact ww_iret C h dX10_findLeaning_80
    · have h := ite_f h hc
      refine ww_aload_n C dX10_findLeaning_16 rfl 0 rfl ?_
      refine ww_get C inX10 rfl 4 (by decide) tb_1_108 HF_4_4 dX10_findLeaning_17 ?_
      refine ww_iload C dX10_findLeaning_20 4 rfl ?_
      obtain ⟨hin, h⟩ := h
      refine ww_iald C 0 rfl HA_23 hin dX10_findLeaning_22 ?_
      refine ww_iconst (v := 2) C dX10_findLeaning_23 (by decide) ?_
      refine ww_icmp_ge (tgt := 31) C dX10_findLeaning_24 (by decide) (fun hc => ?_) (fun hc => ?_)
      · have h := ite_t h hc
        refine ww_aload_n C dX10_findLeaning_31 rfl 0 rfl ?_
        refine ww_get C inX10 rfl 3 (by decide) tb_1_107 HF_4_3 dX10_findLeaning_32 ?_
        refine ww_iload C dX10_findLeaning_35 4 rfl ?_
        refine ww_bipush (v := 8) C dX10_findLeaning_37 (by decide) ?_
        refine ww_imul C dX10_findLeaning_39 ?_
        refine ww_iload_n C dX10_findLeaning_40 rfl 1 rfl ?_
        refine ww_iadd C dX10_findLeaning_41 ?_
        obtain ⟨hin, h⟩ := h
        refine ww_iald C 0 rfl HA_22 hin dX10_findLeaning_42 ?_
        exact w_X10_findLeaning_43 C ih h
      · have h := ite_f h hc
        refine ww_iconst (v := 0) C dX10_findLeaning_27 (by decide) ?_
        refine ww_goto (tgt := 43) C dX10_findLeaning_28 (by decide) ?_
        exact w_X10_findLeaning_43 C ih h
set_option maxRecDepth 100000 in
theorem w_X10_findLeaning {p : Program} {l : Launch} {e : Env} {s : State} {m : MethodId} {args : Array Value} {below : List Frame} {meth : Method} {c : Code} {A : Nat → Prop} {D : va_G} {ad : Nat → Nat} {kK kV : Nat → Nat} {cI cZ : ClassId} {N : Nat} {Q : Int32 → UU → Prop} (C : Cx p m c cX10_findLeaning 6 s args RX10 meth (some .int) A D [(cI, .int), (cZ, .boolean)] (EH kK kV)) : ∀ {x1 : Int32} {u : UU}, m_X10_findLeaning N x1 u Q → WW p l e rm_X10_findLeaning s m args below meth c 0 0 (MQ below (QI D A (wH ad cI cZ) Q) args s 0 0 A) A D 6 0 [(0, .ref (ad 4)), (1, .int x1)] [] (wH ad cI cZ u) := by
  intro x1 u h
  unfold m_X10_findLeaning at h
  refine ww_iconst (v := 0) C dX10_findLeaning_0 (by decide) ?_
  refine ww_istore_n (i := 2) (lv' := [(2, .int (0 : Int32)), (0, .ref (ad 4)), (1, .int x1)]) C dX10_findLeaning_1 rfl (by decide) rfl ?_
  refine ww_aload_n C dX10_findLeaning_2 rfl 1 rfl ?_
  refine ww_callVi (As := []) (rest := []) C EH_ok (c_X10_cellsInUse h) tb_2_181 tb_2_183 tbs_4 tb_1_5 tb_2_184 rfl rfl ⟨rfl, hd_X10_cellsInUse⟩ ⟨Nat.le_of_ble_eq_true rfl, Nat.le_of_ble_eq_true rfl⟩ rfl HF_4_0 rfl rfl (Nat.le_of_ble_eq_true rfl) dX10_findLeaning_3 ⟨Nat.zero_le _, Nat.zero_le _⟩ (fun r_2 u_1 h => ?_)
  refine ww_istore_n (i := 3) (lv' := [(3, .int r_2), (2, .int (0 : Int32)), (0, .ref (ad 4)), (1, .int x1)]) C dX10_findLeaning_6 rfl (by decide) rfl ?_
  refine ww_iconst (v := 0) C dX10_findLeaning_7 (by decide) ?_
  refine ww_istore (i := 4) (lv' := [(4, .int (0 : Int32)), (3, .int r_2), (2, .int (0 : Int32)), (0, .ref (ad 4)), (1, .int x1)]) C dX10_findLeaning_8 (by decide) rfl ?_
  refine ww_sub [3, 4, 2, 1, 0] rfl ?_
  exact w_X10_findLeaning_10 C N _ _ _ _ _ h
theorem c_X10_findLeaning {l : Launch} {D : va_G} {ad : Nat → Nat} {kK kV : Nat → Nat} {cI cZ : ClassId} {N : Nat} {x1 : Int32} {u : UU} {Q : Int32 → UU → Prop} (h : m_X10_findLeaning N x1 u Q) : MI l D [(cI, .int), (cZ, .boolean)] (EH kK kV) yX10_findLeaning (Cond.code yX10_findLeaning cX10_findLeaning 6 (some .int)) rm_X10_findLeaning [.ref (ad 4), .int x1] (wH ad cI cZ u) (wH ad cI cZ) Q :=
  MI_of (own := RX10) (by decide) rfl (Nat.le_of_ble_eq_true rfl) rfl (fun p e s m args below meth c A C => w_X10_findLeaning C h)
theorem hd_X10_findLeaning : yX10_findLeaning.cls ≠ "java/lang/invoke/MethodHandle" ∧ yX10_findLeaning.cls ≠ "java/lang/invoke/VarHandle" ∧ (parseMethodDescriptor yX10_findLeaning.desc).map (fun d => d.parameters.length) = some 1 := by decide +kernel
abbrev rm_X10_middleLess : Room := { frames := 2, cells := 0, slots := 0, locals := 46 }
set_option maxRecDepth 100000 in
theorem w_X10_middleLess_59 {p : Program} {l : Launch} {e : Env} {s : State} {m : MethodId} {args : Array Value} {below : List Frame} {meth : Method} {c : Code} {A : Nat → Prop} {D : va_G} {ad : Nat → Nat} {kK kV : Nat → Nat} {cI cZ : ClassId} {N : Nat} {Q : Int32 → UU → Prop} {k5 : Int32 → Int32 → Int32 → Int32 → UU → Prop} (C : Cx p m c cX10_middleLess 6 s args RX10 meth (some .int) A D [(cI, .int), (cZ, .boolean)] (EH kK kV)) (hk5 : ∀ (x1 : Int32) (x2 : Int32) (x3 : Int32) (x4 : Int32) (u : UU), k5 x1 x2 x3 x4 u → WW p l e rm_X10_middleLess s m args below meth c 0 0 (MQ below (QI D A (wH ad cI cZ) Q) args s 0 0 A) A D 6 5 [(0, .ref (ad 4)), (1, .int x1), (2, .int x2), (3, .int x3), (4, .int x4)] [] (wH ad cI cZ u)) : ∀ {x1 : Int32} {x2 : Int32} {x3 : Int32} {x4 : Int32} {u : UU}, m_X10_middleLess_59 N k5 x1 x2 x3 x4 u Q → WW p l e rm_X10_middleLess s m args below meth c 0 0 (MQ below (QI D A (wH ad cI cZ) Q) args s 0 0 A) A D 6 59 [(0, .ref (ad 4)), (1, .int x1), (2, .int x2), (3, .int x3), (4, .int x4)] [] (wH ad cI cZ u) := by
  intro x1 x2 x3 x4 u h
  unfold m_X10_middleLess_59 at h
  obtain ⟨z_1, ez_1⟩ : ∃ z_1 : Int32, z_1 = x4 + (1 : Int32) := ⟨_, rfl⟩
  have h := h z_1 ez_1
  refine ww_iinc (i := 4) (j := 4) (v := z_1) (lv' := [(4, .int z_1), (0, .ref (ad 4)), (1, .int x1), (2, .int x2), (3, .int x3)]) C dX10_middleLess_59 rfl (by rw [ez_1]; rfl) (by decide) rfl ?_
  refine ww_goto (tgt := 5) C dX10_middleLess_62 (by decide) ?_
  refine ww_sub [1, 2, 3, 4, 0] rfl ?_
  exact hk5 _ _ _ _ _ h
set_option maxRecDepth 100000 in
theorem w_X10_middleLess_55 {p : Program} {l : Launch} {e : Env} {s : State} {m : MethodId} {args : Array Value} {below : List Frame} {meth : Method} {c : Code} {A : Nat → Prop} {D : va_G} {ad : Nat → Nat} {kK kV : Nat → Nat} {cI cZ : ClassId} {N : Nat} {Q : Int32 → UU → Prop} {k5 : Int32 → Int32 → Int32 → Int32 → UU → Prop} (C : Cx p m c cX10_middleLess 6 s args RX10 meth (some .int) A D [(cI, .int), (cZ, .boolean)] (EH kK kV)) (hk5 : ∀ (x1 : Int32) (x2 : Int32) (x3 : Int32) (x4 : Int32) (u : UU), k5 x1 x2 x3 x4 u → WW p l e rm_X10_middleLess s m args below meth c 0 0 (MQ below (QI D A (wH ad cI cZ) Q) args s 0 0 A) A D 6 5 [(0, .ref (ad 4)), (1, .int x1), (2, .int x2), (3, .int x3), (4, .int x4)] [] (wH ad cI cZ u)) : ∀ {x1 : Int32} {x2 : Int32} {x3 : Int32} {x4 : Int32} {y1 : Int32} {y2 : Int32} {u : UU}, m_X10_middleLess_55 N k5 x1 x2 x3 x4 y1 y2 u Q → WW p l e rm_X10_middleLess s m args below meth c 0 0 (MQ below (QI D A (wH ad cI cZ) Q) args s 0 0 A) A D 6 55 [(0, .ref (ad 4)), (1, .int x1), (2, .int x2), (3, .int x3), (4, .int x4)] [.int y2, .int y1, .ref (ad 26)] (wH ad cI cZ u) := by
  intro x1 x2 x3 x4 y1 y2 u h
  unfold m_X10_middleLess_55 at h
  obtain ⟨hin, h⟩ := h
  refine ww_iast C 0 rfl HU_26 hin dX10_middleLess_55 ?_
  refine ww_nU (wH ad cI cZ) (fun u_1 eu_1 => ?_)
  have h := h u_1 eu_1
  obtain ⟨z_2, ez_2⟩ : ∃ z_2 : Int32, z_2 = x3 + (1 : Int32) := ⟨_, rfl⟩
  have h := h z_2 ez_2
  refine ww_iinc (i := 3) (j := 3) (v := z_2) (lv' := [(3, .int z_2), (0, .ref (ad 4)), (1, .int x1), (2, .int x2), (4, .int x4)]) C dX10_middleLess_56 rfl (by rw [ez_2]; rfl) (by decide) rfl ?_
  refine ww_sub [1, 2, 3, 0, 4] rfl ?_
  exact w_X10_middleLess_59 C hk5 h
set_option maxRecDepth 100000 in
theorem w_X10_middleLess_5 {p : Program} {l : Launch} {e : Env} {s : State} {m : MethodId} {args : Array Value} {below : List Frame} {meth : Method} {c : Code} {A : Nat → Prop} {D : va_G} {ad : Nat → Nat} {kK kV : Nat → Nat} {cI cZ : ClassId} {N : Nat} {Q : Int32 → UU → Prop} (C : Cx p m c cX10_middleLess 6 s args RX10 meth (some .int) A D [(cI, .int), (cZ, .boolean)] (EH kK kV)) : ∀ (n : Nat) (x1 : Int32) (x2 : Int32) (x3 : Int32) (x4 : Int32) (u : UU), m_X10_middleLess_5 N Q n x1 x2 x3 x4 u → WW p l e rm_X10_middleLess s m args below meth c 0 0 (MQ below (QI D A (wH ad cI cZ) Q) args s 0 0 A) A D 6 5 [(0, .ref (ad 4)), (1, .int x1), (2, .int x2), (3, .int x3), (4, .int x4)] [] (wH ad cI cZ u) := by
  intro n
  induction n with
  | zero => intro x1 x2 x3 x4 u h; rw [m_X10_middleLess_5] at h; exact h.elim
  | succ n ih =>
    intro x1 x2 x3 x4 u h
    rw [m_X10_middleLess_5] at h
    refine ww_iload C dX10_middleLess_5 4 rfl ?_
    refine ww_bipush (v := 8) C dX10_middleLess_7 (by decide) ?_
    refine ww_icmp_ge (tgt := 65) C dX10_middleLess_9 (by decide) (fun hc => ?_) (fun hc => ?_)
    · have h := ite_t h hc
      refine ww_aload_n C dX10_middleLess_65 rfl 0 rfl ?_
      refine ww_iload_n C dX10_middleLess_66 rfl 3 rfl ?_
      refine ww_callVi (As := [.int x3]) (rest := []) C EH_ok (c_X10_middleOfRow h) tb_2_190 tb_2_192 tbs_6 tb_1_5 tb_2_193 rfl rfl ⟨rfl, hd_X10_middleOfRow⟩ ⟨Nat.le_of_ble_eq_true rfl, Nat.le_of_ble_eq_true rfl⟩ rfl HF_4_0 rfl rfl (Nat.le_of_ble_eq_true rfl) dX10_middleLess_67 ⟨Nat.zero_le _, Nat.zero_le _⟩ (fun r_2 u_1 h => ?_)
      exact ww_iret C h dX10_middleLess_70
    · have h := ite_f h hc
      refine ww_aload_n C dX10_middleLess_12 rfl 0 rfl ?_
      refine ww_get C inX10 rfl 3 (by decide) tb_1_107 HF_4_3 dX10_middleLess_13 ?_
      refine ww_iload_n C dX10_middleLess_16 rfl 1 rfl ?_
      refine ww_bipush (v := 8) C dX10_middleLess_17 (by decide) ?_
      refine ww_imul C dX10_middleLess_19 ?_
      refine ww_iload C dX10_middleLess_20 4 rfl ?_
      refine ww_iadd C dX10_middleLess_22 ?_
      obtain ⟨hin, h⟩ := h
      refine ww_iald C 0 rfl HA_22 hin dX10_middleLess_23 ?_
      refine ww_nI (fun z_3 ez_3 => ?_)
      have h := h z_3 ez_3
      refine ww_istore (i := 5) (lv' := [(5, .int z_3), (0, .ref (ad 4)), (1, .int x1), (2, .int x2), (3, .int x3), (4, .int x4)]) C dX10_middleLess_24 (by decide) rfl ?_
      refine ww_iload C dX10_middleLess_26 0 rfl ?_
      refine ww_if_le (tgt := 59) C dX10_middleLess_28 (by decide) (fun hc => ?_) (fun hc => ?_)
      · have h := ite_t h hc
        refine ww_sub [1, 2, 3, 4, 5] rfl ?_
        exact w_X10_middleLess_59 C ih h
      · have h := ite_f h hc
        refine ww_aload_n C dX10_middleLess_31 rfl 1 rfl ?_
        refine ww_get C inX10 rfl 7 (by decide) tb_1_111 HF_4_7 dX10_middleLess_32 ?_
        refine ww_iload_n C dX10_middleLess_35 rfl 4 rfl ?_
        refine ww_iload_n C dX10_middleLess_36 rfl 3 rfl ?_
        refine ww_if_eq (tgt := 53) C dX10_middleLess_37 (by decide) (fun hc => ?_) (fun hc => ?_)
        · have h := ite_t h hc
          refine ww_iload C dX10_middleLess_53 0 rfl ?_
          refine ww_sub [1, 2, 3, 4, 5] rfl ?_
          exact w_X10_middleLess_55 C ih h
        · have h := ite_f h hc
          refine ww_iload C dX10_middleLess_40 0 rfl ?_
          refine ww_aload_n C dX10_middleLess_42 rfl 1 rfl ?_
          refine ww_get C inX10 rfl 6 (by decide) tb_1_110 HF_4_6 dX10_middleLess_43 ?_
          refine ww_iload C dX10_middleLess_46 5 rfl ?_
          obtain ⟨hin, h⟩ := h
          refine ww_iald C 0 rfl HA_25 hin dX10_middleLess_48 ?_
          refine ww_isub C dX10_middleLess_49 ?_
          refine ww_goto (tgt := 55) C dX10_middleLess_50 (by decide) ?_
          refine ww_sub [1, 2, 3, 4, 5] rfl ?_
          exact w_X10_middleLess_55 C ih h
set_option maxRecDepth 100000 in
theorem w_X10_middleLess {p : Program} {l : Launch} {e : Env} {s : State} {m : MethodId} {args : Array Value} {below : List Frame} {meth : Method} {c : Code} {A : Nat → Prop} {D : va_G} {ad : Nat → Nat} {kK kV : Nat → Nat} {cI cZ : ClassId} {N : Nat} {Q : Int32 → UU → Prop} (C : Cx p m c cX10_middleLess 6 s args RX10 meth (some .int) A D [(cI, .int), (cZ, .boolean)] (EH kK kV)) : ∀ {x1 : Int32} {x2 : Int32} {u : UU}, m_X10_middleLess N x1 x2 u Q → WW p l e rm_X10_middleLess s m args below meth c 0 0 (MQ below (QI D A (wH ad cI cZ) Q) args s 0 0 A) A D 6 0 [(0, .ref (ad 4)), (1, .int x1), (2, .int x2)] [] (wH ad cI cZ u) := by
  intro x1 x2 u h
  unfold m_X10_middleLess at h
  refine ww_iconst (v := 0) C dX10_middleLess_0 (by decide) ?_
  refine ww_istore_n (i := 3) (lv' := [(3, .int (0 : Int32)), (0, .ref (ad 4)), (1, .int x1), (2, .int x2)]) C dX10_middleLess_1 rfl (by decide) rfl ?_
  refine ww_iconst (v := 0) C dX10_middleLess_2 (by decide) ?_
  refine ww_istore (i := 4) (lv' := [(4, .int (0 : Int32)), (3, .int (0 : Int32)), (0, .ref (ad 4)), (1, .int x1), (2, .int x2)]) C dX10_middleLess_3 (by decide) rfl ?_
  refine ww_sub [2, 3, 4, 1, 0] rfl ?_
  exact w_X10_middleLess_5 C N _ _ _ _ _ h
theorem c_X10_middleLess {l : Launch} {D : va_G} {ad : Nat → Nat} {kK kV : Nat → Nat} {cI cZ : ClassId} {N : Nat} {x1 : Int32} {x2 : Int32} {u : UU} {Q : Int32 → UU → Prop} (h : m_X10_middleLess N x1 x2 u Q) : MI l D [(cI, .int), (cZ, .boolean)] (EH kK kV) yX10_middleLess (Cond.code yX10_middleLess cX10_middleLess 6 (some .int)) rm_X10_middleLess [.ref (ad 4), .int x1, .int x2] (wH ad cI cZ u) (wH ad cI cZ) Q :=
  MI_of (own := RX10) (by decide) rfl (Nat.le_of_ble_eq_true rfl) rfl (fun p e s m args below meth c A C => w_X10_middleLess C h)
theorem hd_X10_middleLess : yX10_middleLess.cls ≠ "java/lang/invoke/MethodHandle" ∧ yX10_middleLess.cls ≠ "java/lang/invoke/VarHandle" ∧ (parseMethodDescriptor yX10_middleLess.desc).map (fun d => d.parameters.length) = some 2 := by decide +kernel
abbrev rm_X10_isCell : Room := { frames := 1, cells := 0, slots := 0, locals := 22 }
set_option maxRecDepth 100000 in
theorem w_X10_isCell {p : Program} {l : Launch} {e : Env} {s : State} {m : MethodId} {args : Array Value} {below : List Frame} {meth : Method} {c : Code} {A : Nat → Prop} {D : va_G} {ad : Nat → Nat} {kK kV : Nat → Nat} {cI cZ : ClassId} {N : Nat} {Q : Int32 → UU → Prop} (C : Cx p m c cX10_isCell 1 s args RX10 meth (some .boolean) A D [(cI, .int), (cZ, .boolean)] (EH kK kV)) : ∀ {x0 : Int32} {u : UU}, m_X10_isCell N x0 u Q → WW p l e rm_X10_isCell s m args below meth c 0 0 (MQ below (QI D A (wH ad cI cZ) Q) args s 0 0 A) A D 1 0 [(0, .int x0)] [] (wH ad cI cZ u) := by
  intro x0 u h
  unfold m_X10_isCell at h
  refine ww_iload_n C dX10_isCell_0 rfl 0 rfl ?_
  refine ww_iconst (v := 0) C dX10_isCell_1 (by decide) ?_
  refine ww_sipush (v := 299) C dX10_isCell_2 (by decide) ?_
  refine ww_callSNi (As := [.int x0, .int (0 : Int32), .int (299 : Int32)]) (rest := []) C EH_ok (c_X11_isIn h) (C.2.2.2.2.1.1 _ (List.mem_of_getElem? (i := 9) rfl)) tb_1_1 tb_2_100 tb_2_101 rfl rfl hd_X11_isIn ⟨Nat.le_of_ble_eq_true rfl, Nat.le_of_ble_eq_true rfl⟩ rfl rfl (Nat.le_of_ble_eq_true rfl) dX10_isCell_5 ⟨Nat.zero_le _, Nat.zero_le _⟩ (fun r_2 u_1 h => ?_)
  exact ww_zret C h.1 h.2 dX10_isCell_8
theorem c_X10_isCell {l : Launch} {D : va_G} {ad : Nat → Nat} {kK kV : Nat → Nat} {cI cZ : ClassId} {N : Nat} {x0 : Int32} {u : UU} {Q : Int32 → UU → Prop} (h : m_X10_isCell N x0 u Q) : MI l D [(cI, .int), (cZ, .boolean)] (EH kK kV) yX10_isCell (Cond.code yX10_isCell cX10_isCell 1 (some .boolean)) rm_X10_isCell [.int x0] (wH ad cI cZ u) (wH ad cI cZ) Q :=
  MI_of (own := RX10) (by decide) rfl (Nat.le_of_ble_eq_true rfl) rfl (fun p e s m args below meth c A C => w_X10_isCell C h)
theorem hd_X10_isCell : yX10_isCell.cls ≠ "java/lang/invoke/MethodHandle" ∧ yX10_isCell.cls ≠ "java/lang/invoke/VarHandle" ∧ (parseMethodDescriptor yX10_isCell.desc).map (fun d => d.parameters.length) = some 1 := by decide +kernel
abbrev rm_X10_placeWidth : Room := { frames := 2, cells := 0, slots := 0, locals := 42 }
set_option maxRecDepth 100000 in
theorem w_X10_placeWidth_46 {p : Program} {l : Launch} {e : Env} {s : State} {m : MethodId} {args : Array Value} {below : List Frame} {meth : Method} {c : Code} {A : Nat → Prop} {D : va_G} {ad : Nat → Nat} {kK kV : Nat → Nat} {cI cZ : ClassId} {N : Nat} {Q : UU → Prop} (C : Cx p m c cX10_placeWidth 5 s args RX10 meth none A D [(cI, .int), (cZ, .boolean)] (EH kK kV)) : ∀ {x3 : Int32} {x4 : Int32} {u : UU}, m_X10_placeWidth_46 N x3 x4 u Q → WW p l e rm_X10_placeWidth s m args below meth c 0 0 (MQ below (QV D A (wH ad cI cZ) Q) args s 0 0 A) A D 5 46 [(0, .ref (ad 4)), (3, .int x3), (4, .int x4)] [] (wH ad cI cZ u) := by
  intro x3 x4 u h
  unfold m_X10_placeWidth_46 at h
  refine ww_aload_n C dX10_placeWidth_46 rfl 0 rfl ?_
  refine ww_get C inX10 rfl 3 (by decide) tb_1_107 HF_4_3 dX10_placeWidth_47 ?_
  refine ww_iload C dX10_placeWidth_50 2 rfl ?_
  refine ww_iload_n C dX10_placeWidth_52 rfl 1 rfl ?_
  obtain ⟨hin, h⟩ := h
  refine ww_iast C 0 rfl HU_22 hin dX10_placeWidth_53 ?_
  refine ww_nU (wH ad cI cZ) (fun u_1 eu_1 => ?_)
  have h := h u_1 eu_1
  exact ww_vret C h dX10_placeWidth_54
set_option maxRecDepth 100000 in
theorem w_X10_placeWidth {p : Program} {l : Launch} {e : Env} {s : State} {m : MethodId} {args : Array Value} {below : List Frame} {meth : Method} {c : Code} {A : Nat → Prop} {D : va_G} {ad : Nat → Nat} {kK kV : Nat → Nat} {cI cZ : ClassId} {N : Nat} {Q : UU → Prop} (C : Cx p m c cX10_placeWidth 5 s args RX10 meth none A D [(cI, .int), (cZ, .boolean)] (EH kK kV)) : ∀ {x1 : Int32} {x2 : Int32} {x3 : Int32} {u : UU}, m_X10_placeWidth N x1 x2 x3 u Q → WW p l e rm_X10_placeWidth s m args below meth c 0 0 (MQ below (QV D A (wH ad cI cZ) Q) args s 0 0 A) A D 5 0 [(0, .ref (ad 4)), (1, .int x1), (2, .int x2), (3, .int x3)] [] (wH ad cI cZ u) := by
  intro x1 x2 x3 u h
  unfold m_X10_placeWidth at h
  refine ww_iload_n C dX10_placeWidth_0 rfl 1 rfl ?_
  refine ww_callSi (As := [.int x1]) (rest := []) C EH_ok (c_X10_isCell h) tb_2_177 tb_2_178 tb_1_5 tb_2_179 rfl rfl hd_X10_isCell ⟨Nat.le_of_ble_eq_true rfl, Nat.le_of_ble_eq_true rfl⟩ rfl rfl (Nat.le_of_ble_eq_true rfl) dX10_placeWidth_1 ⟨Nat.zero_le _, Nat.zero_le _⟩ (fun r_2 u_1 h => ?_)
  refine ww_if_eq (tgt := 17) C dX10_placeWidth_4 (by decide) (fun hc => ?_) (fun hc => ?_)
  · have h := ite_t h hc
    exact ww_vret C h dX10_placeWidth_17
  · have h := ite_f h hc
    refine ww_iload_n C dX10_placeWidth_7 rfl 2 rfl ?_
    refine ww_iconst (v := 0) C dX10_placeWidth_8 (by decide) ?_
    refine ww_bipush (v := 7) C dX10_placeWidth_9 (by decide) ?_
    refine ww_callSNi (As := [.int x2, .int (0 : Int32), .int (7 : Int32)]) (rest := []) C EH_ok (c_X11_isIn h) (C.2.2.2.2.1.1 _ (List.mem_of_getElem? (i := 9) rfl)) tb_1_1 tb_2_100 tb_2_101 rfl rfl hd_X11_isIn ⟨Nat.le_of_ble_eq_true rfl, Nat.le_of_ble_eq_true rfl⟩ rfl rfl (Nat.le_of_ble_eq_true rfl) dX10_placeWidth_11 ⟨Nat.zero_le _, Nat.zero_le _⟩ (fun r_4 u_3 h => ?_)
    refine ww_if_ne (tgt := 18) C dX10_placeWidth_14 (by decide) (fun hc => ?_) (fun hc => ?_)
    · have h := ite_f h hc
      refine ww_iload_n C dX10_placeWidth_18 rfl 1 rfl ?_
      refine ww_bipush (v := 8) C dX10_placeWidth_19 (by decide) ?_
      refine ww_imul C dX10_placeWidth_21 ?_
      refine ww_iload_n C dX10_placeWidth_22 rfl 2 rfl ?_
      refine ww_iadd C dX10_placeWidth_23 ?_
      refine ww_nI (fun z_5 ez_5 => ?_)
      have h := h z_5 ez_5
      refine ww_istore (i := 4) (lv' := [(4, .int z_5), (0, .ref (ad 4)), (1, .int x1), (2, .int x2), (3, .int x3)]) C dX10_placeWidth_24 (by decide) rfl ?_
      refine ww_aload_n C dX10_placeWidth_26 rfl 1 rfl ?_
      refine ww_get C inX10 rfl 3 (by decide) tb_1_107 HF_4_3 dX10_placeWidth_27 ?_
      refine ww_iload C dX10_placeWidth_30 0 rfl ?_
      obtain ⟨hin, h⟩ := h
      refine ww_iald C 0 rfl HA_22 hin dX10_placeWidth_32 ?_
      refine ww_if_ne (tgt := 46) C dX10_placeWidth_33 (by decide) (fun hc => ?_) (fun hc => ?_)
      · have h := ite_f h hc
        refine ww_sub [1, 4, 0] rfl ?_
        exact w_X10_placeWidth_46 C h
      · have h := ite_t h hc
        refine ww_aload_n C dX10_placeWidth_36 rfl 1 rfl ?_
        refine ww_get C inX10 rfl 4 (by decide) tb_1_108 HF_4_4 dX10_placeWidth_37 ?_
        refine ww_iload_n C dX10_placeWidth_40 rfl 2 rfl ?_
        refine ww_dup2 C dX10_placeWidth_41 rfl rfl ?_
        obtain ⟨hin, h⟩ := h
        refine ww_iald C 0 rfl HA_23 hin dX10_placeWidth_42 ?_
        refine ww_iconst (v := 1) C dX10_placeWidth_43 (by decide) ?_
        refine ww_iadd C dX10_placeWidth_44 ?_
        obtain ⟨hin, h⟩ := h
        refine ww_iast C 0 rfl HU_23 hin dX10_placeWidth_45 ?_
        refine ww_nU (wH ad cI cZ) (fun u_6 eu_6 => ?_)
        have h := h u_6 eu_6
        refine ww_sub [1, 4, 0] rfl ?_
        exact w_X10_placeWidth_46 C h
    · have h := ite_t h hc
      exact ww_vret C h dX10_placeWidth_17
theorem c_X10_placeWidth {l : Launch} {D : va_G} {ad : Nat → Nat} {kK kV : Nat → Nat} {cI cZ : ClassId} {N : Nat} {x1 : Int32} {x2 : Int32} {x3 : Int32} {u : UU} {Q : UU → Prop} (h : m_X10_placeWidth N x1 x2 x3 u Q) : MV l D [(cI, .int), (cZ, .boolean)] (EH kK kV) yX10_placeWidth (Cond.code yX10_placeWidth cX10_placeWidth 5 none) rm_X10_placeWidth [.ref (ad 4), .int x1, .int x2, .int x3] (wH ad cI cZ u) (wH ad cI cZ) Q 0 0 :=
  MV_of (own := RX10) (by decide) rfl (Nat.le_of_ble_eq_true rfl) rfl (fun p e s m args below meth c A C => w_X10_placeWidth C h)
theorem hd_X10_placeWidth : yX10_placeWidth.cls ≠ "java/lang/invoke/MethodHandle" ∧ yX10_placeWidth.cls ≠ "java/lang/invoke/VarHandle" ∧ (parseMethodDescriptor yX10_placeWidth.desc).map (fun d => d.parameters.length) = some 3 := by decide +kernel
abbrev rm_J7_fill_53178_p22 : Room := { frames := 0, cells := 0, slots := 0, locals := 0 }
set_option maxRecDepth 100000 in
theorem w_J7_fill_53178_p22_5 {p : Program} {l : Launch} {e : Env} {s : State} {m : MethodId} {args : Array Value} {below : List Frame} {meth : Method} {c : Code} {A : Nat → Prop} {D : va_G} {ad : Nat → Nat} {kK kV : Nat → Nat} {cI cZ : ClassId} {N : Nat} {Q : UU → Prop} (C : Cx p m c cJ7_fill_53178 4 s args RJ7 meth none A D [(cI, .int), (cZ, .boolean)] (EH kK kV)) : ∀ (n : Nat) (x1 : Int32) (x2 : Int32) (x3 : Int32) (u : UU), m_J7_fill_53178_p22_5 N Q n x1 x2 x3 u → WW p l e rm_J7_fill_53178_p22 s m args below meth c 0 0 (MQ below (QV D A (wH ad cI cZ) Q) args s 0 0 A) A D 4 5 [(0, .ref (ad 22)), (1, .int x1), (2, .int x2), (3, .int x3)] [] (wH ad cI cZ u) := by
  intro n
  induction n with
  | zero => intro x1 x2 x3 u h; rw [m_J7_fill_53178_p22_5] at h; exact h.elim
  | succ n ih =>
    intro x1 x2 x3 u h
    rw [m_J7_fill_53178_p22_5] at h
    refine ww_iload_n C dJ7_fill_53178_5 rfl 2 rfl ?_
    refine ww_iload_n C dJ7_fill_53178_6 rfl 3 rfl ?_
    refine ww_icmp_ge (tgt := 20) C dJ7_fill_53178_7 (by decide) (fun hc => ?_) (fun hc => ?_)
    · have h := ite_t h hc
      exact ww_vret C h dJ7_fill_53178_20
    · have h := ite_f h hc
      refine ww_aload_n C dJ7_fill_53178_10 rfl 0 rfl ?_
      refine ww_iload_n C dJ7_fill_53178_11 rfl 2 rfl ?_
      refine ww_iload_n C dJ7_fill_53178_12 rfl 1 rfl ?_
      obtain ⟨hin, h⟩ := h
      refine ww_iast C 0 rfl HU_22 hin dJ7_fill_53178_13 ?_
      refine ww_nU (wH ad cI cZ) (fun u_1 eu_1 => ?_)
      have h := h u_1 eu_1
      obtain ⟨z_2, ez_2⟩ : ∃ z_2 : Int32, z_2 = x2 + (1 : Int32) := ⟨_, rfl⟩
      have h := h z_2 ez_2
      refine ww_iinc (i := 2) (j := 2) (v := z_2) (lv' := [(2, .int z_2), (0, .ref (ad 22)), (1, .int x1), (3, .int x3)]) C dJ7_fill_53178_14 rfl (by rw [ez_2]; rfl) (by decide) rfl ?_
      refine ww_goto (tgt := 5) C dJ7_fill_53178_17 (by decide) ?_
      refine ww_sub [1, 2, 0, 3] rfl ?_
      exact ih _ _ _ _ h
set_option maxRecDepth 100000 in
theorem w_J7_fill_53178_p22 {p : Program} {l : Launch} {e : Env} {s : State} {m : MethodId} {args : Array Value} {below : List Frame} {meth : Method} {c : Code} {A : Nat → Prop} {D : va_G} {ad : Nat → Nat} {kK kV : Nat → Nat} {cI cZ : ClassId} {N : Nat} {Q : UU → Prop} (C : Cx p m c cJ7_fill_53178 4 s args RJ7 meth none A D [(cI, .int), (cZ, .boolean)] (EH kK kV)) : ∀ {x1 : Int32} {u : UU}, m_J7_fill_53178_p22 N x1 u Q → WW p l e rm_J7_fill_53178_p22 s m args below meth c 0 0 (MQ below (QV D A (wH ad cI cZ) Q) args s 0 0 A) A D 4 0 [(0, .ref (ad 22)), (1, .int x1)] [] (wH ad cI cZ u) := by
  intro x1 u h
  unfold m_J7_fill_53178_p22 at h
  refine ww_iconst (v := 0) C dJ7_fill_53178_0 (by decide) ?_
  refine ww_istore_n (i := 2) (lv' := [(2, .int (0 : Int32)), (0, .ref (ad 22)), (1, .int x1)]) C dJ7_fill_53178_1 rfl (by decide) rfl ?_
  refine ww_aload_n C dJ7_fill_53178_2 rfl 1 rfl ?_
  refine ww_alen (v := 2400) C 0 rfl HA_22 (by decide) dJ7_fill_53178_3 ?_
  refine ww_istore_n (i := 3) (lv' := [(3, .int (2400 : Int32)), (2, .int (0 : Int32)), (0, .ref (ad 22)), (1, .int x1)]) C dJ7_fill_53178_4 rfl (by decide) rfl ?_
  refine ww_sub [2, 3, 1, 0] rfl ?_
  exact w_J7_fill_53178_p22_5 C N _ _ _ _ h
theorem c_J7_fill_53178_p22 {l : Launch} {D : va_G} {ad : Nat → Nat} {kK kV : Nat → Nat} {cI cZ : ClassId} {N : Nat} {x1 : Int32} {u : UU} {Q : UU → Prop} (h : m_J7_fill_53178_p22 N x1 u Q) : MV l D [(cI, .int), (cZ, .boolean)] (EH kK kV) yJ7_fill_53178 (Cond.code yJ7_fill_53178 cJ7_fill_53178 4 none) rm_J7_fill_53178_p22 [.ref (ad 22), .int x1] (wH ad cI cZ u) (wH ad cI cZ) Q 0 0 :=
  MV_of (own := RJ7) (by decide) rfl (Nat.le_of_ble_eq_true rfl) rfl (fun p e s m args below meth c A C => w_J7_fill_53178_p22 C h)
theorem hd_J7_fill_53178_p22 : yJ7_fill_53178.cls ≠ "java/lang/invoke/MethodHandle" ∧ yJ7_fill_53178.cls ≠ "java/lang/invoke/VarHandle" ∧ (parseMethodDescriptor yJ7_fill_53178.desc).map (fun d => d.parameters.length) = some 2 := by decide +kernel
abbrev rm_J7_fill_53178_p23 : Room := { frames := 0, cells := 0, slots := 0, locals := 0 }
set_option maxRecDepth 100000 in
theorem w_J7_fill_53178_p23_5 {p : Program} {l : Launch} {e : Env} {s : State} {m : MethodId} {args : Array Value} {below : List Frame} {meth : Method} {c : Code} {A : Nat → Prop} {D : va_G} {ad : Nat → Nat} {kK kV : Nat → Nat} {cI cZ : ClassId} {N : Nat} {Q : UU → Prop} (C : Cx p m c cJ7_fill_53178 4 s args RJ7 meth none A D [(cI, .int), (cZ, .boolean)] (EH kK kV)) : ∀ (n : Nat) (x1 : Int32) (x2 : Int32) (x3 : Int32) (u : UU), m_J7_fill_53178_p23_5 N Q n x1 x2 x3 u → WW p l e rm_J7_fill_53178_p23 s m args below meth c 0 0 (MQ below (QV D A (wH ad cI cZ) Q) args s 0 0 A) A D 4 5 [(0, .ref (ad 23)), (1, .int x1), (2, .int x2), (3, .int x3)] [] (wH ad cI cZ u) := by
  intro n
  induction n with
  | zero => intro x1 x2 x3 u h; rw [m_J7_fill_53178_p23_5] at h; exact h.elim
  | succ n ih =>
    intro x1 x2 x3 u h
    rw [m_J7_fill_53178_p23_5] at h
    refine ww_iload_n C dJ7_fill_53178_5 rfl 2 rfl ?_
    refine ww_iload_n C dJ7_fill_53178_6 rfl 3 rfl ?_
    refine ww_icmp_ge (tgt := 20) C dJ7_fill_53178_7 (by decide) (fun hc => ?_) (fun hc => ?_)
    · have h := ite_t h hc
      exact ww_vret C h dJ7_fill_53178_20
    · have h := ite_f h hc
      refine ww_aload_n C dJ7_fill_53178_10 rfl 0 rfl ?_
      refine ww_iload_n C dJ7_fill_53178_11 rfl 2 rfl ?_
      refine ww_iload_n C dJ7_fill_53178_12 rfl 1 rfl ?_
      obtain ⟨hin, h⟩ := h
      refine ww_iast C 0 rfl HU_23 hin dJ7_fill_53178_13 ?_
      refine ww_nU (wH ad cI cZ) (fun u_1 eu_1 => ?_)
      have h := h u_1 eu_1
      obtain ⟨z_2, ez_2⟩ : ∃ z_2 : Int32, z_2 = x2 + (1 : Int32) := ⟨_, rfl⟩
      have h := h z_2 ez_2
      refine ww_iinc (i := 2) (j := 2) (v := z_2) (lv' := [(2, .int z_2), (0, .ref (ad 23)), (1, .int x1), (3, .int x3)]) C dJ7_fill_53178_14 rfl (by rw [ez_2]; rfl) (by decide) rfl ?_
      refine ww_goto (tgt := 5) C dJ7_fill_53178_17 (by decide) ?_
      refine ww_sub [1, 2, 0, 3] rfl ?_
      exact ih _ _ _ _ h
set_option maxRecDepth 100000 in
theorem w_J7_fill_53178_p23 {p : Program} {l : Launch} {e : Env} {s : State} {m : MethodId} {args : Array Value} {below : List Frame} {meth : Method} {c : Code} {A : Nat → Prop} {D : va_G} {ad : Nat → Nat} {kK kV : Nat → Nat} {cI cZ : ClassId} {N : Nat} {Q : UU → Prop} (C : Cx p m c cJ7_fill_53178 4 s args RJ7 meth none A D [(cI, .int), (cZ, .boolean)] (EH kK kV)) : ∀ {x1 : Int32} {u : UU}, m_J7_fill_53178_p23 N x1 u Q → WW p l e rm_J7_fill_53178_p23 s m args below meth c 0 0 (MQ below (QV D A (wH ad cI cZ) Q) args s 0 0 A) A D 4 0 [(0, .ref (ad 23)), (1, .int x1)] [] (wH ad cI cZ u) := by
  intro x1 u h
  unfold m_J7_fill_53178_p23 at h
  refine ww_iconst (v := 0) C dJ7_fill_53178_0 (by decide) ?_
  refine ww_istore_n (i := 2) (lv' := [(2, .int (0 : Int32)), (0, .ref (ad 23)), (1, .int x1)]) C dJ7_fill_53178_1 rfl (by decide) rfl ?_
  refine ww_aload_n C dJ7_fill_53178_2 rfl 1 rfl ?_
  refine ww_alen (v := 300) C 0 rfl HA_23 (by decide) dJ7_fill_53178_3 ?_
  refine ww_istore_n (i := 3) (lv' := [(3, .int (300 : Int32)), (2, .int (0 : Int32)), (0, .ref (ad 23)), (1, .int x1)]) C dJ7_fill_53178_4 rfl (by decide) rfl ?_
  refine ww_sub [2, 3, 1, 0] rfl ?_
  exact w_J7_fill_53178_p23_5 C N _ _ _ _ h
theorem c_J7_fill_53178_p23 {l : Launch} {D : va_G} {ad : Nat → Nat} {kK kV : Nat → Nat} {cI cZ : ClassId} {N : Nat} {x1 : Int32} {u : UU} {Q : UU → Prop} (h : m_J7_fill_53178_p23 N x1 u Q) : MV l D [(cI, .int), (cZ, .boolean)] (EH kK kV) yJ7_fill_53178 (Cond.code yJ7_fill_53178 cJ7_fill_53178 4 none) rm_J7_fill_53178_p23 [.ref (ad 23), .int x1] (wH ad cI cZ u) (wH ad cI cZ) Q 0 0 :=
  MV_of (own := RJ7) (by decide) rfl (Nat.le_of_ble_eq_true rfl) rfl (fun p e s m args below meth c A C => w_J7_fill_53178_p23 C h)
theorem hd_J7_fill_53178_p23 : yJ7_fill_53178.cls ≠ "java/lang/invoke/MethodHandle" ∧ yJ7_fill_53178.cls ≠ "java/lang/invoke/VarHandle" ∧ (parseMethodDescriptor yJ7_fill_53178.desc).map (fun d => d.parameters.length) = some 2 := by decide +kernel
abbrev rm_X10_placeWidths : Room := { frames := 3, cells := 0, slots := 0, locals := 66 }
set_option maxRecDepth 100000 in
theorem w_X10_placeWidths_76 {p : Program} {l : Launch} {e : Env} {s : State} {m : MethodId} {args : Array Value} {below : List Frame} {meth : Method} {c : Code} {A : Nat → Prop} {D : va_G} {ad : Nat → Nat} {kK kV : Nat → Nat} {cI cZ : ClassId} {N : Nat} {Q : UU → Prop} {k18 : Int32 → UU → Prop} (C : Cx p m c cX10_placeWidths 2 s args RX10 meth none A D [(cI, .int), (cZ, .boolean)] (EH kK kV)) (hk18 : ∀ (x1 : Int32) (u : UU), k18 x1 u → WW p l e rm_X10_placeWidths s m args below meth c 0 0 (MQ below (QV D A (wH ad cI cZ) Q) args s 0 0 A) A D 2 18 [(0, .ref (ad 4)), (1, .int x1)] [] (wH ad cI cZ u)) : ∀ {x1 : Int32} {u : UU}, m_X10_placeWidths_76 N k18 x1 u Q → WW p l e rm_X10_placeWidths s m args below meth c 0 0 (MQ below (QV D A (wH ad cI cZ) Q) args s 0 0 A) A D 2 76 [(0, .ref (ad 4)), (1, .int x1)] [] (wH ad cI cZ u) := by
  intro x1 u h
  unfold m_X10_placeWidths_76 at h
  obtain ⟨z_1, ez_1⟩ : ∃ z_1 : Int32, z_1 = x1 + (1 : Int32) := ⟨_, rfl⟩
  have h := h z_1 ez_1
  refine ww_iinc (i := 1) (j := 1) (v := z_1) (lv' := [(1, .int z_1), (0, .ref (ad 4))]) C dX10_placeWidths_76 rfl (by rw [ez_1]; rfl) (by decide) rfl ?_
  refine ww_goto (tgt := 18) C dX10_placeWidths_79 (by decide) ?_
  refine ww_sub [1, 0] rfl ?_
  exact hk18 _ _ h
set_option maxRecDepth 100000 in
theorem w_X10_placeWidths_18 {p : Program} {l : Launch} {e : Env} {s : State} {m : MethodId} {args : Array Value} {below : List Frame} {meth : Method} {c : Code} {A : Nat → Prop} {D : va_G} {ad : Nat → Nat} {kK kV : Nat → Nat} {cI cZ : ClassId} {N : Nat} {Q : UU → Prop} (C : Cx p m c cX10_placeWidths 2 s args RX10 meth none A D [(cI, .int), (cZ, .boolean)] (EH kK kV)) : ∀ (n : Nat) (x1 : Int32) (u : UU), m_X10_placeWidths_18 N Q n x1 u → WW p l e rm_X10_placeWidths s m args below meth c 0 0 (MQ below (QV D A (wH ad cI cZ) Q) args s 0 0 A) A D 2 18 [(0, .ref (ad 4)), (1, .int x1)] [] (wH ad cI cZ u) := by
  intro n
  induction n with
  | zero => intro x1 u h; rw [m_X10_placeWidths_18] at h; exact h.elim
  | succ n ih =>
    intro x1 u h
    rw [m_X10_placeWidths_18] at h
    refine ww_iload_n C dX10_placeWidths_18 rfl 1 rfl ?_
    refine ww_aload_n C dX10_placeWidths_19 rfl 0 rfl ?_
    refine ww_get C inX10 rfl 1 (by decide) tb_1_105 HF_4_1 dX10_placeWidths_20 ?_
    refine ww_get C inX3 rfl 4 (by decide) tb_1_73 HF_2_4 dX10_placeWidths_23 ?_
    refine ww_icmp_ge (tgt := 82) C dX10_placeWidths_26 (by decide) (fun hc => ?_) (fun hc => ?_)
    · have h := ite_t h hc
      exact ww_vret C h dX10_placeWidths_82
    · have h := ite_f h hc
      refine ww_aload_n C dX10_placeWidths_29 rfl 0 rfl ?_
      refine ww_get C inX10 rfl 1 (by decide) tb_1_105 HF_4_1 dX10_placeWidths_30 ?_
      refine ww_get C inX3 rfl 3 (by decide) tb_1_70 HF_2_3 dX10_placeWidths_33 ?_
      refine ww_iload_n C dX10_placeWidths_36 rfl 1 rfl ?_
      obtain ⟨hin, h⟩ := h
      refine ww_iald C 0 rfl HA_19 hin dX10_placeWidths_37 ?_
      refine ww_aload_n C dX10_placeWidths_38 rfl 0 rfl ?_
      refine ww_get C inX10 rfl 8 (by decide) tb_1_112 HF_4_8 dX10_placeWidths_39 ?_
      refine ww_icmp_gt (tgt := 76) C dX10_placeWidths_42 (by decide) (fun hc => ?_) (fun hc => ?_)
      · have h := ite_t h hc
        exact w_X10_placeWidths_76 C ih h
      · have h := ite_f h hc
        refine ww_aload_n C dX10_placeWidths_45 rfl 0 rfl ?_
        refine ww_aload_n C dX10_placeWidths_46 rfl 0 rfl ?_
        refine ww_get C inX10 rfl 1 (by decide) tb_1_105 HF_4_1 dX10_placeWidths_47 ?_
        refine ww_get C inX3 rfl 0 (by decide) tb_1_64 HF_2_0 dX10_placeWidths_50 ?_
        refine ww_iload_n C dX10_placeWidths_53 rfl 1 rfl ?_
        obtain ⟨hin, h⟩ := h
        refine ww_iald C 0 rfl HA_16 hin dX10_placeWidths_54 ?_
        refine ww_aload_n C dX10_placeWidths_55 rfl 0 rfl ?_
        refine ww_get C inX10 rfl 1 (by decide) tb_1_105 HF_4_1 dX10_placeWidths_56 ?_
        refine ww_get C inX3 rfl 1 (by decide) tb_1_66 HF_2_1 dX10_placeWidths_59 ?_
        refine ww_iload_n C dX10_placeWidths_62 rfl 1 rfl ?_
        obtain ⟨hin, h⟩ := h
        refine ww_iald C 0 rfl HA_17 hin dX10_placeWidths_63 ?_
        refine ww_aload_n C dX10_placeWidths_64 rfl 0 rfl ?_
        refine ww_get C inX10 rfl 1 (by decide) tb_1_105 HF_4_1 dX10_placeWidths_65 ?_
        refine ww_get C inX3 rfl 2 (by decide) tb_1_68 HF_2_2 dX10_placeWidths_68 ?_
        refine ww_iload_n C dX10_placeWidths_71 rfl 1 rfl ?_
        obtain ⟨hin, h⟩ := h
        refine ww_iald C 0 rfl HA_18 hin dX10_placeWidths_72 ?_
        refine ww_callVv (As := [.int (u.2.1 3 x1.toNatClampNeg), .int (u.2.1 4 x1.toNatClampNeg), .int (u.2.1 5 x1.toNatClampNeg)]) (rest := []) C EH_ok (c_X10_placeWidth h) tb_2_173 tb_2_175 tbs_3 tb_1_5 tb_2_176 rfl rfl ⟨rfl, hd_X10_placeWidth⟩ ⟨Nat.le_of_ble_eq_true rfl, Nat.le_of_ble_eq_true rfl⟩ rfl HF_4_0 rfl rfl (Nat.le_of_ble_eq_true rfl) dX10_placeWidths_73 ⟨Nat.zero_le _, Nat.zero_le _⟩ (fun u_1 h => ?_)
        exact w_X10_placeWidths_76 C ih h
set_option maxRecDepth 100000 in
theorem w_X10_placeWidths {p : Program} {l : Launch} {e : Env} {s : State} {m : MethodId} {args : Array Value} {below : List Frame} {meth : Method} {c : Code} {A : Nat → Prop} {D : va_G} {ad : Nat → Nat} {kK kV : Nat → Nat} {cI cZ : ClassId} {N : Nat} {Q : UU → Prop} (C : Cx p m c cX10_placeWidths 2 s args RX10 meth none A D [(cI, .int), (cZ, .boolean)] (EH kK kV)) : ∀ {u : UU}, m_X10_placeWidths N  u Q → WW p l e rm_X10_placeWidths s m args below meth c 0 0 (MQ below (QV D A (wH ad cI cZ) Q) args s 0 0 A) A D 2 0 [(0, .ref (ad 4))] [] (wH ad cI cZ u) := by
  intro  u h
  unfold m_X10_placeWidths at h
  refine ww_aload_n C dX10_placeWidths_0 rfl 0 rfl ?_
  refine ww_get C inX10 rfl 3 (by decide) tb_1_107 HF_4_3 dX10_placeWidths_1 ?_
  refine ww_iconst (v := 0) C dX10_placeWidths_4 (by decide) ?_
  refine ww_callSv (As := [.ref (ad 22), .int (0 : Int32)]) (rest := []) C EH_ok (c_J7_fill_53178_p22 h) tb_2_170 tb_2_171 tb_1_15 tb_2_172 rfl rfl hd_J7_fill_53178_p22 ⟨Nat.le_of_ble_eq_true rfl, Nat.le_of_ble_eq_true rfl⟩ rfl rfl (Nat.le_of_ble_eq_true rfl) dX10_placeWidths_5 ⟨Nat.zero_le _, Nat.zero_le _⟩ (fun u_1 h => ?_)
  refine ww_aload_n C dX10_placeWidths_8 rfl 0 rfl ?_
  refine ww_get C inX10 rfl 4 (by decide) tb_1_108 HF_4_4 dX10_placeWidths_9 ?_
  refine ww_iconst (v := 0) C dX10_placeWidths_12 (by decide) ?_
  refine ww_callSv (As := [.ref (ad 23), .int (0 : Int32)]) (rest := []) C EH_ok (c_J7_fill_53178_p23 h) tb_2_170 tb_2_171 tb_1_15 tb_2_172 rfl rfl hd_J7_fill_53178_p23 ⟨Nat.le_of_ble_eq_true rfl, Nat.le_of_ble_eq_true rfl⟩ rfl rfl (Nat.le_of_ble_eq_true rfl) dX10_placeWidths_13 ⟨Nat.zero_le _, Nat.zero_le _⟩ (fun u_3 h => ?_)
  refine ww_iconst (v := 0) C dX10_placeWidths_16 (by decide) ?_
  refine ww_istore_n (i := 1) (lv' := [(1, .int (0 : Int32)), (0, .ref (ad 4))]) C dX10_placeWidths_17 rfl (by decide) rfl ?_
  refine ww_sub [1, 0] rfl ?_
  exact w_X10_placeWidths_18 C N _ _ h
theorem c_X10_placeWidths {l : Launch} {D : va_G} {ad : Nat → Nat} {kK kV : Nat → Nat} {cI cZ : ClassId} {N : Nat}  {u : UU} {Q : UU → Prop} (h : m_X10_placeWidths N  u Q) : MV l D [(cI, .int), (cZ, .boolean)] (EH kK kV) yX10_placeWidths (Cond.code yX10_placeWidths cX10_placeWidths 2 none) rm_X10_placeWidths [.ref (ad 4)] (wH ad cI cZ u) (wH ad cI cZ) Q 0 0 :=
  MV_of (own := RX10) (by decide) rfl (Nat.le_of_ble_eq_true rfl) rfl (fun p e s m args below meth c A C => w_X10_placeWidths C h)
theorem hd_X10_placeWidths : yX10_placeWidths.cls ≠ "java/lang/invoke/MethodHandle" ∧ yX10_placeWidths.cls ≠ "java/lang/invoke/VarHandle" ∧ (parseMethodDescriptor yX10_placeWidths.desc).map (fun d => d.parameters.length) = some 0 := by decide +kernel
abbrev rm_X10_show : Room := { frames := 4, cells := 0, slots := 0, locals := 87 }
set_option maxRecDepth 100000 in
theorem w_X10_show_59 {p : Program} {l : Launch} {e : Env} {s : State} {m : MethodId} {args : Array Value} {below : List Frame} {meth : Method} {c : Code} {A : Nat → Prop} {D : va_G} {ad : Nat → Nat} {kK kV : Nat → Nat} {cI cZ : ClassId} {N : Nat} {Q : UU → Prop} {k30 : Int32 → Int32 → UU → Prop} (C : Cx p m c cX10_show 4 s args RX10 meth none A D [(cI, .int), (cZ, .boolean)] (EH kK kV)) (hk30 : ∀ (x2 : Int32) (x3 : Int32) (u : UU), k30 x2 x3 u → WW p l e rm_X10_show s m args below meth c 0 0 (MQ below (QV D A (wH ad cI cZ) Q) args s 0 0 A) A D 4 30 [(0, .ref (ad 4)), (2, .int x2), (3, .int x3)] [] (wH ad cI cZ u)) : ∀ {x2 : Int32} {x3 : Int32} {y1 : Int32} {y2 : Int32} {u : UU}, m_X10_show_59 N k30 x2 x3 y1 y2 u Q → WW p l e rm_X10_show s m args below meth c 0 0 (MQ below (QV D A (wH ad cI cZ) Q) args s 0 0 A) A D 4 59 [(0, .ref (ad 4)), (2, .int x2), (3, .int x3)] [.int y2, .int y1, .ref (ad 24)] (wH ad cI cZ u) := by
  intro x2 x3 y1 y2 u h
  unfold m_X10_show_59 at h
  obtain ⟨hin, h⟩ := h
  refine ww_iast C 0 rfl HU_24 hin dX10_show_59 ?_
  refine ww_nU (wH ad cI cZ) (fun u_1 eu_1 => ?_)
  have h := h u_1 eu_1
  obtain ⟨z_2, ez_2⟩ : ∃ z_2 : Int32, z_2 = x3 + (1 : Int32) := ⟨_, rfl⟩
  have h := h z_2 ez_2
  refine ww_iinc (i := 3) (j := 2) (v := z_2) (lv' := [(3, .int z_2), (0, .ref (ad 4)), (2, .int x2)]) C dX10_show_60 rfl (by rw [ez_2]; rfl) (by decide) rfl ?_
  refine ww_goto (tgt := 30) C dX10_show_63 (by decide) ?_
  refine ww_sub [1, 2, 0] rfl ?_
  exact hk30 _ _ _ h
set_option maxRecDepth 100000 in
theorem w_X10_show_68 {p : Program} {l : Launch} {e : Env} {s : State} {m : MethodId} {args : Array Value} {below : List Frame} {meth : Method} {c : Code} {A : Nat → Prop} {D : va_G} {ad : Nat → Nat} {kK kV : Nat → Nat} {cI cZ : ClassId} {N : Nat} {Q : UU → Prop} (C : Cx p m c cX10_show 4 s args RX10 meth none A D [(cI, .int), (cZ, .boolean)] (EH kK kV)) : ∀ (n : Nat) (x3 : Int32) (u : UU), m_X10_show_68 N Q n x3 u → WW p l e rm_X10_show s m args below meth c 0 0 (MQ below (QV D A (wH ad cI cZ) Q) args s 0 0 A) A D 4 68 [(0, .ref (ad 4)), (3, .int x3)] [] (wH ad cI cZ u) := by
  intro n
  induction n with
  | zero => intro x3 u h; rw [m_X10_show_68] at h; exact h.elim
  | succ n ih =>
    intro x3 u h
    rw [m_X10_show_68] at h
    refine ww_iload_n C dX10_show_68 rfl 1 rfl ?_
    refine ww_bipush (v := 8) C dX10_show_69 (by decide) ?_
    refine ww_icmp_ge (tgt := 91) C dX10_show_71 (by decide) (fun hc => ?_) (fun hc => ?_)
    · have h := ite_t h hc
      exact ww_vret C h dX10_show_91
    · have h := ite_f h hc
      refine ww_aload_n C dX10_show_74 rfl 0 rfl ?_
      refine ww_get C inX10 rfl 6 (by decide) tb_1_110 HF_4_6 dX10_show_75 ?_
      refine ww_iload_n C dX10_show_78 rfl 1 rfl ?_
      refine ww_aload_n C dX10_show_79 rfl 0 rfl ?_
      refine ww_iload_n C dX10_show_80 rfl 1 rfl ?_
      refine ww_callVi (As := [.int x3]) (rest := [.int x3, .ref (ad 25)]) C EH_ok (c_X10_findLeaning h) tb_2_194 tb_2_196 tbs_7 tb_1_5 tb_2_197 rfl rfl ⟨rfl, hd_X10_findLeaning⟩ ⟨Nat.le_of_ble_eq_true rfl, Nat.le_of_ble_eq_true rfl⟩ rfl HF_4_0 rfl rfl (Nat.le_of_ble_eq_true rfl) dX10_show_81 ⟨Nat.zero_le _, Nat.zero_le _⟩ (fun r_2 u_1 h => ?_)
      obtain ⟨hin, h⟩ := h
      refine ww_iast C 0 rfl HU_25 hin dX10_show_84 ?_
      refine ww_nU (wH ad cI cZ) (fun u_3 eu_3 => ?_)
      have h := h u_3 eu_3
      obtain ⟨z_4, ez_4⟩ : ∃ z_4 : Int32, z_4 = x3 + (1 : Int32) := ⟨_, rfl⟩
      have h := h z_4 ez_4
      refine ww_iinc (i := 3) (j := 1) (v := z_4) (lv' := [(3, .int z_4), (0, .ref (ad 4))]) C dX10_show_85 rfl (by rw [ez_4]; rfl) (by decide) rfl ?_
      refine ww_goto (tgt := 68) C dX10_show_88 (by decide) ?_
      refine ww_sub [1, 0] rfl ?_
      exact ih _ _ h
set_option maxRecDepth 100000 in
theorem w_X10_show_30 {p : Program} {l : Launch} {e : Env} {s : State} {m : MethodId} {args : Array Value} {below : List Frame} {meth : Method} {c : Code} {A : Nat → Prop} {D : va_G} {ad : Nat → Nat} {kK kV : Nat → Nat} {cI cZ : ClassId} {N : Nat} {Q : UU → Prop} (C : Cx p m c cX10_show 4 s args RX10 meth none A D [(cI, .int), (cZ, .boolean)] (EH kK kV)) : ∀ (n : Nat) (x2 : Int32) (x3 : Int32) (u : UU), m_X10_show_30 N Q n x2 x3 u → WW p l e rm_X10_show s m args below meth c 0 0 (MQ below (QV D A (wH ad cI cZ) Q) args s 0 0 A) A D 4 30 [(0, .ref (ad 4)), (2, .int x2), (3, .int x3)] [] (wH ad cI cZ u) := by
  intro n
  induction n with
  | zero => intro x2 x3 u h; rw [m_X10_show_30] at h; exact h.elim
  | succ n ih =>
    intro x2 x3 u h
    rw [m_X10_show_30] at h
    refine ww_iload_n C dX10_show_30 rfl 2 rfl ?_
    refine ww_iload_n C dX10_show_31 rfl 1 rfl ?_
    refine ww_icmp_ge (tgt := 66) C dX10_show_32 (by decide) (fun hc => ?_) (fun hc => ?_)
    · have h := ite_t h hc
      refine ww_iconst (v := 0) C dX10_show_66 (by decide) ?_
      refine ww_istore_n (i := 3) (lv' := [(3, .int (0 : Int32)), (0, .ref (ad 4)), (2, .int x2)]) C dX10_show_67 rfl (by decide) rfl ?_
      refine ww_sub [1, 0] rfl ?_
      exact w_X10_show_68 C N _ _ h
    · have h := ite_f h hc
      refine ww_aload_n C dX10_show_35 rfl 0 rfl ?_
      refine ww_get C inX10 rfl 5 (by decide) tb_1_109 HF_4_5 dX10_show_36 ?_
      refine ww_iload_n C dX10_show_39 rfl 2 rfl ?_
      refine ww_aload_n C dX10_show_40 rfl 0 rfl ?_
      refine ww_get C inX10 rfl 4 (by decide) tb_1_108 HF_4_4 dX10_show_41 ?_
      refine ww_iload_n C dX10_show_44 rfl 2 rfl ?_
      obtain ⟨hin, h⟩ := h
      refine ww_iald C 0 rfl HA_23 hin dX10_show_45 ?_
      refine ww_if_ne (tgt := 53) C dX10_show_46 (by decide) (fun hc => ?_) (fun hc => ?_)
      · have h := ite_f h hc
        refine ww_aload_n C dX10_show_53 rfl 0 rfl ?_
        refine ww_iload_n C dX10_show_54 rfl 2 rfl ?_
        refine ww_iconst (v := 0) C dX10_show_55 (by decide) ?_
        refine ww_callVi (As := [.int x3, .int (0 : Int32)]) (rest := [.int x3, .ref (ad 24)]) C EH_ok (c_X10_middleLess h) tb_2_186 tb_2_188 tbs_5 tb_1_5 tb_2_189 rfl rfl ⟨rfl, hd_X10_middleLess⟩ ⟨Nat.le_of_ble_eq_true rfl, Nat.le_of_ble_eq_true rfl⟩ rfl HF_4_0 rfl rfl (Nat.le_of_ble_eq_true rfl) dX10_show_56 ⟨Nat.zero_le _, Nat.zero_le _⟩ (fun r_2 u_1 h => ?_)
        exact w_X10_show_59 C ih h
      · have h := ite_t h hc
        refine ww_iconst (v := 0) C dX10_show_49 (by decide) ?_
        refine ww_goto (tgt := 59) C dX10_show_50 (by decide) ?_
        exact w_X10_show_59 C ih h
set_option maxRecDepth 100000 in
theorem w_X10_show {p : Program} {l : Launch} {e : Env} {s : State} {m : MethodId} {args : Array Value} {below : List Frame} {meth : Method} {c : Code} {A : Nat → Prop} {D : va_G} {ad : Nat → Nat} {kK kV : Nat → Nat} {cI cZ : ClassId} {N : Nat} {Q : UU → Prop} (C : Cx p m c cX10_show 4 s args RX10 meth none A D [(cI, .int), (cZ, .boolean)] (EH kK kV)) : ∀ {x1 : Int32} {u : UU}, m_X10_show N x1 u Q → WW p l e rm_X10_show s m args below meth c 0 0 (MQ below (QV D A (wH ad cI cZ) Q) args s 0 0 A) A D 4 0 [(0, .ref (ad 4)), (1, .int x1)] [] (wH ad cI cZ u) := by
  intro x1 u h
  unfold m_X10_show at h
  refine ww_aload_n C dX10_show_0 rfl 0 rfl ?_
  refine ww_iload_n C dX10_show_1 rfl 1 rfl ?_
  refine ww_put C inX10 rfl tyX10 tyX10_ok nmX10 8 (by decide) tb_1_112 rfl rfl rfl HS_4_8 dX10_show_2 ?_
  refine ww_nU (wH ad cI cZ) (fun u_1 eu_1 => ?_)
  have h := h u_1 eu_1
  refine ww_aload_n C dX10_show_5 rfl 0 rfl ?_
  refine ww_get C inX10 rfl 9 (by decide) tb_1_113 HF_4_9 dX10_show_6 ?_
  refine ww_iload_n C dX10_show_9 rfl 1 rfl ?_
  refine ww_icmp_ne (tgt := 14) C dX10_show_10 (by decide) (fun hc => ?_) (fun hc => ?_)
  · have h := ite_f h hc
    refine ww_aload_n C dX10_show_14 rfl 0 rfl ?_
    refine ww_iload_n C dX10_show_15 rfl 1 rfl ?_
    refine ww_put C inX10 rfl tyX10 tyX10_ok nmX10 9 (by decide) tb_1_113 rfl rfl rfl HS_4_9 dX10_show_16 ?_
    refine ww_nU (wH ad cI cZ) (fun u_2 eu_2 => ?_)
    have h := h u_2 eu_2
    refine ww_aload_n C dX10_show_19 rfl 0 rfl ?_
    refine ww_callVv (As := []) (rest := []) C EH_ok (c_X10_placeWidths h) tb_2_166 tb_2_168 tbs_2 tb_1_5 tb_2_169 rfl rfl ⟨rfl, hd_X10_placeWidths⟩ ⟨Nat.le_of_ble_eq_true rfl, Nat.le_of_ble_eq_true rfl⟩ rfl HF_4_0 rfl rfl (Nat.le_of_ble_eq_true rfl) dX10_show_20 ⟨Nat.zero_le _, Nat.zero_le _⟩ (fun u_3 h => ?_)
    refine ww_aload_n C dX10_show_23 rfl 0 rfl ?_
    refine ww_callVi (As := []) (rest := []) C EH_ok (c_X10_cellsInUse h) tb_2_181 tb_2_183 tbs_4 tb_1_5 tb_2_184 rfl rfl ⟨rfl, hd_X10_cellsInUse⟩ ⟨Nat.le_of_ble_eq_true rfl, Nat.le_of_ble_eq_true rfl⟩ rfl HF_4_0 rfl rfl (Nat.le_of_ble_eq_true rfl) dX10_show_24 ⟨Nat.zero_le _, Nat.zero_le _⟩ (fun r_6 u_5 h => ?_)
    refine ww_istore_n (i := 2) (lv' := [(2, .int r_6), (0, .ref (ad 4)), (1, .int x1)]) C dX10_show_27 rfl (by decide) rfl ?_
    refine ww_iconst (v := 0) C dX10_show_28 (by decide) ?_
    refine ww_istore_n (i := 3) (lv' := [(3, .int (0 : Int32)), (2, .int r_6), (0, .ref (ad 4)), (1, .int x1)]) C dX10_show_29 rfl (by decide) rfl ?_
    refine ww_sub [2, 1, 0] rfl ?_
    exact w_X10_show_30 C N _ _ _ h
  · have h := ite_t h hc
    exact ww_vret C h dX10_show_13
theorem c_X10_show {l : Launch} {D : va_G} {ad : Nat → Nat} {kK kV : Nat → Nat} {cI cZ : ClassId} {N : Nat} {x1 : Int32} {u : UU} {Q : UU → Prop} (h : m_X10_show N x1 u Q) : MV l D [(cI, .int), (cZ, .boolean)] (EH kK kV) yX10_show (Cond.code yX10_show cX10_show 4 none) rm_X10_show [.ref (ad 4), .int x1] (wH ad cI cZ u) (wH ad cI cZ) Q 0 0 :=
  MV_of (own := RX10) (by decide) rfl (Nat.le_of_ble_eq_true rfl) rfl (fun p e s m args below meth c A C => w_X10_show C h)
theorem hd_X10_show : yX10_show.cls ≠ "java/lang/invoke/MethodHandle" ∧ yX10_show.cls ≠ "java/lang/invoke/VarHandle" ∧ (parseMethodDescriptor yX10_show.desc).map (fun d => d.parameters.length) = some 1 := by decide +kernel
abbrev rm_X10_handsOf : Room := { frames := 2, cells := 0, slots := 0, locals := 42 }
set_option maxRecDepth 100000 in
theorem w_X10_handsOf {p : Program} {l : Launch} {e : Env} {s : State} {m : MethodId} {args : Array Value} {below : List Frame} {meth : Method} {c : Code} {A : Nat → Prop} {D : va_G} {ad : Nat → Nat} {kK kV : Nat → Nat} {cI cZ : ClassId} {N : Nat} {Q : Int32 → UU → Prop} (C : Cx p m c cX10_handsOf 2 s args RX10 meth (some .int) A D [(cI, .int), (cZ, .boolean)] (EH kK kV)) : ∀ {x1 : Int32} {u : UU}, m_X10_handsOf N x1 u Q → WW p l e rm_X10_handsOf s m args below meth c 0 0 (MQ below (QI D A (wH ad cI cZ) Q) args s 0 0 A) A D 2 0 [(0, .ref (ad 4)), (1, .int x1)] [] (wH ad cI cZ u) := by
  intro x1 u h
  unfold m_X10_handsOf at h
  refine ww_iload_n C dX10_handsOf_0 rfl 1 rfl ?_
  refine ww_callSi (As := [.int x1]) (rest := []) C EH_ok (c_X10_isCell h) tb_2_177 tb_2_178 tb_1_5 tb_2_179 rfl rfl hd_X10_isCell ⟨Nat.le_of_ble_eq_true rfl, Nat.le_of_ble_eq_true rfl⟩ rfl rfl (Nat.le_of_ble_eq_true rfl) dX10_handsOf_1 ⟨Nat.zero_le _, Nat.zero_le _⟩ (fun r_2 u_1 h => ?_)
  refine ww_if_eq (tgt := 16) C dX10_handsOf_4 (by decide) (fun hc => ?_) (fun hc => ?_)
  · have h := ite_t h hc
    refine ww_iconst (v := 0) C dX10_handsOf_16 (by decide) ?_
    exact ww_iret C h dX10_handsOf_17
  · have h := ite_f h hc
    refine ww_aload_n C dX10_handsOf_7 rfl 0 rfl ?_
    refine ww_get C inX10 rfl 4 (by decide) tb_1_108 HF_4_4 dX10_handsOf_8 ?_
    refine ww_iload_n C dX10_handsOf_11 rfl 1 rfl ?_
    obtain ⟨hin, h⟩ := h
    refine ww_iald C 0 rfl HA_23 hin dX10_handsOf_12 ?_
    refine ww_goto (tgt := 17) C dX10_handsOf_13 (by decide) ?_
    exact ww_iret C h dX10_handsOf_17
theorem c_X10_handsOf {l : Launch} {D : va_G} {ad : Nat → Nat} {kK kV : Nat → Nat} {cI cZ : ClassId} {N : Nat} {x1 : Int32} {u : UU} {Q : Int32 → UU → Prop} (h : m_X10_handsOf N x1 u Q) : MI l D [(cI, .int), (cZ, .boolean)] (EH kK kV) yX10_handsOf (Cond.code yX10_handsOf cX10_handsOf 2 (some .int)) rm_X10_handsOf [.ref (ad 4), .int x1] (wH ad cI cZ u) (wH ad cI cZ) Q :=
  MI_of (own := RX10) (by decide) rfl (Nat.le_of_ble_eq_true rfl) rfl (fun p e s m args below meth c A C => w_X10_handsOf C h)
theorem hd_X10_handsOf : yX10_handsOf.cls ≠ "java/lang/invoke/MethodHandle" ∧ yX10_handsOf.cls ≠ "java/lang/invoke/VarHandle" ∧ (parseMethodDescriptor yX10_handsOf.desc).map (fun d => d.parameters.length) = some 1 := by decide +kernel
abbrev rm_X10_rawWidth : Room := { frames := 2, cells := 0, slots := 0, locals := 42 }
set_option maxRecDepth 100000 in
theorem w_X10_rawWidth {p : Program} {l : Launch} {e : Env} {s : State} {m : MethodId} {args : Array Value} {below : List Frame} {meth : Method} {c : Code} {A : Nat → Prop} {D : va_G} {ad : Nat → Nat} {kK kV : Nat → Nat} {cI cZ : ClassId} {N : Nat} {Q : Int32 → UU → Prop} (C : Cx p m c cX10_rawWidth 2 s args RX10 meth (some .int) A D [(cI, .int), (cZ, .boolean)] (EH kK kV)) : ∀ {x1 : Int32} {u : UU}, m_X10_rawWidth N x1 u Q → WW p l e rm_X10_rawWidth s m args below meth c 0 0 (MQ below (QI D A (wH ad cI cZ) Q) args s 0 0 A) A D 2 0 [(0, .ref (ad 4)), (1, .int x1)] [] (wH ad cI cZ u) := by
  intro x1 u h
  unfold m_X10_rawWidth at h
  refine ww_iload_n C dX10_rawWidth_0 rfl 1 rfl ?_
  refine ww_callSi (As := [.int x1]) (rest := []) C EH_ok (c_X10_isCell h) tb_2_177 tb_2_178 tb_1_5 tb_2_179 rfl rfl hd_X10_isCell ⟨Nat.le_of_ble_eq_true rfl, Nat.le_of_ble_eq_true rfl⟩ rfl rfl (Nat.le_of_ble_eq_true rfl) dX10_rawWidth_1 ⟨Nat.zero_le _, Nat.zero_le _⟩ (fun r_2 u_1 h => ?_)
  refine ww_if_eq (tgt := 16) C dX10_rawWidth_4 (by decide) (fun hc => ?_) (fun hc => ?_)
  · have h := ite_t h hc
    refine ww_iconst (v := 0) C dX10_rawWidth_16 (by decide) ?_
    exact ww_iret C h dX10_rawWidth_17
  · have h := ite_f h hc
    refine ww_aload_n C dX10_rawWidth_7 rfl 0 rfl ?_
    refine ww_get C inX10 rfl 5 (by decide) tb_1_109 HF_4_5 dX10_rawWidth_8 ?_
    refine ww_iload_n C dX10_rawWidth_11 rfl 1 rfl ?_
    obtain ⟨hin, h⟩ := h
    refine ww_iald C 0 rfl HA_24 hin dX10_rawWidth_12 ?_
    refine ww_goto (tgt := 17) C dX10_rawWidth_13 (by decide) ?_
    exact ww_iret C h dX10_rawWidth_17
theorem c_X10_rawWidth {l : Launch} {D : va_G} {ad : Nat → Nat} {kK kV : Nat → Nat} {cI cZ : ClassId} {N : Nat} {x1 : Int32} {u : UU} {Q : Int32 → UU → Prop} (h : m_X10_rawWidth N x1 u Q) : MI l D [(cI, .int), (cZ, .boolean)] (EH kK kV) yX10_rawWidth (Cond.code yX10_rawWidth cX10_rawWidth 2 (some .int)) rm_X10_rawWidth [.ref (ad 4), .int x1] (wH ad cI cZ u) (wH ad cI cZ) Q :=
  MI_of (own := RX10) (by decide) rfl (Nat.le_of_ble_eq_true rfl) rfl (fun p e s m args below meth c A C => w_X10_rawWidth C h)
theorem hd_X10_rawWidth : yX10_rawWidth.cls ≠ "java/lang/invoke/MethodHandle" ∧ yX10_rawWidth.cls ≠ "java/lang/invoke/VarHandle" ∧ (parseMethodDescriptor yX10_rawWidth.desc).map (fun d => d.parameters.length) = some 1 := by decide +kernel
abbrev rm_X10_trueWidth : Room := { frames := 3, cells := 0, slots := 0, locals := 71 }
set_option maxRecDepth 100000 in
theorem w_X10_trueWidth {p : Program} {l : Launch} {e : Env} {s : State} {m : MethodId} {args : Array Value} {below : List Frame} {meth : Method} {c : Code} {A : Nat → Prop} {D : va_G} {ad : Nat → Nat} {kK kV : Nat → Nat} {cI cZ : ClassId} {N : Nat} {Q : Int32 → UU → Prop} (C : Cx p m c cX10_trueWidth 2 s args RX10 meth (some .int) A D [(cI, .int), (cZ, .boolean)] (EH kK kV)) : ∀ {x1 : Int32} {u : UU}, m_X10_trueWidth N x1 u Q → WW p l e rm_X10_trueWidth s m args below meth c 0 0 (MQ below (QI D A (wH ad cI cZ) Q) args s 0 0 A) A D 2 0 [(0, .ref (ad 4)), (1, .int x1)] [] (wH ad cI cZ u) := by
  intro x1 u h
  unfold m_X10_trueWidth at h
  refine ww_iload_n C dX10_trueWidth_0 rfl 1 rfl ?_
  refine ww_callSi (As := [.int x1]) (rest := []) C EH_ok (c_X10_isCell h) tb_2_177 tb_2_178 tb_1_5 tb_2_179 rfl rfl hd_X10_isCell ⟨Nat.le_of_ble_eq_true rfl, Nat.le_of_ble_eq_true rfl⟩ rfl rfl (Nat.le_of_ble_eq_true rfl) dX10_trueWidth_1 ⟨Nat.zero_le _, Nat.zero_le _⟩ (fun r_2 u_1 h => ?_)
  refine ww_if_eq (tgt := 20) C dX10_trueWidth_4 (by decide) (fun hc => ?_) (fun hc => ?_)
  · have h := ite_t h hc
    refine ww_iconst (v := 0) C dX10_trueWidth_20 (by decide) ?_
    exact ww_iret C h dX10_trueWidth_21
  · have h := ite_f h hc
    refine ww_iconst (v := 1) C dX10_trueWidth_7 (by decide) ?_
    refine ww_aload_n C dX10_trueWidth_8 rfl 0 rfl ?_
    refine ww_iload_n C dX10_trueWidth_9 rfl 1 rfl ?_
    refine ww_iconst (v := 1) C dX10_trueWidth_10 (by decide) ?_
    refine ww_callVi (As := [.int x1, .int (1 : Int32)]) (rest := [.int (1 : Int32)]) C EH_ok (c_X10_middleLess h) tb_2_186 tb_2_188 tbs_5 tb_1_5 tb_2_189 rfl rfl ⟨rfl, hd_X10_middleLess⟩ ⟨Nat.le_of_ble_eq_true rfl, Nat.le_of_ble_eq_true rfl⟩ rfl HF_4_0 rfl rfl (Nat.le_of_ble_eq_true rfl) dX10_trueWidth_11 ⟨Nat.zero_le _, Nat.zero_le _⟩ (fun r_4 u_3 h => ?_)
    refine ww_mmax C tb_2_210 tb_2_211 tb_1_14 tb_2_212 ⟨Nat.le_of_ble_eq_true rfl, Nat.le_of_ble_eq_true rfl⟩ ⟨Nat.zero_le _, Nat.zero_le _⟩ dX10_trueWidth_14 ?_
    refine ww_goto (tgt := 21) C dX10_trueWidth_17 (by decide) ?_
    exact ww_iret C h dX10_trueWidth_21
theorem c_X10_trueWidth {l : Launch} {D : va_G} {ad : Nat → Nat} {kK kV : Nat → Nat} {cI cZ : ClassId} {N : Nat} {x1 : Int32} {u : UU} {Q : Int32 → UU → Prop} (h : m_X10_trueWidth N x1 u Q) : MI l D [(cI, .int), (cZ, .boolean)] (EH kK kV) yX10_trueWidth (Cond.code yX10_trueWidth cX10_trueWidth 2 (some .int)) rm_X10_trueWidth [.ref (ad 4), .int x1] (wH ad cI cZ u) (wH ad cI cZ) Q :=
  MI_of (own := RX10) (by decide) rfl (Nat.le_of_ble_eq_true rfl) rfl (fun p e s m args below meth c A C => w_X10_trueWidth C h)
theorem hd_X10_trueWidth : yX10_trueWidth.cls ≠ "java/lang/invoke/MethodHandle" ∧ yX10_trueWidth.cls ≠ "java/lang/invoke/VarHandle" ∧ (parseMethodDescriptor yX10_trueWidth.desc).map (fun d => d.parameters.length) = some 1 := by decide +kernel
abbrev rm_X7_sizeFor : Room := { frames := 0, cells := 0, slots := 0, locals := 0 }
set_option maxRecDepth 100000 in
theorem w_X7_sizeFor_42 {p : Program} {l : Launch} {e : Env} {s : State} {m : MethodId} {args : Array Value} {below : List Frame} {meth : Method} {c : Code} {A : Nat → Prop} {D : va_G} {ad : Nat → Nat} {kK kV : Nat → Nat} {cI cZ : ClassId} {N : Nat} {Q : Int32 → UU → Prop} {k4 : Int32 → Int32 → Int32 → UU → Prop} (C : Cx p m c cX7_sizeFor 4 s args RX7 meth (some .int) A D [(cI, .int), (cZ, .boolean)] (EH kK kV)) (hk4 : ∀ (x1 : Int32) (x2 : Int32) (x3 : Int32) (u : UU), k4 x1 x2 x3 u → WW p l e rm_X7_sizeFor s m args below meth c 0 0 (MQ below (QI D A (wH ad cI cZ) Q) args s 0 0 A) A D 4 4 [(0, .ref (ad 3)), (1, .int x1), (2, .int x2), (3, .int x3)] [] (wH ad cI cZ u)) : ∀ {x1 : Int32} {x2 : Int32} {x3 : Int32} {u : UU}, m_X7_sizeFor_42 N k4 x1 x2 x3 u Q → WW p l e rm_X7_sizeFor s m args below meth c 0 0 (MQ below (QI D A (wH ad cI cZ) Q) args s 0 0 A) A D 4 42 [(0, .ref (ad 3)), (1, .int x1), (2, .int x2), (3, .int x3)] [] (wH ad cI cZ u) := by
  intro x1 x2 x3 u h
  unfold m_X7_sizeFor_42 at h
  obtain ⟨z_1, ez_1⟩ : ∃ z_1 : Int32, z_1 = x3 + (1 : Int32) := ⟨_, rfl⟩
  have h := h z_1 ez_1
  refine ww_iinc (i := 3) (j := 3) (v := z_1) (lv' := [(3, .int z_1), (0, .ref (ad 3)), (1, .int x1), (2, .int x2)]) C dX7_sizeFor_42 rfl (by rw [ez_1]; rfl) (by decide) rfl ?_
  refine ww_goto (tgt := 4) C dX7_sizeFor_45 (by decide) ?_
  refine ww_sub [1, 2, 3, 0] rfl ?_
  exact hk4 _ _ _ _ h
set_option maxRecDepth 100000 in
theorem w_X7_sizeFor_40 {p : Program} {l : Launch} {e : Env} {s : State} {m : MethodId} {args : Array Value} {below : List Frame} {meth : Method} {c : Code} {A : Nat → Prop} {D : va_G} {ad : Nat → Nat} {kK kV : Nat → Nat} {cI cZ : ClassId} {N : Nat} {Q : Int32 → UU → Prop} {k4 : Int32 → Int32 → Int32 → UU → Prop} (C : Cx p m c cX7_sizeFor 4 s args RX7 meth (some .int) A D [(cI, .int), (cZ, .boolean)] (EH kK kV)) (hk4 : ∀ (x1 : Int32) (x2 : Int32) (x3 : Int32) (u : UU), k4 x1 x2 x3 u → WW p l e rm_X7_sizeFor s m args below meth c 0 0 (MQ below (QI D A (wH ad cI cZ) Q) args s 0 0 A) A D 4 4 [(0, .ref (ad 3)), (1, .int x1), (2, .int x2), (3, .int x3)] [] (wH ad cI cZ u)) : ∀ {x1 : Int32} {x3 : Int32} {u : UU}, m_X7_sizeFor_40 N k4 x1 x3 u Q → WW p l e rm_X7_sizeFor s m args below meth c 0 0 (MQ below (QI D A (wH ad cI cZ) Q) args s 0 0 A) A D 4 40 [(0, .ref (ad 3)), (1, .int x1), (3, .int x3)] [] (wH ad cI cZ u) := by
  intro x1 x3 u h
  unfold m_X7_sizeFor_40 at h
  refine ww_iload_n C dX7_sizeFor_40 rfl 2 rfl ?_
  refine ww_istore_n (i := 2) (lv' := [(2, .int x3), (0, .ref (ad 3)), (1, .int x1), (3, .int x3)]) C dX7_sizeFor_41 rfl (by decide) rfl ?_
  refine ww_sub [1, 2, 0, 3] rfl ?_
  exact w_X7_sizeFor_42 C hk4 h
set_option maxRecDepth 100000 in
theorem w_X7_sizeFor_4 {p : Program} {l : Launch} {e : Env} {s : State} {m : MethodId} {args : Array Value} {below : List Frame} {meth : Method} {c : Code} {A : Nat → Prop} {D : va_G} {ad : Nat → Nat} {kK kV : Nat → Nat} {cI cZ : ClassId} {N : Nat} {Q : Int32 → UU → Prop} (C : Cx p m c cX7_sizeFor 4 s args RX7 meth (some .int) A D [(cI, .int), (cZ, .boolean)] (EH kK kV)) : ∀ (n : Nat) (x1 : Int32) (x2 : Int32) (x3 : Int32) (u : UU), m_X7_sizeFor_4 N Q n x1 x2 x3 u → WW p l e rm_X7_sizeFor s m args below meth c 0 0 (MQ below (QI D A (wH ad cI cZ) Q) args s 0 0 A) A D 4 4 [(0, .ref (ad 3)), (1, .int x1), (2, .int x2), (3, .int x3)] [] (wH ad cI cZ u) := by
  intro n
  induction n with
  | zero => intro x1 x2 x3 u h; rw [m_X7_sizeFor_4] at h; exact h.elim
  | succ n ih =>
    intro x1 x2 x3 u h
    rw [m_X7_sizeFor_4] at h
    refine ww_iload_n C dX7_sizeFor_4 rfl 3 rfl ?_
    refine ww_bipush (v := 8) C dX7_sizeFor_5 (by decide) ?_
    refine ww_icmp_ge (tgt := 48) C dX7_sizeFor_7 (by decide) (fun hc => ?_) (fun hc => ?_)
    · have h := ite_t h hc
      refine ww_iload_n C dX7_sizeFor_48 rfl 2 rfl ?_
      refine ww_iconst (v := (-1)) C dX7_sizeFor_49 (by decide) ?_
      refine ww_icmp_ne (tgt := 57) C dX7_sizeFor_50 (by decide) (fun hc => ?_) (fun hc => ?_)
      · have h := ite_f h hc
        refine ww_aload_n C dX7_sizeFor_57 rfl 0 rfl ?_
        refine ww_get C inX7 rfl 1 (by decide) tb_1_92 HF_3_1 dX7_sizeFor_58 ?_
        refine ww_iload_n C dX7_sizeFor_61 rfl 2 rfl ?_
        obtain ⟨hin, h⟩ := h
        refine ww_iald C 0 rfl HA_21 hin dX7_sizeFor_62 ?_
        exact ww_iret C h dX7_sizeFor_63
      · have h := ite_t h hc
        refine ww_iconst (v := 0) C dX7_sizeFor_53 (by decide) ?_
        refine ww_goto (tgt := 63) C dX7_sizeFor_54 (by decide) ?_
        exact ww_iret C h dX7_sizeFor_63
    · have h := ite_f h hc
      refine ww_aload_n C dX7_sizeFor_10 rfl 0 rfl ?_
      refine ww_get C inX7 rfl 0 (by decide) tb_1_91 HF_3_0 dX7_sizeFor_11 ?_
      refine ww_iload_n C dX7_sizeFor_14 rfl 3 rfl ?_
      obtain ⟨hin, h⟩ := h
      refine ww_iald C 0 rfl HA_20 hin dX7_sizeFor_15 ?_
      refine ww_iload_n C dX7_sizeFor_16 rfl 1 rfl ?_
      refine ww_icmp_gt (tgt := 42) C dX7_sizeFor_17 (by decide) (fun hc => ?_) (fun hc => ?_)
      · have h := ite_t h hc
        exact w_X7_sizeFor_42 C ih h
      · have h := ite_f h hc
        refine ww_iload_n C dX7_sizeFor_20 rfl 2 rfl ?_
        refine ww_iconst (v := (-1)) C dX7_sizeFor_21 (by decide) ?_
        refine ww_icmp_eq (tgt := 40) C dX7_sizeFor_22 (by decide) (fun hc => ?_) (fun hc => ?_)
        · have h := ite_t h hc
          refine ww_sub [0, 1, 3] rfl ?_
          exact w_X7_sizeFor_40 C ih h
        · have h := ite_f h hc
          refine ww_aload_n C dX7_sizeFor_25 rfl 0 rfl ?_
          refine ww_get C inX7 rfl 0 (by decide) tb_1_91 HF_3_0 dX7_sizeFor_26 ?_
          refine ww_iload_n C dX7_sizeFor_29 rfl 3 rfl ?_
          obtain ⟨hin, h⟩ := h
          refine ww_iald C 0 rfl HA_20 hin dX7_sizeFor_30 ?_
          refine ww_aload_n C dX7_sizeFor_31 rfl 0 rfl ?_
          refine ww_get C inX7 rfl 0 (by decide) tb_1_91 HF_3_0 dX7_sizeFor_32 ?_
          refine ww_iload_n C dX7_sizeFor_35 rfl 2 rfl ?_
          obtain ⟨hin, h⟩ := h
          refine ww_iald C 0 rfl HA_20 hin dX7_sizeFor_36 ?_
          refine ww_icmp_lt (tgt := 42) C dX7_sizeFor_37 (by decide) (fun hc => ?_) (fun hc => ?_)
          · have h := ite_t h hc
            exact w_X7_sizeFor_42 C ih h
          · have h := ite_f h hc
            refine ww_sub [0, 1, 3] rfl ?_
            exact w_X7_sizeFor_40 C ih h
set_option maxRecDepth 100000 in
theorem w_X7_sizeFor {p : Program} {l : Launch} {e : Env} {s : State} {m : MethodId} {args : Array Value} {below : List Frame} {meth : Method} {c : Code} {A : Nat → Prop} {D : va_G} {ad : Nat → Nat} {kK kV : Nat → Nat} {cI cZ : ClassId} {N : Nat} {Q : Int32 → UU → Prop} (C : Cx p m c cX7_sizeFor 4 s args RX7 meth (some .int) A D [(cI, .int), (cZ, .boolean)] (EH kK kV)) : ∀ {x1 : Int32} {u : UU}, m_X7_sizeFor N x1 u Q → WW p l e rm_X7_sizeFor s m args below meth c 0 0 (MQ below (QI D A (wH ad cI cZ) Q) args s 0 0 A) A D 4 0 [(0, .ref (ad 3)), (1, .int x1)] [] (wH ad cI cZ u) := by
  intro x1 u h
  unfold m_X7_sizeFor at h
  refine ww_iconst (v := (-1)) C dX7_sizeFor_0 (by decide) ?_
  refine ww_istore_n (i := 2) (lv' := [(2, .int ((-1) : Int32)), (0, .ref (ad 3)), (1, .int x1)]) C dX7_sizeFor_1 rfl (by decide) rfl ?_
  refine ww_iconst (v := 0) C dX7_sizeFor_2 (by decide) ?_
  refine ww_istore_n (i := 3) (lv' := [(3, .int (0 : Int32)), (2, .int ((-1) : Int32)), (0, .ref (ad 3)), (1, .int x1)]) C dX7_sizeFor_3 rfl (by decide) rfl ?_
  refine ww_sub [2, 3, 1, 0] rfl ?_
  exact w_X7_sizeFor_4 C N _ _ _ _ h
theorem c_X7_sizeFor {l : Launch} {D : va_G} {ad : Nat → Nat} {kK kV : Nat → Nat} {cI cZ : ClassId} {N : Nat} {x1 : Int32} {u : UU} {Q : Int32 → UU → Prop} (h : m_X7_sizeFor N x1 u Q) : MI l D [(cI, .int), (cZ, .boolean)] (EH kK kV) yX7_sizeFor (Cond.code yX7_sizeFor cX7_sizeFor 4 (some .int)) rm_X7_sizeFor [.ref (ad 3), .int x1] (wH ad cI cZ u) (wH ad cI cZ) Q :=
  MI_of (own := RX7) (by decide) rfl (Nat.le_of_ble_eq_true rfl) rfl (fun p e s m args below meth c A C => w_X7_sizeFor C h)
theorem hd_X7_sizeFor : yX7_sizeFor.cls ≠ "java/lang/invoke/MethodHandle" ∧ yX7_sizeFor.cls ≠ "java/lang/invoke/VarHandle" ∧ (parseMethodDescriptor yX7_sizeFor.desc).map (fun d => d.parameters.length) = some 1 := by decide +kernel
abbrev rm_X11_of : Room := { frames := 5, cells := 0, slots := 0, locals := 110 }
set_option maxRecDepth 100000 in
theorem w_X11_of {p : Program} {l : Launch} {e : Env} {s : State} {m : MethodId} {args : Array Value} {below : List Frame} {meth : Method} {c : Code} {A : Nat → Prop} {D : va_G} {ad : Nat → Nat} {kK kV : Nat → Nat} {cI cZ : ClassId} {N : Nat} {Q : Int32 → UU → Prop} (C : Cx p m c cX11_of 6 s args RX11 meth (some .int) A D [(cI, .int), (cZ, .boolean)] (EH kK kV)) : ∀ {x1 : Int32} {x2 : Int32} {x3 : Int32} {x4 : Int32} {u : UU}, m_X11_of N x1 x2 x3 x4 u Q → WW p l e rm_X11_of s m args below meth c 0 0 (MQ below (QI D A (wH ad cI cZ) Q) args s 0 0 A) A D 6 0 [(0, .ref (ad 0)), (1, .int x1), (2, .int x2), (3, .int x3), (4, .int x4)] [] (wH ad cI cZ u) := by
  intro x1 x2 x3 x4 u h
  unfold m_X11_of at h
  refine ww_aload_n C dX11_of_0 rfl 0 rfl ?_
  refine ww_get C inX11 rfl 0 (by decide) tb_2_49 HF_0_0 dX11_of_1 ?_
  refine ww_iload_n C dX11_of_4 rfl 1 rfl ?_
  refine ww_callVi (As := [.int x1]) (rest := []) C EH_ok (c_X0_has h) tb_2_121 tb_2_122 tb_2_123 tb_1_2 tb_2_124 rfl rfl ⟨rfl, hd_X0_has⟩ ⟨Nat.le_of_ble_eq_true rfl, Nat.le_of_ble_eq_true rfl⟩ rfl HF_1_0 rfl rfl (Nat.le_of_ble_eq_true rfl) dX11_of_5 ⟨Nat.zero_le _, Nat.zero_le _⟩ (fun r_2 u_1 h => ?_)
  refine ww_if_eq (tgt := 28) C dX11_of_8 (by decide) (fun hc => ?_) (fun hc => ?_)
  · have h := ite_t h hc
    refine ww_iconst (v := (-1)) C dX11_of_28 (by decide) ?_
    exact ww_iret C h dX11_of_29
  · have h := ite_f h hc
    refine ww_iload_n C dX11_of_11 rfl 2 rfl ?_
    refine ww_iconst (v := 0) C dX11_of_12 (by decide) ?_
    refine ww_bipush (v := 9) C dX11_of_13 (by decide) ?_
    refine ww_callSi (As := [.int x2, .int (0 : Int32), .int (9 : Int32)]) (rest := []) C EH_ok (c_X11_isIn h) tb_2_99 tb_2_100 tb_1_1 tb_2_101 rfl rfl hd_X11_isIn ⟨Nat.le_of_ble_eq_true rfl, Nat.le_of_ble_eq_true rfl⟩ rfl rfl (Nat.le_of_ble_eq_true rfl) dX11_of_15 ⟨Nat.zero_le _, Nat.zero_le _⟩ (fun r_4 u_3 h => ?_)
    refine ww_if_eq (tgt := 28) C dX11_of_18 (by decide) (fun hc => ?_) (fun hc => ?_)
    · have h := ite_t h hc
      refine ww_iconst (v := (-1)) C dX11_of_28 (by decide) ?_
      exact ww_iret C h dX11_of_29
    · have h := ite_f h hc
      refine ww_iload_n C dX11_of_21 rfl 3 rfl ?_
      refine ww_callSi (As := [.int x3]) (rest := []) C EH_ok (c_X11_isHour h) tb_2_118 tb_2_119 tb_1_1 tb_2_120 rfl rfl hd_X11_isHour ⟨Nat.le_of_ble_eq_true rfl, Nat.le_of_ble_eq_true rfl⟩ rfl rfl (Nat.le_of_ble_eq_true rfl) dX11_of_22 ⟨Nat.zero_le _, Nat.zero_le _⟩ (fun r_6 u_5 h => ?_)
      refine ww_if_ne (tgt := 30) C dX11_of_25 (by decide) (fun hc => ?_) (fun hc => ?_)
      · have h := ite_f h hc
        refine ww_aload_n C dX11_of_30 rfl 0 rfl ?_
        refine ww_get C inX11 rfl 3 (by decide) tb_2_52 HF_0_3 dX11_of_31 ?_
        refine ww_iload_n C dX11_of_34 rfl 3 rfl ?_
        refine ww_callVv (As := [.int x3]) (rest := []) C EH_ok (c_X10_show h) tb_2_162 tb_2_163 tb_2_164 tb_1_5 tb_2_165 rfl rfl ⟨rfl, hd_X10_show⟩ ⟨Nat.le_of_ble_eq_true rfl, Nat.le_of_ble_eq_true rfl⟩ rfl HF_4_0 rfl rfl (Nat.le_of_ble_eq_true rfl) dX11_of_35 ⟨Nat.zero_le _, Nat.zero_le _⟩ (fun u_7 h => ?_)
        refine ww_iload_n C dX11_of_38 rfl 1 rfl ?_
        refine ww_bipush (v := 10) C dX11_of_39 (by decide) ?_
        refine ww_imul C dX11_of_41 ?_
        refine ww_iload_n C dX11_of_42 rfl 2 rfl ?_
        refine ww_iadd C dX11_of_43 ?_
        refine ww_nI (fun z_9 ez_9 => ?_)
        have h := h z_9 ez_9
        refine ww_istore (i := 5) (lv' := [(5, .int z_9), (0, .ref (ad 0)), (1, .int x1), (2, .int x2), (3, .int x3), (4, .int x4)]) C dX11_of_44 (by decide) rfl ?_
        refine ww_aload_n C dX11_of_46 rfl 1 rfl ?_
        refine ww_get C inX11 rfl 3 (by decide) tb_2_52 HF_0_3 dX11_of_47 ?_
        refine ww_iload C dX11_of_50 0 rfl ?_
        refine ww_callVi (As := [.int z_9]) (rest := []) C EH_ok (c_X10_handsOf h) tb_2_198 tb_2_199 tb_2_200 tb_1_5 tb_2_201 rfl rfl ⟨rfl, hd_X10_handsOf⟩ ⟨Nat.le_of_ble_eq_true rfl, Nat.le_of_ble_eq_true rfl⟩ rfl HF_4_0 rfl rfl (Nat.le_of_ble_eq_true rfl) dX11_of_52 ⟨Nat.zero_le _, Nat.zero_le _⟩ (fun r_11 u_10 h => ?_)
        refine ww_if_ne (tgt := 60) C dX11_of_55 (by decide) (fun hc => ?_) (fun hc => ?_)
        · have h := ite_f h hc
          refine ww_iload C dX11_of_60 5 rfl ?_
          by_cases hs0 : x4 = 0
          · have h := ite_t h hs0
            refine ww_tableIn (off := 30) (tgt := 92) C dX11_of_62 (by rw [hs0]; decide) (by rw [hs0]; decide) (by rw [hs0]; rfl) (by decide) ?_
            refine ww_aload_n C dX11_of_92 rfl 1 rfl ?_
            refine ww_get C inX11 rfl 3 (by decide) tb_2_52 HF_0_3 dX11_of_93 ?_
            refine ww_iload C dX11_of_96 0 rfl ?_
            refine ww_callVi (As := [.int z_9]) (rest := []) C EH_ok (c_X10_rawWidth h) tb_2_202 tb_2_203 tb_2_204 tb_1_5 tb_2_205 rfl rfl ⟨rfl, hd_X10_rawWidth⟩ ⟨Nat.le_of_ble_eq_true rfl, Nat.le_of_ble_eq_true rfl⟩ rfl HF_4_0 rfl rfl (Nat.le_of_ble_eq_true rfl) dX11_of_98 ⟨Nat.zero_le _, Nat.zero_le _⟩ (fun r_13 u_12 h => ?_)
            exact ww_iret C h dX11_of_101
          have h := ite_f h hs0
          by_cases hs1 : x4 = 1
          · have h := ite_t h hs1
            refine ww_tableIn (off := 40) (tgt := 102) C dX11_of_62 (by rw [hs1]; decide) (by rw [hs1]; decide) (by rw [hs1]; rfl) (by decide) ?_
            refine ww_aload_n C dX11_of_102 rfl 1 rfl ?_
            refine ww_get C inX11 rfl 3 (by decide) tb_2_52 HF_0_3 dX11_of_103 ?_
            refine ww_iload C dX11_of_106 0 rfl ?_
            refine ww_callVi (As := [.int z_9]) (rest := []) C EH_ok (c_X10_trueWidth h) tb_2_206 tb_2_207 tb_2_208 tb_1_5 tb_2_209 rfl rfl ⟨rfl, hd_X10_trueWidth⟩ ⟨Nat.le_of_ble_eq_true rfl, Nat.le_of_ble_eq_true rfl⟩ rfl HF_4_0 rfl rfl (Nat.le_of_ble_eq_true rfl) dX11_of_108 ⟨Nat.zero_le _, Nat.zero_le _⟩ (fun r_15 u_14 h => ?_)
            exact ww_iret C h dX11_of_111
          have h := ite_f h hs1
          by_cases hs2 : x4 = 2
          · have h := ite_t h hs2
            refine ww_tableIn (off := 50) (tgt := 112) C dX11_of_62 (by rw [hs2]; decide) (by rw [hs2]; decide) (by rw [hs2]; rfl) (by decide) ?_
            refine ww_aload_n C dX11_of_112 rfl 1 rfl ?_
            refine ww_get C inX11 rfl 2 (by decide) tb_2_51 HF_0_2 dX11_of_113 ?_
            refine ww_aload_n C dX11_of_116 rfl 1 rfl ?_
            refine ww_get C inX11 rfl 3 (by decide) tb_2_52 HF_0_3 dX11_of_117 ?_
            refine ww_iload C dX11_of_120 0 rfl ?_
            refine ww_callVi (As := [.int z_9]) (rest := [.ref (ad 3)]) C EH_ok (c_X10_trueWidth h) tb_2_206 tb_2_207 tb_2_208 tb_1_5 tb_2_209 rfl rfl ⟨rfl, hd_X10_trueWidth⟩ ⟨Nat.le_of_ble_eq_true rfl, Nat.le_of_ble_eq_true rfl⟩ rfl HF_4_0 rfl rfl (Nat.le_of_ble_eq_true rfl) dX11_of_122 ⟨Nat.zero_le _, Nat.zero_le _⟩ (fun r_17 u_16 h => ?_)
            refine ww_callVi (As := [.int r_17]) (rest := []) C EH_ok (c_X7_sizeFor h) tb_2_213 tb_2_214 tb_2_215 tb_1_4 tb_2_216 rfl rfl ⟨rfl, hd_X7_sizeFor⟩ ⟨Nat.le_of_ble_eq_true rfl, Nat.le_of_ble_eq_true rfl⟩ rfl HF_3_0 rfl rfl (Nat.le_of_ble_eq_true rfl) dX11_of_125 ⟨Nat.zero_le _, Nat.zero_le _⟩ (fun r_19 u_18 h => ?_)
            exact ww_iret C h dX11_of_128
          have h := ite_f h hs2
          by_cases hs3 : x4 = 3
          · have h := ite_t h hs3
            refine ww_tableIn (off := 67) (tgt := 129) C dX11_of_62 (by rw [hs3]; decide) (by rw [hs3]; decide) (by rw [hs3]; rfl) (by decide) ?_
            refine ww_aload_n C dX11_of_129 rfl 1 rfl ?_
            refine ww_get C inX11 rfl 3 (by decide) tb_2_52 HF_0_3 dX11_of_130 ?_
            refine ww_iload C dX11_of_133 0 rfl ?_
            refine ww_callVi (As := [.int z_9]) (rest := []) C EH_ok (c_X10_handsOf h) tb_2_198 tb_2_199 tb_2_200 tb_1_5 tb_2_201 rfl rfl ⟨rfl, hd_X10_handsOf⟩ ⟨Nat.le_of_ble_eq_true rfl, Nat.le_of_ble_eq_true rfl⟩ rfl HF_4_0 rfl rfl (Nat.le_of_ble_eq_true rfl) dX11_of_135 ⟨Nat.zero_le _, Nat.zero_le _⟩ (fun r_21 u_20 h => ?_)
            exact ww_iret C h dX11_of_138
          have h := ite_f h hs3
          refine ww_tableOut (tgt := 139) C dX11_of_62 (by have a0 := sw_ne (k := 0) hs0 (by decide); have a1 := sw_ne (k := 1) hs1 (by decide); have a2 := sw_ne (k := 2) hs2 (by decide); have a3 := sw_ne (k := 3) hs3 (by decide); omega) (by decide) ?_
          refine ww_iconst (v := (-1)) C dX11_of_139 (by decide) ?_
          exact ww_iret C h dX11_of_140
        · have h := ite_t h hc
          refine ww_iconst (v := (-1)) C dX11_of_58 (by decide) ?_
          exact ww_iret C h dX11_of_59
      · have h := ite_t h hc
        refine ww_iconst (v := (-1)) C dX11_of_28 (by decide) ?_
        exact ww_iret C h dX11_of_29
theorem c_X11_of {l : Launch} {D : va_G} {ad : Nat → Nat} {kK kV : Nat → Nat} {cI cZ : ClassId} {N : Nat} {x1 : Int32} {x2 : Int32} {x3 : Int32} {x4 : Int32} {u : UU} {Q : Int32 → UU → Prop} (h : m_X11_of N x1 x2 x3 x4 u Q) : MI l D [(cI, .int), (cZ, .boolean)] (EH kK kV) yX11_of (Cond.code yX11_of cX11_of 6 (some .int)) rm_X11_of [.ref (ad 0), .int x1, .int x2, .int x3, .int x4] (wH ad cI cZ u) (wH ad cI cZ) Q :=
  MI_of (own := RX11) (by decide) rfl (Nat.le_of_ble_eq_true rfl) rfl (fun p e s m args below meth c A C => w_X11_of C h)
theorem hd_X11_of : yX11_of.cls ≠ "java/lang/invoke/MethodHandle" ∧ yX11_of.cls ≠ "java/lang/invoke/VarHandle" ∧ (parseMethodDescriptor yX11_of.desc).map (fun d => d.parameters.length) = some 4 := by decide +kernel
abbrev rm_X10_leaningOf : Room := { frames := 1, cells := 0, slots := 0, locals := 22 }
set_option maxRecDepth 100000 in
theorem w_X10_leaningOf {p : Program} {l : Launch} {e : Env} {s : State} {m : MethodId} {args : Array Value} {below : List Frame} {meth : Method} {c : Code} {A : Nat → Prop} {D : va_G} {ad : Nat → Nat} {kK kV : Nat → Nat} {cI cZ : ClassId} {N : Nat} {Q : Int32 → UU → Prop} (C : Cx p m c cX10_leaningOf 2 s args RX10 meth (some .int) A D [(cI, .int), (cZ, .boolean)] (EH kK kV)) : ∀ {x1 : Int32} {u : UU}, m_X10_leaningOf N x1 u Q → WW p l e rm_X10_leaningOf s m args below meth c 0 0 (MQ below (QI D A (wH ad cI cZ) Q) args s 0 0 A) A D 2 0 [(0, .ref (ad 4)), (1, .int x1)] [] (wH ad cI cZ u) := by
  intro x1 u h
  unfold m_X10_leaningOf at h
  refine ww_iload_n C dX10_leaningOf_0 rfl 1 rfl ?_
  refine ww_iconst (v := 0) C dX10_leaningOf_1 (by decide) ?_
  refine ww_bipush (v := 7) C dX10_leaningOf_2 (by decide) ?_
  refine ww_callSNi (As := [.int x1, .int (0 : Int32), .int (7 : Int32)]) (rest := []) C EH_ok (c_X11_isIn h) (C.2.2.2.2.1.1 _ (List.mem_of_getElem? (i := 9) rfl)) tb_1_1 tb_2_100 tb_2_101 rfl rfl hd_X11_isIn ⟨Nat.le_of_ble_eq_true rfl, Nat.le_of_ble_eq_true rfl⟩ rfl rfl (Nat.le_of_ble_eq_true rfl) dX10_leaningOf_4 ⟨Nat.zero_le _, Nat.zero_le _⟩ (fun r_2 u_1 h => ?_)
  refine ww_if_eq (tgt := 19) C dX10_leaningOf_7 (by decide) (fun hc => ?_) (fun hc => ?_)
  · have h := ite_t h hc
    refine ww_sipush (v := (-1000)) C dX10_leaningOf_19 (by decide) ?_
    exact ww_iret C h dX10_leaningOf_22
  · have h := ite_f h hc
    refine ww_aload_n C dX10_leaningOf_10 rfl 0 rfl ?_
    refine ww_get C inX10 rfl 6 (by decide) tb_1_110 HF_4_6 dX10_leaningOf_11 ?_
    refine ww_iload_n C dX10_leaningOf_14 rfl 1 rfl ?_
    obtain ⟨hin, h⟩ := h
    refine ww_iald C 0 rfl HA_25 hin dX10_leaningOf_15 ?_
    refine ww_goto (tgt := 22) C dX10_leaningOf_16 (by decide) ?_
    exact ww_iret C h dX10_leaningOf_22
theorem c_X10_leaningOf {l : Launch} {D : va_G} {ad : Nat → Nat} {kK kV : Nat → Nat} {cI cZ : ClassId} {N : Nat} {x1 : Int32} {u : UU} {Q : Int32 → UU → Prop} (h : m_X10_leaningOf N x1 u Q) : MI l D [(cI, .int), (cZ, .boolean)] (EH kK kV) yX10_leaningOf (Cond.code yX10_leaningOf cX10_leaningOf 2 (some .int)) rm_X10_leaningOf [.ref (ad 4), .int x1] (wH ad cI cZ u) (wH ad cI cZ) Q :=
  MI_of (own := RX10) (by decide) rfl (Nat.le_of_ble_eq_true rfl) rfl (fun p e s m args below meth c A C => w_X10_leaningOf C h)
theorem hd_X10_leaningOf : yX10_leaningOf.cls ≠ "java/lang/invoke/MethodHandle" ∧ yX10_leaningOf.cls ≠ "java/lang/invoke/VarHandle" ∧ (parseMethodDescriptor yX10_leaningOf.desc).map (fun d => d.parameters.length) = some 1 := by decide +kernel
abbrev rm_X11_leaning : Room := { frames := 5, cells := 0, slots := 0, locals := 110 }
set_option maxRecDepth 100000 in
theorem w_X11_leaning {p : Program} {l : Launch} {e : Env} {s : State} {m : MethodId} {args : Array Value} {below : List Frame} {meth : Method} {c : Code} {A : Nat → Prop} {D : va_G} {ad : Nat → Nat} {kK kV : Nat → Nat} {cI cZ : ClassId} {N : Nat} {Q : Int32 → UU → Prop} (C : Cx p m c cX11_leaning 3 s args RX11 meth (some .int) A D [(cI, .int), (cZ, .boolean)] (EH kK kV)) : ∀ {x1 : Int32} {x2 : Int32} {u : UU}, m_X11_leaning N x1 x2 u Q → WW p l e rm_X11_leaning s m args below meth c 0 0 (MQ below (QI D A (wH ad cI cZ) Q) args s 0 0 A) A D 3 0 [(0, .ref (ad 0)), (1, .int x1), (2, .int x2)] [] (wH ad cI cZ u) := by
  intro x1 x2 u h
  unfold m_X11_leaning at h
  refine ww_iload_n C dX11_leaning_0 rfl 1 rfl ?_
  refine ww_iconst (v := 0) C dX11_leaning_1 (by decide) ?_
  refine ww_bipush (v := 7) C dX11_leaning_2 (by decide) ?_
  refine ww_callSi (As := [.int x1, .int (0 : Int32), .int (7 : Int32)]) (rest := []) C EH_ok (c_X11_isIn h) tb_2_99 tb_2_100 tb_1_1 tb_2_101 rfl rfl hd_X11_isIn ⟨Nat.le_of_ble_eq_true rfl, Nat.le_of_ble_eq_true rfl⟩ rfl rfl (Nat.le_of_ble_eq_true rfl) dX11_leaning_4 ⟨Nat.zero_le _, Nat.zero_le _⟩ (fun r_2 u_1 h => ?_)
  refine ww_if_eq (tgt := 17) C dX11_leaning_7 (by decide) (fun hc => ?_) (fun hc => ?_)
  · have h := ite_t h hc
    refine ww_sipush (v := (-1000)) C dX11_leaning_17 (by decide) ?_
    exact ww_iret C h dX11_leaning_20
  · have h := ite_f h hc
    refine ww_iload_n C dX11_leaning_10 rfl 2 rfl ?_
    refine ww_callSi (As := [.int x2]) (rest := []) C EH_ok (c_X11_isHour h) tb_2_118 tb_2_119 tb_1_1 tb_2_120 rfl rfl hd_X11_isHour ⟨Nat.le_of_ble_eq_true rfl, Nat.le_of_ble_eq_true rfl⟩ rfl rfl (Nat.le_of_ble_eq_true rfl) dX11_leaning_11 ⟨Nat.zero_le _, Nat.zero_le _⟩ (fun r_4 u_3 h => ?_)
    refine ww_if_ne (tgt := 21) C dX11_leaning_14 (by decide) (fun hc => ?_) (fun hc => ?_)
    · have h := ite_f h hc
      refine ww_aload_n C dX11_leaning_21 rfl 0 rfl ?_
      refine ww_get C inX11 rfl 3 (by decide) tb_2_52 HF_0_3 dX11_leaning_22 ?_
      refine ww_iload_n C dX11_leaning_25 rfl 2 rfl ?_
      refine ww_callVv (As := [.int x2]) (rest := []) C EH_ok (c_X10_show h) tb_2_162 tb_2_163 tb_2_164 tb_1_5 tb_2_165 rfl rfl ⟨rfl, hd_X10_show⟩ ⟨Nat.le_of_ble_eq_true rfl, Nat.le_of_ble_eq_true rfl⟩ rfl HF_4_0 rfl rfl (Nat.le_of_ble_eq_true rfl) dX11_leaning_26 ⟨Nat.zero_le _, Nat.zero_le _⟩ (fun u_5 h => ?_)
      refine ww_aload_n C dX11_leaning_29 rfl 0 rfl ?_
      refine ww_get C inX11 rfl 3 (by decide) tb_2_52 HF_0_3 dX11_leaning_30 ?_
      refine ww_iload_n C dX11_leaning_33 rfl 1 rfl ?_
      refine ww_callVi (As := [.int x1]) (rest := []) C EH_ok (c_X10_leaningOf h) tb_2_221 tb_2_222 tb_2_223 tb_1_5 tb_2_224 rfl rfl ⟨rfl, hd_X10_leaningOf⟩ ⟨Nat.le_of_ble_eq_true rfl, Nat.le_of_ble_eq_true rfl⟩ rfl HF_4_0 rfl rfl (Nat.le_of_ble_eq_true rfl) dX11_leaning_34 ⟨Nat.zero_le _, Nat.zero_le _⟩ (fun r_8 u_7 h => ?_)
      exact ww_iret C h dX11_leaning_37
    · have h := ite_t h hc
      refine ww_sipush (v := (-1000)) C dX11_leaning_17 (by decide) ?_
      exact ww_iret C h dX11_leaning_20
theorem c_X11_leaning {l : Launch} {D : va_G} {ad : Nat → Nat} {kK kV : Nat → Nat} {cI cZ : ClassId} {N : Nat} {x1 : Int32} {x2 : Int32} {u : UU} {Q : Int32 → UU → Prop} (h : m_X11_leaning N x1 x2 u Q) : MI l D [(cI, .int), (cZ, .boolean)] (EH kK kV) yX11_leaning (Cond.code yX11_leaning cX11_leaning 3 (some .int)) rm_X11_leaning [.ref (ad 0), .int x1, .int x2] (wH ad cI cZ u) (wH ad cI cZ) Q :=
  MI_of (own := RX11) (by decide) rfl (Nat.le_of_ble_eq_true rfl) rfl (fun p e s m args below meth c A C => w_X11_leaning C h)
theorem hd_X11_leaning : yX11_leaning.cls ≠ "java/lang/invoke/MethodHandle" ∧ yX11_leaning.cls ≠ "java/lang/invoke/VarHandle" ∧ (parseMethodDescriptor yX11_leaning.desc).map (fun d => d.parameters.length) = some 2 := by decide +kernel
abbrev rm_X10_many : Room := { frames := 3, cells := 0, slots := 0, locals := 63 }
set_option maxRecDepth 100000 in
theorem w_X10_many_26 {p : Program} {l : Launch} {e : Env} {s : State} {m : MethodId} {args : Array Value} {below : List Frame} {meth : Method} {c : Code} {A : Nat → Prop} {D : va_G} {ad : Nat → Nat} {kK kV : Nat → Nat} {cI cZ : ClassId} {N : Nat} {Q : Int32 → UU → Prop} {k4 : Int32 → Int32 → Int32 → UU → Prop} (C : Cx p m c cX10_many 4 s args RX10 meth (some .int) A D [(cI, .int), (cZ, .boolean)] (EH kK kV)) (hk4 : ∀ (x1 : Int32) (x2 : Int32) (x3 : Int32) (u : UU), k4 x1 x2 x3 u → WW p l e rm_X10_many s m args below meth c 0 0 (MQ below (QI D A (wH ad cI cZ) Q) args s 0 0 A) A D 4 4 [(0, .ref (ad 4)), (1, .int x1), (2, .int x2), (3, .int x3)] [] (wH ad cI cZ u)) : ∀ {x1 : Int32} {x2 : Int32} {x3 : Int32} {u : UU}, m_X10_many_26 N k4 x1 x2 x3 u Q → WW p l e rm_X10_many s m args below meth c 0 0 (MQ below (QI D A (wH ad cI cZ) Q) args s 0 0 A) A D 4 26 [(0, .ref (ad 4)), (1, .int x1), (2, .int x2), (3, .int x3)] [] (wH ad cI cZ u) := by
  intro x1 x2 x3 u h
  unfold m_X10_many_26 at h
  obtain ⟨z_1, ez_1⟩ : ∃ z_1 : Int32, z_1 = x3 + (1 : Int32) := ⟨_, rfl⟩
  have h := h z_1 ez_1
  refine ww_iinc (i := 3) (j := 3) (v := z_1) (lv' := [(3, .int z_1), (0, .ref (ad 4)), (1, .int x1), (2, .int x2)]) C dX10_many_26 rfl (by rw [ez_1]; rfl) (by decide) rfl ?_
  refine ww_goto (tgt := 4) C dX10_many_29 (by decide) ?_
  refine ww_sub [1, 2, 3, 0] rfl ?_
  exact hk4 _ _ _ _ h
set_option maxRecDepth 100000 in
theorem w_X10_many_4 {p : Program} {l : Launch} {e : Env} {s : State} {m : MethodId} {args : Array Value} {below : List Frame} {meth : Method} {c : Code} {A : Nat → Prop} {D : va_G} {ad : Nat → Nat} {kK kV : Nat → Nat} {cI cZ : ClassId} {N : Nat} {Q : Int32 → UU → Prop} (C : Cx p m c cX10_many 4 s args RX10 meth (some .int) A D [(cI, .int), (cZ, .boolean)] (EH kK kV)) : ∀ (n : Nat) (x1 : Int32) (x2 : Int32) (x3 : Int32) (u : UU), m_X10_many_4 N Q n x1 x2 x3 u → WW p l e rm_X10_many s m args below meth c 0 0 (MQ below (QI D A (wH ad cI cZ) Q) args s 0 0 A) A D 4 4 [(0, .ref (ad 4)), (1, .int x1), (2, .int x2), (3, .int x3)] [] (wH ad cI cZ u) := by
  intro n
  induction n with
  | zero => intro x1 x2 x3 u h; rw [m_X10_many_4] at h; exact h.elim
  | succ n ih =>
    intro x1 x2 x3 u h
    rw [m_X10_many_4] at h
    refine ww_iload_n C dX10_many_4 rfl 3 rfl ?_
    refine ww_bipush (v := 10) C dX10_many_5 (by decide) ?_
    refine ww_icmp_ge (tgt := 32) C dX10_many_7 (by decide) (fun hc => ?_) (fun hc => ?_)
    · have h := ite_t h hc
      refine ww_iload_n C dX10_many_32 rfl 2 rfl ?_
      exact ww_iret C h dX10_many_33
    · have h := ite_f h hc
      refine ww_aload_n C dX10_many_10 rfl 0 rfl ?_
      refine ww_iload_n C dX10_many_11 rfl 1 rfl ?_
      refine ww_bipush (v := 10) C dX10_many_12 (by decide) ?_
      refine ww_imul C dX10_many_14 ?_
      refine ww_iload_n C dX10_many_15 rfl 3 rfl ?_
      refine ww_iadd C dX10_many_16 ?_
      refine ww_callVi (As := [.int ((x1 * (10 : Int32)) + x3)]) (rest := []) C EH_ok (c_X10_handsOf h) tb_2_238 tb_2_199 tb_2_200 tb_1_5 tb_2_201 rfl rfl ⟨rfl, hd_X10_handsOf⟩ ⟨Nat.le_of_ble_eq_true rfl, Nat.le_of_ble_eq_true rfl⟩ rfl HF_4_0 rfl rfl (Nat.le_of_ble_eq_true rfl) dX10_many_17 ⟨Nat.zero_le _, Nat.zero_le _⟩ (fun r_2 u_1 h => ?_)
      refine ww_if_le (tgt := 26) C dX10_many_20 (by decide) (fun hc => ?_) (fun hc => ?_)
      · have h := ite_t h hc
        exact w_X10_many_26 C ih h
      · have h := ite_f h hc
        obtain ⟨z_3, ez_3⟩ : ∃ z_3 : Int32, z_3 = x2 + (1 : Int32) := ⟨_, rfl⟩
        have h := h z_3 ez_3
        refine ww_iinc (i := 2) (j := 2) (v := z_3) (lv' := [(2, .int z_3), (0, .ref (ad 4)), (1, .int x1), (3, .int x3)]) C dX10_many_23 rfl (by rw [ez_3]; rfl) (by decide) rfl ?_
        refine ww_sub [1, 2, 0, 3] rfl ?_
        exact w_X10_many_26 C ih h
set_option maxRecDepth 100000 in
theorem w_X10_many {p : Program} {l : Launch} {e : Env} {s : State} {m : MethodId} {args : Array Value} {below : List Frame} {meth : Method} {c : Code} {A : Nat → Prop} {D : va_G} {ad : Nat → Nat} {kK kV : Nat → Nat} {cI cZ : ClassId} {N : Nat} {Q : Int32 → UU → Prop} (C : Cx p m c cX10_many 4 s args RX10 meth (some .int) A D [(cI, .int), (cZ, .boolean)] (EH kK kV)) : ∀ {x1 : Int32} {u : UU}, m_X10_many N x1 u Q → WW p l e rm_X10_many s m args below meth c 0 0 (MQ below (QI D A (wH ad cI cZ) Q) args s 0 0 A) A D 4 0 [(0, .ref (ad 4)), (1, .int x1)] [] (wH ad cI cZ u) := by
  intro x1 u h
  unfold m_X10_many at h
  refine ww_iconst (v := 0) C dX10_many_0 (by decide) ?_
  refine ww_istore_n (i := 2) (lv' := [(2, .int (0 : Int32)), (0, .ref (ad 4)), (1, .int x1)]) C dX10_many_1 rfl (by decide) rfl ?_
  refine ww_iconst (v := 0) C dX10_many_2 (by decide) ?_
  refine ww_istore_n (i := 3) (lv' := [(3, .int (0 : Int32)), (2, .int (0 : Int32)), (0, .ref (ad 4)), (1, .int x1)]) C dX10_many_3 rfl (by decide) rfl ?_
  refine ww_sub [2, 3, 1, 0] rfl ?_
  exact w_X10_many_4 C N _ _ _ _ h
theorem c_X10_many {l : Launch} {D : va_G} {ad : Nat → Nat} {kK kV : Nat → Nat} {cI cZ : ClassId} {N : Nat} {x1 : Int32} {u : UU} {Q : Int32 → UU → Prop} (h : m_X10_many N x1 u Q) : MI l D [(cI, .int), (cZ, .boolean)] (EH kK kV) yX10_many (Cond.code yX10_many cX10_many 4 (some .int)) rm_X10_many [.ref (ad 4), .int x1] (wH ad cI cZ u) (wH ad cI cZ) Q :=
  MI_of (own := RX10) (by decide) rfl (Nat.le_of_ble_eq_true rfl) rfl (fun p e s m args below meth c A C => w_X10_many C h)
theorem hd_X10_many : yX10_many.cls ≠ "java/lang/invoke/MethodHandle" ∧ yX10_many.cls ≠ "java/lang/invoke/VarHandle" ∧ (parseMethodDescriptor yX10_many.desc).map (fun d => d.parameters.length) = some 1 := by decide +kernel
