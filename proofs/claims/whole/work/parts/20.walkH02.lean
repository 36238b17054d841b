abbrev rm_X8_hasRoomFor : Room := { frames := 0, cells := 0, slots := 0, locals := 0 }
set_option maxRecDepth 100000 in
theorem w_X8_hasRoomFor {p : Program} {l : Launch} {e : Env} {s : State} {m : MethodId} {args : Array Value} {below : List Frame} {meth : Method} {c : Code} {A : Nat → Prop} {D : va_G} {ad : Nat → Nat} {kK kV : Nat → Nat} {cI cZ : ClassId} {N : Nat} {Q : Int32 → UU → Prop} (C : Cx p m c cX8_hasRoomFor 2 s args RX8 meth (some .boolean) A D [(cI, .int), (cZ, .boolean)] (EH kK kV)) : ∀ {x1 : Int32} {u : UU}, m_X8_hasRoomFor N x1 u Q → WW p l e rm_X8_hasRoomFor s m args below meth c 0 0 (MQ below (QI D A (wH ad cI cZ) Q) args s 0 0 A) A D 2 0 [(0, .ref (ad 8)), (1, .int x1)] [] (wH ad cI cZ u) := by
  intro x1 u h
  unfold m_X8_hasRoomFor at h
  refine ww_aload_n C dX8_hasRoomFor_0 rfl 0 rfl ?_
  refine ww_get C inX8 rfl 1 (by decide) tb_1_202 HF_8_1 dX8_hasRoomFor_1 ?_
  refine ww_iload_n C dX8_hasRoomFor_4 rfl 1 rfl ?_
  refine ww_iadd C dX8_hasRoomFor_5 ?_
  refine ww_sipush (v := 200) C dX8_hasRoomFor_6 (by decide) ?_
  refine ww_icmp_gt (tgt := 16) C dX8_hasRoomFor_9 (by decide) (fun hc => ?_) (fun hc => ?_)
  · have h := ite_t h hc
    refine ww_iconst (v := 0) C dX8_hasRoomFor_16 (by decide) ?_
    exact ww_zret C h.1 h.2 dX8_hasRoomFor_17
  · have h := ite_f h hc
    refine ww_iconst (v := 1) C dX8_hasRoomFor_12 (by decide) ?_
    refine ww_goto (tgt := 17) C dX8_hasRoomFor_13 (by decide) ?_
    exact ww_zret C h.1 h.2 dX8_hasRoomFor_17
theorem c_X8_hasRoomFor {l : Launch} {D : va_G} {ad : Nat → Nat} {kK kV : Nat → Nat} {cI cZ : ClassId} {N : Nat} {x1 : Int32} {u : UU} {Q : Int32 → UU → Prop} (h : m_X8_hasRoomFor N x1 u Q) : MI l D [(cI, .int), (cZ, .boolean)] (EH kK kV) yX8_hasRoomFor (Cond.code yX8_hasRoomFor cX8_hasRoomFor 2 (some .boolean)) rm_X8_hasRoomFor [.ref (ad 8), .int x1] (wH ad cI cZ u) (wH ad cI cZ) Q :=
  MI_of (own := RX8) (by decide) rfl (Nat.le_of_ble_eq_true rfl) rfl (fun p e s m args below meth c A C => w_X8_hasRoomFor C h)
theorem hd_X8_hasRoomFor : yX8_hasRoomFor.cls ≠ "java/lang/invoke/MethodHandle" ∧ yX8_hasRoomFor.cls ≠ "java/lang/invoke/VarHandle" ∧ (parseMethodDescriptor yX8_hasRoomFor.desc).map (fun d => d.parameters.length) = some 1 := by decide +kernel
abbrev rm_X8_append : Room := { frames := 1, cells := 0, slots := 0, locals := 21 }
set_option maxRecDepth 100000 in
theorem w_X8_append_12 {p : Program} {l : Launch} {e : Env} {s : State} {m : MethodId} {args : Array Value} {below : List Frame} {meth : Method} {c : Code} {A : Nat → Prop} {D : va_G} {ad : Nat → Nat} {kK kV : Nat → Nat} {cI cZ : ClassId} {N : Nat} {Q : UU → Prop} (C : Cx p m c cX8_append 3 s args RX8 meth none A D [(cI, .int), (cZ, .boolean)] (EH kK kV)) : ∀ (n : Nat) (x1 : Int32) (x2 : Int32) (u : UU), m_X8_append_12 N Q n x1 x2 u → WW p l e rm_X8_append s m args below meth c 0 0 (MQ below (QV D A (wH ad cI cZ) Q) args s 0 0 A) A D 3 12 [(0, .ref (ad 8)), (1, .int x1), (2, .int x2)] [] (wH ad cI cZ u) := by
  intro n
  induction n with
  | zero => intro x1 x2 u h; rw [m_X8_append_12] at h; exact h.elim
  | succ n ih =>
    intro x1 x2 u h
    rw [m_X8_append_12] at h
    refine ww_iload_n C dX8_append_12 rfl 2 rfl ?_
    refine ww_if_lt (tgt := 48) C dX8_append_13 (by decide) (fun hc => ?_) (fun hc => ?_)
    · have h := ite_t h hc
      exact ww_vret C h dX8_append_48
    · have h := ite_f h hc
      refine ww_aload_n C dX8_append_16 rfl 0 rfl ?_
      refine ww_get C inX8 rfl 0 (by decide) tb_1_201 HF_8_0 dX8_append_17 ?_
      refine ww_aload_n C dX8_append_20 rfl 0 rfl ?_
      refine ww_get C inX8 rfl 1 (by decide) tb_1_202 HF_8_1 dX8_append_21 ?_
      refine ww_iload_n C dX8_append_24 rfl 1 rfl ?_
      refine ww_iload_n C dX8_append_25 rfl 2 rfl ?_
      refine ww_iushr C dX8_append_26 ?_
      refine ww_sipush (v := 255) C dX8_append_27 (by decide) ?_
      refine ww_iand C dX8_append_30 ?_
      obtain ⟨hin, h⟩ := h
      refine ww_iast C 0 rfl HU_32 hin dX8_append_31 ?_
      refine ww_nU (wH ad cI cZ) (fun u_1 eu_1 => ?_)
      have h := h u_1 eu_1
      refine ww_aload_n C dX8_append_32 rfl 0 rfl ?_
      refine ww_dup C dX8_append_33 rfl ?_
      refine ww_get C inX8 rfl 1 (by decide) tb_1_202 HF_8_1 dX8_append_34 ?_
      refine ww_iconst (v := 1) C dX8_append_37 (by decide) ?_
      refine ww_iadd C dX8_append_38 ?_
      refine ww_put C inX8 rfl tyX8 tyX8_ok nmX8 1 (by decide) tb_1_202 rfl rfl rfl HS_8_1 dX8_append_39 ?_
      refine ww_nU (wH ad cI cZ) (fun u_2 eu_2 => ?_)
      have h := h u_2 eu_2
      obtain ⟨z_3, ez_3⟩ : ∃ z_3 : Int32, z_3 = x2 + ((-8) : Int32) := ⟨_, rfl⟩
      have h := h z_3 ez_3
      refine ww_iinc (i := 2) (j := 2) (v := z_3) (lv' := [(2, .int z_3), (0, .ref (ad 8)), (1, .int x1)]) C dX8_append_42 rfl (by rw [ez_3]; rfl) (by decide) rfl ?_
      refine ww_goto (tgt := 12) C dX8_append_45 (by decide) ?_
      refine ww_sub [1, 2, 0] rfl ?_
      exact ih _ _ _ h
set_option maxRecDepth 100000 in
theorem w_X8_append {p : Program} {l : Launch} {e : Env} {s : State} {m : MethodId} {args : Array Value} {below : List Frame} {meth : Method} {c : Code} {A : Nat → Prop} {D : va_G} {ad : Nat → Nat} {kK kV : Nat → Nat} {cI cZ : ClassId} {N : Nat} {Q : UU → Prop} (C : Cx p m c cX8_append 3 s args RX8 meth none A D [(cI, .int), (cZ, .boolean)] (EH kK kV)) : ∀ {x1 : Int32} {u : UU}, m_X8_append N x1 u Q → WW p l e rm_X8_append s m args below meth c 0 0 (MQ below (QV D A (wH ad cI cZ) Q) args s 0 0 A) A D 3 0 [(0, .ref (ad 8)), (1, .int x1)] [] (wH ad cI cZ u) := by
  intro x1 u h
  unfold m_X8_append at h
  refine ww_aload_n C dX8_append_0 rfl 0 rfl ?_
  refine ww_iconst (v := 4) C dX8_append_1 (by decide) ?_
  refine ww_callVi (As := [.int (4 : Int32)]) (rest := []) C EH_ok (c_X8_hasRoomFor h) tb_3_105 tb_3_98 tb_3_99 tb_1_9 tb_3_100 rfl rfl ⟨rfl, hd_X8_hasRoomFor⟩ ⟨Nat.le_of_ble_eq_true rfl, Nat.le_of_ble_eq_true rfl⟩ rfl HF_8_0 rfl rfl (Nat.le_of_ble_eq_true rfl) dX8_append_2 ⟨Nat.zero_le _, Nat.zero_le _⟩ (fun r_2 u_1 h => ?_)
  refine ww_if_ne (tgt := 9) C dX8_append_5 (by decide) (fun hc => ?_) (fun hc => ?_)
  · have h := ite_f h hc
    refine ww_bipush (v := 24) C dX8_append_9 (by decide) ?_
    refine ww_istore_n (i := 2) (lv' := [(2, .int (24 : Int32)), (0, .ref (ad 8)), (1, .int x1)]) C dX8_append_11 rfl (by decide) rfl ?_
    refine ww_sub [1, 2, 0] rfl ?_
    exact w_X8_append_12 C N _ _ _ h
  · have h := ite_t h hc
    exact ww_vret C h dX8_append_8
theorem c_X8_append {l : Launch} {D : va_G} {ad : Nat → Nat} {kK kV : Nat → Nat} {cI cZ : ClassId} {N : Nat} {x1 : Int32} {u : UU} {Q : UU → Prop} (h : m_X8_append N x1 u Q) : MV l D [(cI, .int), (cZ, .boolean)] (EH kK kV) yX8_append (Cond.code yX8_append cX8_append 3 none) rm_X8_append [.ref (ad 8), .int x1] (wH ad cI cZ u) (wH ad cI cZ) Q 0 0 :=
  MV_of (own := RX8) (by decide) rfl (Nat.le_of_ble_eq_true rfl) rfl (fun p e s m args below meth c A C => w_X8_append C h)
theorem hd_X8_append : yX8_append.cls ≠ "java/lang/invoke/MethodHandle" ∧ yX8_append.cls ≠ "java/lang/invoke/VarHandle" ∧ (parseMethodDescriptor yX8_append.desc).map (fun d => d.parameters.length) = some 1 := by decide +kernel
abbrev rm_X11_feed : Room := { frames := 2, cells := 0, slots := 0, locals := 43 }
set_option maxRecDepth 100000 in
theorem w_X11_feed {p : Program} {l : Launch} {e : Env} {s : State} {m : MethodId} {args : Array Value} {below : List Frame} {meth : Method} {c : Code} {A : Nat → Prop} {D : va_G} {ad : Nat → Nat} {kK kV : Nat → Nat} {cI cZ : ClassId} {N : Nat} {Q : Int32 → UU → Prop} (C : Cx p m c cX11_feed 6 s args RX11 meth (some .int) A D [(cI, .int), (cZ, .boolean)] (EH kK kV)) : ∀ {x1 : Int32} {x2 : Int32} {x3 : Int32} {x4 : Int32} {x5 : Int32} {u : UU}, m_X11_feed N x1 x2 x3 x4 x5 u Q → WW p l e rm_X11_feed s m args below meth c 0 0 (MQ below (QI D A (wH ad cI cZ) Q) args s 0 0 A) A D 6 0 [(0, .ref (ad 0)), (1, .int x1), (2, .int x2), (3, .int x3), (4, .int x4), (5, .int x5)] [] (wH ad cI cZ u) := by
  intro x1 x2 x3 x4 x5 u h
  unfold m_X11_feed at h
  refine ww_aload_n C dX11_feed_0 rfl 0 rfl ?_
  refine ww_get C inX11 rfl 7 (by decide) tb_2_56 HF_0_7 dX11_feed_1 ?_
  refine ww_bipush (v := 20) C dX11_feed_4 (by decide) ?_
  refine ww_callVi (As := [.int (20 : Int32)]) (rest := []) C EH_ok (c_X8_hasRoomFor h) tb_3_97 tb_3_98 tb_3_99 tb_1_9 tb_3_100 rfl rfl ⟨rfl, hd_X8_hasRoomFor⟩ ⟨Nat.le_of_ble_eq_true rfl, Nat.le_of_ble_eq_true rfl⟩ rfl HF_8_0 rfl rfl (Nat.le_of_ble_eq_true rfl) dX11_feed_6 ⟨Nat.zero_le _, Nat.zero_le _⟩ (fun r_2 u_1 h => ?_)
  refine ww_if_ne (tgt := 14) C dX11_feed_9 (by decide) (fun hc => ?_) (fun hc => ?_)
  · have h := ite_f h hc
    refine ww_aload_n C dX11_feed_14 rfl 0 rfl ?_
    refine ww_get C inX11 rfl 7 (by decide) tb_2_56 HF_0_7 dX11_feed_15 ?_
    refine ww_iload_n C dX11_feed_18 rfl 1 rfl ?_
    refine ww_callVv (As := [.int x1]) (rest := []) C EH_ok (c_X8_append h) tb_3_101 tb_3_102 tb_3_103 tb_1_9 tb_3_104 rfl rfl ⟨rfl, hd_X8_append⟩ ⟨Nat.le_of_ble_eq_true rfl, Nat.le_of_ble_eq_true rfl⟩ rfl HF_8_0 rfl rfl (Nat.le_of_ble_eq_true rfl) dX11_feed_19 ⟨Nat.zero_le _, Nat.zero_le _⟩ (fun u_3 h => ?_)
    refine ww_aload_n C dX11_feed_22 rfl 0 rfl ?_
    refine ww_get C inX11 rfl 7 (by decide) tb_2_56 HF_0_7 dX11_feed_23 ?_
    refine ww_iload_n C dX11_feed_26 rfl 2 rfl ?_
    refine ww_callVv (As := [.int x2]) (rest := []) C EH_ok (c_X8_append h) tb_3_101 tb_3_102 tb_3_103 tb_1_9 tb_3_104 rfl rfl ⟨rfl, hd_X8_append⟩ ⟨Nat.le_of_ble_eq_true rfl, Nat.le_of_ble_eq_true rfl⟩ rfl HF_8_0 rfl rfl (Nat.le_of_ble_eq_true rfl) dX11_feed_27 ⟨Nat.zero_le _, Nat.zero_le _⟩ (fun u_5 h => ?_)
    refine ww_aload_n C dX11_feed_30 rfl 0 rfl ?_
    refine ww_get C inX11 rfl 7 (by decide) tb_2_56 HF_0_7 dX11_feed_31 ?_
    refine ww_iload_n C dX11_feed_34 rfl 3 rfl ?_
    refine ww_callVv (As := [.int x3]) (rest := []) C EH_ok (c_X8_append h) tb_3_101 tb_3_102 tb_3_103 tb_1_9 tb_3_104 rfl rfl ⟨rfl, hd_X8_append⟩ ⟨Nat.le_of_ble_eq_true rfl, Nat.le_of_ble_eq_true rfl⟩ rfl HF_8_0 rfl rfl (Nat.le_of_ble_eq_true rfl) dX11_feed_35 ⟨Nat.zero_le _, Nat.zero_le _⟩ (fun u_7 h => ?_)
    refine ww_aload_n C dX11_feed_38 rfl 0 rfl ?_
    refine ww_get C inX11 rfl 7 (by decide) tb_2_56 HF_0_7 dX11_feed_39 ?_
    refine ww_iload C dX11_feed_42 4 rfl ?_
    refine ww_callVv (As := [.int x4]) (rest := []) C EH_ok (c_X8_append h) tb_3_101 tb_3_102 tb_3_103 tb_1_9 tb_3_104 rfl rfl ⟨rfl, hd_X8_append⟩ ⟨Nat.le_of_ble_eq_true rfl, Nat.le_of_ble_eq_true rfl⟩ rfl HF_8_0 rfl rfl (Nat.le_of_ble_eq_true rfl) dX11_feed_44 ⟨Nat.zero_le _, Nat.zero_le _⟩ (fun u_9 h => ?_)
    refine ww_aload_n C dX11_feed_47 rfl 0 rfl ?_
    refine ww_get C inX11 rfl 7 (by decide) tb_2_56 HF_0_7 dX11_feed_48 ?_
    refine ww_iload C dX11_feed_51 5 rfl ?_
    refine ww_callVv (As := [.int x5]) (rest := []) C EH_ok (c_X8_append h) tb_3_101 tb_3_102 tb_3_103 tb_1_9 tb_3_104 rfl rfl ⟨rfl, hd_X8_append⟩ ⟨Nat.le_of_ble_eq_true rfl, Nat.le_of_ble_eq_true rfl⟩ rfl HF_8_0 rfl rfl (Nat.le_of_ble_eq_true rfl) dX11_feed_53 ⟨Nat.zero_le _, Nat.zero_le _⟩ (fun u_11 h => ?_)
    refine ww_aload_n C dX11_feed_56 rfl 0 rfl ?_
    refine ww_get C inX11 rfl 7 (by decide) tb_2_56 HF_0_7 dX11_feed_57 ?_
    refine ww_get C inX8 rfl 1 (by decide) tb_1_204 HF_8_1 dX11_feed_60 ?_
    exact ww_iret C h dX11_feed_63
  · have h := ite_t h hc
    refine ww_iconst (v := (-1)) C dX11_feed_12 (by decide) ?_
    exact ww_iret C h dX11_feed_13
theorem c_X11_feed {l : Launch} {D : va_G} {ad : Nat → Nat} {kK kV : Nat → Nat} {cI cZ : ClassId} {N : Nat} {x1 : Int32} {x2 : Int32} {x3 : Int32} {x4 : Int32} {x5 : Int32} {u : UU} {Q : Int32 → UU → Prop} (h : m_X11_feed N x1 x2 x3 x4 x5 u Q) : MI l D [(cI, .int), (cZ, .boolean)] (EH kK kV) yX11_feed (Cond.code yX11_feed cX11_feed 6 (some .int)) rm_X11_feed [.ref (ad 0), .int x1, .int x2, .int x3, .int x4, .int x5] (wH ad cI cZ u) (wH ad cI cZ) Q :=
  MI_of (own := RX11) (by decide) rfl (Nat.le_of_ble_eq_true rfl) rfl (fun p e s m args below meth c A C => w_X11_feed C h)
theorem hd_X11_feed : yX11_feed.cls ≠ "java/lang/invoke/MethodHandle" ∧ yX11_feed.cls ≠ "java/lang/invoke/VarHandle" ∧ (parseMethodDescriptor yX11_feed.desc).map (fun d => d.parameters.length) = some 5 := by decide +kernel
abbrev rm_X11_end : Room := { frames := 1, cells := 0, slots := 0, locals := 22 }
set_option maxRecDepth 100000 in
theorem w_X11_end {p : Program} {l : Launch} {e : Env} {s : State} {m : MethodId} {args : Array Value} {below : List Frame} {meth : Method} {c : Code} {A : Nat → Prop} {D : va_G} {ad : Nat → Nat} {kK kV : Nat → Nat} {cI cZ : ClassId} {N : Nat} {Q : Int32 → UU → Prop} (C : Cx p m c cX11_end 2 s args RX11 meth (some .int) A D [(cI, .int), (cZ, .boolean)] (EH kK kV)) : ∀ {x1 : Int32} {u : UU}, m_X11_end N x1 u Q → WW p l e rm_X11_end s m args below meth c 0 0 (MQ below (QI D A (wH ad cI cZ) Q) args s 0 0 A) A D 2 0 [(0, .ref (ad 0)), (1, .int x1)] [] (wH ad cI cZ u) := by
  intro x1 u h
  unfold m_X11_end at h
  refine ww_iload_n C dX11_end_0 rfl 1 rfl ?_
  refine ww_iconst (v := 0) C dX11_end_1 (by decide) ?_
  refine ww_aload_n C dX11_end_2 rfl 0 rfl ?_
  refine ww_get C inX11 rfl 7 (by decide) tb_2_56 HF_0_7 dX11_end_3 ?_
  refine ww_get C inX8 rfl 1 (by decide) tb_1_204 HF_8_1 dX11_end_6 ?_
  refine ww_callSi (As := [.int x1, .int (0 : Int32), .int (u.1 10)]) (rest := []) C EH_ok (c_X11_isIn h) tb_2_99 tb_2_100 tb_1_1 tb_2_101 rfl rfl hd_X11_isIn ⟨Nat.le_of_ble_eq_true rfl, Nat.le_of_ble_eq_true rfl⟩ rfl rfl (Nat.le_of_ble_eq_true rfl) dX11_end_9 ⟨Nat.zero_le _, Nat.zero_le _⟩ (fun r_2 u_1 h => ?_)
  refine ww_if_ne (tgt := 17) C dX11_end_12 (by decide) (fun hc => ?_) (fun hc => ?_)
  · have h := ite_f h hc
    refine ww_aload_n C dX11_end_17 rfl 0 rfl ?_
    refine ww_get C inX11 rfl 7 (by decide) tb_2_56 HF_0_7 dX11_end_18 ?_
    refine ww_iload_n C dX11_end_21 rfl 1 rfl ?_
    refine ww_put C inX8 rfl tyX8 tyX8_ok nmX8 1 (by decide) tb_1_204 rfl rfl rfl HS_8_1 dX11_end_22 ?_
    refine ww_nU (wH ad cI cZ) (fun u_3 eu_3 => ?_)
    have h := h u_3 eu_3
    refine ww_iload_n C dX11_end_25 rfl 1 rfl ?_
    exact ww_iret C h dX11_end_26
  · have h := ite_t h hc
    refine ww_iconst (v := (-1)) C dX11_end_15 (by decide) ?_
    exact ww_iret C h dX11_end_16
theorem c_X11_end {l : Launch} {D : va_G} {ad : Nat → Nat} {kK kV : Nat → Nat} {cI cZ : ClassId} {N : Nat} {x1 : Int32} {u : UU} {Q : Int32 → UU → Prop} (h : m_X11_end N x1 u Q) : MI l D [(cI, .int), (cZ, .boolean)] (EH kK kV) yX11_end (Cond.code yX11_end cX11_end 2 (some .int)) rm_X11_end [.ref (ad 0), .int x1] (wH ad cI cZ u) (wH ad cI cZ) Q :=
  MI_of (own := RX11) (by decide) rfl (Nat.le_of_ble_eq_true rfl) rfl (fun p e s m args below meth c A C => w_X11_end C h)
theorem hd_X11_end : yX11_end.cls ≠ "java/lang/invoke/MethodHandle" ∧ yX11_end.cls ≠ "java/lang/invoke/VarHandle" ∧ (parseMethodDescriptor yX11_end.desc).map (fun d => d.parameters.length) = some 1 := by decide +kernel
abbrev rm_X8_byteAt : Room := { frames := 0, cells := 0, slots := 0, locals := 0 }
set_option maxRecDepth 100000 in
theorem w_X8_byteAt {p : Program} {l : Launch} {e : Env} {s : State} {m : MethodId} {args : Array Value} {below : List Frame} {meth : Method} {c : Code} {A : Nat → Prop} {D : va_G} {ad : Nat → Nat} {kK kV : Nat → Nat} {cI cZ : ClassId} {N : Nat} {Q : Int32 → UU → Prop} (C : Cx p m c cX8_byteAt 2 s args RX8 meth (some .int) A D [(cI, .int), (cZ, .boolean)] (EH kK kV)) : ∀ {x1 : Int32} {u : UU}, m_X8_byteAt N x1 u Q → WW p l e rm_X8_byteAt s m args below meth c 0 0 (MQ below (QI D A (wH ad cI cZ) Q) args s 0 0 A) A D 2 0 [(0, .ref (ad 8)), (1, .int x1)] [] (wH ad cI cZ u) := by
  intro x1 u h
  unfold m_X8_byteAt at h
  refine ww_iload_n C dX8_byteAt_0 rfl 1 rfl ?_
  refine ww_if_lt (tgt := 28) C dX8_byteAt_1 (by decide) (fun hc => ?_) (fun hc => ?_)
  · have h := ite_t h hc
    refine ww_iconst (v := (-1)) C dX8_byteAt_28 (by decide) ?_
    exact ww_iret C h dX8_byteAt_29
  · have h := ite_f h hc
    refine ww_iload_n C dX8_byteAt_4 rfl 1 rfl ?_
    refine ww_aload_n C dX8_byteAt_5 rfl 0 rfl ?_
    refine ww_get C inX8 rfl 1 (by decide) tb_1_202 HF_8_1 dX8_byteAt_6 ?_
    refine ww_icmp_ge (tgt := 28) C dX8_byteAt_9 (by decide) (fun hc => ?_) (fun hc => ?_)
    · have h := ite_t h hc
      refine ww_iconst (v := (-1)) C dX8_byteAt_28 (by decide) ?_
      exact ww_iret C h dX8_byteAt_29
    · have h := ite_f h hc
      refine ww_iload_n C dX8_byteAt_12 rfl 1 rfl ?_
      refine ww_sipush (v := 200) C dX8_byteAt_13 (by decide) ?_
      refine ww_icmp_ge (tgt := 28) C dX8_byteAt_16 (by decide) (fun hc => ?_) (fun hc => ?_)
      · have h := ite_t h hc
        refine ww_iconst (v := (-1)) C dX8_byteAt_28 (by decide) ?_
        exact ww_iret C h dX8_byteAt_29
      · have h := ite_f h hc
        refine ww_aload_n C dX8_byteAt_19 rfl 0 rfl ?_
        refine ww_get C inX8 rfl 0 (by decide) tb_1_201 HF_8_0 dX8_byteAt_20 ?_
        refine ww_iload_n C dX8_byteAt_23 rfl 1 rfl ?_
        obtain ⟨hin, h⟩ := h
        refine ww_iald C 0 rfl HA_32 hin dX8_byteAt_24 ?_
        refine ww_goto (tgt := 29) C dX8_byteAt_25 (by decide) ?_
        exact ww_iret C h dX8_byteAt_29
theorem c_X8_byteAt {l : Launch} {D : va_G} {ad : Nat → Nat} {kK kV : Nat → Nat} {cI cZ : ClassId} {N : Nat} {x1 : Int32} {u : UU} {Q : Int32 → UU → Prop} (h : m_X8_byteAt N x1 u Q) : MI l D [(cI, .int), (cZ, .boolean)] (EH kK kV) yX8_byteAt (Cond.code yX8_byteAt cX8_byteAt 2 (some .int)) rm_X8_byteAt [.ref (ad 8), .int x1] (wH ad cI cZ u) (wH ad cI cZ) Q :=
  MI_of (own := RX8) (by decide) rfl (Nat.le_of_ble_eq_true rfl) rfl (fun p e s m args below meth c A C => w_X8_byteAt C h)
theorem hd_X8_byteAt : yX8_byteAt.cls ≠ "java/lang/invoke/MethodHandle" ∧ yX8_byteAt.cls ≠ "java/lang/invoke/VarHandle" ∧ (parseMethodDescriptor yX8_byteAt.desc).map (fun d => d.parameters.length) = some 1 := by decide +kernel
abbrev rm_X6_kindOf : Room := { frames := 0, cells := 0, slots := 0, locals := 0 }
set_option maxRecDepth 100000 in
theorem w_X6_kindOf_14 {p : Program} {l : Launch} {e : Env} {s : State} {m : MethodId} {args : Array Value} {below : List Frame} {meth : Method} {c : Code} {A : Nat → Prop} {D : va_G} {ad : Nat → Nat} {kK kV : Nat → Nat} {cI cZ : ClassId} {N : Nat} {Q : Int32 → UU → Prop} (C : Cx p m c cX6_kindOf 1 s args RX6 meth (some .int) A D [(cI, .int), (cZ, .boolean)] (EH kK kV)) : ∀ {x0 : Int32} {u : UU}, m_X6_kindOf_14 N x0 u Q → WW p l e rm_X6_kindOf s m args below meth c 0 0 (MQ below (QI D A (wH ad cI cZ) Q) args s 0 0 A) A D 1 14 [(0, .int x0)] [] (wH ad cI cZ u) := by
  intro x0 u h
  unfold m_X6_kindOf_14 at h
  refine ww_iload_n C dX6_kindOf_14 rfl 0 rfl ?_
  refine ww_bipush (v := 48) C dX6_kindOf_15 (by decide) ?_
  refine ww_icmp_lt (tgt := 30) C dX6_kindOf_17 (by decide) (fun hc => ?_) (fun hc => ?_)
  · have h := ite_t h hc
    refine ww_iconst (v := 3) C dX6_kindOf_30 (by decide) ?_
    exact ww_iret C h dX6_kindOf_31
  · have h := ite_f h hc
    refine ww_iload_n C dX6_kindOf_20 rfl 0 rfl ?_
    refine ww_bipush (v := 57) C dX6_kindOf_21 (by decide) ?_
    refine ww_icmp_gt (tgt := 30) C dX6_kindOf_23 (by decide) (fun hc => ?_) (fun hc => ?_)
    · have h := ite_t h hc
      refine ww_iconst (v := 3) C dX6_kindOf_30 (by decide) ?_
      exact ww_iret C h dX6_kindOf_31
    · have h := ite_f h hc
      refine ww_iconst (v := 2) C dX6_kindOf_26 (by decide) ?_
      refine ww_goto (tgt := 31) C dX6_kindOf_27 (by decide) ?_
      exact ww_iret C h dX6_kindOf_31
set_option maxRecDepth 100000 in
theorem w_X6_kindOf {p : Program} {l : Launch} {e : Env} {s : State} {m : MethodId} {args : Array Value} {below : List Frame} {meth : Method} {c : Code} {A : Nat → Prop} {D : va_G} {ad : Nat → Nat} {kK kV : Nat → Nat} {cI cZ : ClassId} {N : Nat} {Q : Int32 → UU → Prop} (C : Cx p m c cX6_kindOf 1 s args RX6 meth (some .int) A D [(cI, .int), (cZ, .boolean)] (EH kK kV)) : ∀ {x0 : Int32} {u : UU}, m_X6_kindOf N x0 u Q → WW p l e rm_X6_kindOf s m args below meth c 0 0 (MQ below (QI D A (wH ad cI cZ) Q) args s 0 0 A) A D 1 0 [(0, .int x0)] [] (wH ad cI cZ u) := by
  intro x0 u h
  unfold m_X6_kindOf at h
  refine ww_iload_n C dX6_kindOf_0 rfl 0 rfl ?_
  refine ww_bipush (v := 97) C dX6_kindOf_1 (by decide) ?_
  refine ww_icmp_lt (tgt := 14) C dX6_kindOf_3 (by decide) (fun hc => ?_) (fun hc => ?_)
  · have h := ite_t h hc
    exact w_X6_kindOf_14 C h
  · have h := ite_f h hc
    refine ww_iload_n C dX6_kindOf_6 rfl 0 rfl ?_
    refine ww_bipush (v := 122) C dX6_kindOf_7 (by decide) ?_
    refine ww_icmp_gt (tgt := 14) C dX6_kindOf_9 (by decide) (fun hc => ?_) (fun hc => ?_)
    · have h := ite_t h hc
      exact w_X6_kindOf_14 C h
    · have h := ite_f h hc
      refine ww_iconst (v := 1) C dX6_kindOf_12 (by decide) ?_
      exact ww_iret C h dX6_kindOf_13
theorem c_X6_kindOf {l : Launch} {D : va_G} {ad : Nat → Nat} {kK kV : Nat → Nat} {cI cZ : ClassId} {N : Nat} {x0 : Int32} {u : UU} {Q : Int32 → UU → Prop} (h : m_X6_kindOf N x0 u Q) : MI l D [(cI, .int), (cZ, .boolean)] (EH kK kV) yX6_kindOf (Cond.code yX6_kindOf cX6_kindOf 1 (some .int)) rm_X6_kindOf [.int x0] (wH ad cI cZ u) (wH ad cI cZ) Q :=
  MI_of (own := RX6) (by decide) rfl (Nat.le_of_ble_eq_true rfl) rfl (fun p e s m args below meth c A C => w_X6_kindOf C h)
theorem hd_X6_kindOf : yX6_kindOf.cls ≠ "java/lang/invoke/MethodHandle" ∧ yX6_kindOf.cls ≠ "java/lang/invoke/VarHandle" ∧ (parseMethodDescriptor yX6_kindOf.desc).map (fun d => d.parameters.length) = some 1 := by decide +kernel
abbrev rm_X6_isAtEnd : Room := { frames := 0, cells := 0, slots := 0, locals := 0 }
set_option maxRecDepth 100000 in
theorem w_X6_isAtEnd {p : Program} {l : Launch} {e : Env} {s : State} {m : MethodId} {args : Array Value} {below : List Frame} {meth : Method} {c : Code} {A : Nat → Prop} {D : va_G} {ad : Nat → Nat} {kK kV : Nat → Nat} {cI cZ : ClassId} {N : Nat} {Q : Int32 → UU → Prop} (C : Cx p m c cX6_isAtEnd 1 s args RX6 meth (some .boolean) A D [(cI, .int), (cZ, .boolean)] (EH kK kV)) : ∀ {u : UU}, m_X6_isAtEnd N  u Q → WW p l e rm_X6_isAtEnd s m args below meth c 0 0 (MQ below (QI D A (wH ad cI cZ) Q) args s 0 0 A) A D 1 0 [(0, .ref (ad 9))] [] (wH ad cI cZ u) := by
  intro  u h
  unfold m_X6_isAtEnd at h
  refine ww_aload_n C dX6_isAtEnd_0 rfl 0 rfl ?_
  refine ww_get C inX6 rfl 1 (by decide) tb_1_217 HF_9_1 dX6_isAtEnd_1 ?_
  refine ww_aload_n C dX6_isAtEnd_4 rfl 0 rfl ?_
  refine ww_get C inX6 rfl 0 (by decide) tb_1_216 HF_9_0 dX6_isAtEnd_5 ?_
  refine ww_get C inX8 rfl 1 (by decide) tb_1_203 HF_8_1 dX6_isAtEnd_8 ?_
  refine ww_icmp_lt (tgt := 18) C dX6_isAtEnd_11 (by decide) (fun hc => ?_) (fun hc => ?_)
  · have h := ite_t h hc
    refine ww_iconst (v := 0) C dX6_isAtEnd_18 (by decide) ?_
    exact ww_zret C h.1 h.2 dX6_isAtEnd_19
  · have h := ite_f h hc
    refine ww_iconst (v := 1) C dX6_isAtEnd_14 (by decide) ?_
    refine ww_goto (tgt := 19) C dX6_isAtEnd_15 (by decide) ?_
    exact ww_zret C h.1 h.2 dX6_isAtEnd_19
theorem c_X6_isAtEnd {l : Launch} {D : va_G} {ad : Nat → Nat} {kK kV : Nat → Nat} {cI cZ : ClassId} {N : Nat}  {u : UU} {Q : Int32 → UU → Prop} (h : m_X6_isAtEnd N  u Q) : MI l D [(cI, .int), (cZ, .boolean)] (EH kK kV) yX6_isAtEnd (Cond.code yX6_isAtEnd cX6_isAtEnd 1 (some .boolean)) rm_X6_isAtEnd [.ref (ad 9)] (wH ad cI cZ u) (wH ad cI cZ) Q :=
  MI_of (own := RX6) (by decide) rfl (Nat.le_of_ble_eq_true rfl) rfl (fun p e s m args below meth c A C => w_X6_isAtEnd C h)
theorem hd_X6_isAtEnd : yX6_isAtEnd.cls ≠ "java/lang/invoke/MethodHandle" ∧ yX6_isAtEnd.cls ≠ "java/lang/invoke/VarHandle" ∧ (parseMethodDescriptor yX6_isAtEnd.desc).map (fun d => d.parameters.length) = some 0 := by decide +kernel
abbrev rm_X6_step : Room := { frames := 1, cells := 0, slots := 0, locals := 21 }
set_option maxRecDepth 100000 in
theorem w_X6_step_92 {p : Program} {l : Launch} {e : Env} {s : State} {m : MethodId} {args : Array Value} {below : List Frame} {meth : Method} {c : Code} {A : Nat → Prop} {D : va_G} {ad : Nat → Nat} {kK kV : Nat → Nat} {cI cZ : ClassId} {N : Nat} {Q : UU → Prop} (C : Cx p m c cX6_step 2 s args RX6 meth none A D [(cI, .int), (cZ, .boolean)] (EH kK kV)) : ∀ (n : Nat) (x1 : Int32) (u : UU), m_X6_step_92 N Q n x1 u → WW p l e rm_X6_step s m args below meth c 0 0 (MQ below (QV D A (wH ad cI cZ) Q) args s 0 0 A) A D 2 92 [(0, .ref (ad 9)), (1, .int x1)] [] (wH ad cI cZ u) := by
  intro n
  induction n with
  | zero => intro x1 u h; rw [m_X6_step_92] at h; exact h.elim
  | succ n ih =>
    intro x1 u h
    rw [m_X6_step_92] at h
    refine ww_iload_n C dX6_step_92 rfl 1 rfl ?_
    refine ww_iconst (v := 3) C dX6_step_93 (by decide) ?_
    refine ww_icmp_eq (tgt := 142) C dX6_step_94 (by decide) (fun hc => ?_) (fun hc => ?_)
    · have h := ite_t h hc
      exact ww_vret C h dX6_step_142
    · have h := ite_f h hc
      refine ww_aload_n C dX6_step_97 rfl 0 rfl ?_
      refine ww_get C inX6 rfl 2 (by decide) tb_1_218 HF_9_2 dX6_step_98 ?_
      refine ww_aload_n C dX6_step_101 rfl 0 rfl ?_
      refine ww_get C inX6 rfl 0 (by decide) tb_1_216 HF_9_0 dX6_step_102 ?_
      refine ww_get C inX8 rfl 1 (by decide) tb_1_203 HF_8_1 dX6_step_105 ?_
      refine ww_icmp_ge (tgt := 142) C dX6_step_108 (by decide) (fun hc => ?_) (fun hc => ?_)
      · have h := ite_t h hc
        exact ww_vret C h dX6_step_142
      · have h := ite_f h hc
        refine ww_aload_n C dX6_step_111 rfl 0 rfl ?_
        refine ww_get C inX6 rfl 0 (by decide) tb_1_216 HF_9_0 dX6_step_112 ?_
        refine ww_aload_n C dX6_step_115 rfl 0 rfl ?_
        refine ww_get C inX6 rfl 2 (by decide) tb_1_218 HF_9_2 dX6_step_116 ?_
        refine ww_callVi (As := [.int (u.1 12)]) (rest := []) C EH_ok (c_X8_byteAt h) tb_3_126 tb_3_127 tb_3_128 tb_1_9 tb_3_129 rfl rfl ⟨rfl, hd_X8_byteAt⟩ ⟨Nat.le_of_ble_eq_true rfl, Nat.le_of_ble_eq_true rfl⟩ rfl HF_8_0 rfl rfl (Nat.le_of_ble_eq_true rfl) dX6_step_119 ⟨Nat.zero_le _, Nat.zero_le _⟩ (fun r_2 u_1 h => ?_)
        refine ww_callSi (As := [.int r_2]) (rest := []) C EH_ok (c_X6_kindOf h) tb_3_134 tb_3_135 tb_1_10 tb_3_136 rfl rfl hd_X6_kindOf ⟨Nat.le_of_ble_eq_true rfl, Nat.le_of_ble_eq_true rfl⟩ rfl rfl (Nat.le_of_ble_eq_true rfl) dX6_step_122 ⟨Nat.zero_le _, Nat.zero_le _⟩ (fun r_4 u_3 h => ?_)
        refine ww_iload_n C dX6_step_125 rfl 1 rfl ?_
        refine ww_icmp_ne (tgt := 142) C dX6_step_126 (by decide) (fun hc => ?_) (fun hc => ?_)
        · have h := ite_f h hc
          exact ww_vret C h dX6_step_142
        · have h := ite_t h hc
          refine ww_aload_n C dX6_step_129 rfl 0 rfl ?_
          refine ww_dup C dX6_step_130 rfl ?_
          refine ww_get C inX6 rfl 2 (by decide) tb_1_218 HF_9_2 dX6_step_131 ?_
          refine ww_iconst (v := 1) C dX6_step_134 (by decide) ?_
          refine ww_iadd C dX6_step_135 ?_
          refine ww_put C inX6 rfl tyX6 tyX6_ok nmX6 2 (by decide) tb_1_218 rfl rfl rfl HS_9_2 dX6_step_136 ?_
          refine ww_nU (wH ad cI cZ) (fun u_5 eu_5 => ?_)
          have h := h u_5 eu_5
          refine ww_goto (tgt := 92) C dX6_step_139 (by decide) ?_
          exact ih _ _ h
set_option maxRecDepth 100000 in
theorem w_X6_step_51 {p : Program} {l : Launch} {e : Env} {s : State} {m : MethodId} {args : Array Value} {below : List Frame} {meth : Method} {c : Code} {A : Nat → Prop} {D : va_G} {ad : Nat → Nat} {kK kV : Nat → Nat} {cI cZ : ClassId} {N : Nat} {Q : UU → Prop} (C : Cx p m c cX6_step 2 s args RX6 meth none A D [(cI, .int), (cZ, .boolean)] (EH kK kV)) : ∀ {u : UU}, m_X6_step_51 N  u Q → WW p l e rm_X6_step s m args below meth c 0 0 (MQ below (QV D A (wH ad cI cZ) Q) args s 0 0 A) A D 2 51 [(0, .ref (ad 9))] [] (wH ad cI cZ u) := by
  intro  u h
  unfold m_X6_step_51 at h
  refine ww_aload_n C dX6_step_51 rfl 0 rfl ?_
  refine ww_aload_n C dX6_step_52 rfl 0 rfl ?_
  refine ww_get C inX6 rfl 1 (by decide) tb_1_217 HF_9_1 dX6_step_53 ?_
  refine ww_put C inX6 rfl tyX6 tyX6_ok nmX6 2 (by decide) tb_1_218 rfl rfl rfl HS_9_2 dX6_step_56 ?_
  refine ww_nU (wH ad cI cZ) (fun u_1 eu_1 => ?_)
  have h := h u_1 eu_1
  refine ww_aload_n C dX6_step_59 rfl 0 rfl ?_
  refine ww_callVi (As := []) (rest := []) C EH_ok (c_X6_isAtEnd h) tb_3_130 tb_3_132 tbs_13 tb_1_10 tb_3_133 rfl rfl ⟨rfl, hd_X6_isAtEnd⟩ ⟨Nat.le_of_ble_eq_true rfl, Nat.le_of_ble_eq_true rfl⟩ rfl HF_9_0 rfl rfl (Nat.le_of_ble_eq_true rfl) dX6_step_60 ⟨Nat.zero_le _, Nat.zero_le _⟩ (fun r_3 u_2 h => ?_)
  refine ww_if_eq (tgt := 67) C dX6_step_63 (by decide) (fun hc => ?_) (fun hc => ?_)
  · have h := ite_t h hc
    refine ww_aload_n C dX6_step_67 rfl 0 rfl ?_
    refine ww_get C inX6 rfl 0 (by decide) tb_1_216 HF_9_0 dX6_step_68 ?_
    refine ww_aload_n C dX6_step_71 rfl 0 rfl ?_
    refine ww_get C inX6 rfl 1 (by decide) tb_1_217 HF_9_1 dX6_step_72 ?_
    refine ww_callVi (As := [.int (u_2.1 11)]) (rest := []) C EH_ok (c_X8_byteAt h) tb_3_126 tb_3_127 tb_3_128 tb_1_9 tb_3_129 rfl rfl ⟨rfl, hd_X8_byteAt⟩ ⟨Nat.le_of_ble_eq_true rfl, Nat.le_of_ble_eq_true rfl⟩ rfl HF_8_0 rfl rfl (Nat.le_of_ble_eq_true rfl) dX6_step_75 ⟨Nat.zero_le _, Nat.zero_le _⟩ (fun r_5 u_4 h => ?_)
    refine ww_callSi (As := [.int r_5]) (rest := []) C EH_ok (c_X6_kindOf h) tb_3_134 tb_3_135 tb_1_10 tb_3_136 rfl rfl hd_X6_kindOf ⟨Nat.le_of_ble_eq_true rfl, Nat.le_of_ble_eq_true rfl⟩ rfl rfl (Nat.le_of_ble_eq_true rfl) dX6_step_78 ⟨Nat.zero_le _, Nat.zero_le _⟩ (fun r_7 u_6 h => ?_)
    refine ww_istore_n (i := 1) (lv' := [(1, .int r_7), (0, .ref (ad 9))]) C dX6_step_81 rfl (by decide) rfl ?_
    refine ww_aload_n C dX6_step_82 rfl 1 rfl ?_
    refine ww_dup C dX6_step_83 rfl ?_
    refine ww_get C inX6 rfl 2 (by decide) tb_1_218 HF_9_2 dX6_step_84 ?_
    refine ww_iconst (v := 1) C dX6_step_87 (by decide) ?_
    refine ww_iadd C dX6_step_88 ?_
    refine ww_put C inX6 rfl tyX6 tyX6_ok nmX6 2 (by decide) tb_1_218 rfl rfl rfl HS_9_2 dX6_step_89 ?_
    refine ww_nU (wH ad cI cZ) (fun u_8 eu_8 => ?_)
    have h := h u_8 eu_8
    refine ww_sub [1, 0] rfl ?_
    exact w_X6_step_92 C N _ _ h
  · have h := ite_f h hc
    exact ww_vret C h dX6_step_66
set_option maxRecDepth 100000 in
theorem w_X6_step_8 {p : Program} {l : Launch} {e : Env} {s : State} {m : MethodId} {args : Array Value} {below : List Frame} {meth : Method} {c : Code} {A : Nat → Prop} {D : va_G} {ad : Nat → Nat} {kK kV : Nat → Nat} {cI cZ : ClassId} {N : Nat} {Q : UU → Prop} (C : Cx p m c cX6_step 2 s args RX6 meth none A D [(cI, .int), (cZ, .boolean)] (EH kK kV)) : ∀ (n : Nat) (u : UU), m_X6_step_8 N Q n  u → WW p l e rm_X6_step s m args below meth c 0 0 (MQ below (QV D A (wH ad cI cZ) Q) args s 0 0 A) A D 2 8 [(0, .ref (ad 9))] [] (wH ad cI cZ u) := by
  intro n
  induction n with
  | zero => intro  u h; rw [m_X6_step_8] at h; exact h.elim
  | succ n ih =>
    intro  u h
    rw [m_X6_step_8] at h
    refine ww_aload_n C dX6_step_8 rfl 0 rfl ?_
    refine ww_get C inX6 rfl 1 (by decide) tb_1_217 HF_9_1 dX6_step_9 ?_
    refine ww_aload_n C dX6_step_12 rfl 0 rfl ?_
    refine ww_get C inX6 rfl 0 (by decide) tb_1_216 HF_9_0 dX6_step_13 ?_
    refine ww_get C inX8 rfl 1 (by decide) tb_1_203 HF_8_1 dX6_step_16 ?_
    refine ww_icmp_ge (tgt := 51) C dX6_step_19 (by decide) (fun hc => ?_) (fun hc => ?_)
    · have h := ite_t h hc
      exact w_X6_step_51 C h
    · have h := ite_f h hc
      refine ww_aload_n C dX6_step_22 rfl 0 rfl ?_
      refine ww_get C inX6 rfl 0 (by decide) tb_1_216 HF_9_0 dX6_step_23 ?_
      refine ww_aload_n C dX6_step_26 rfl 0 rfl ?_
      refine ww_get C inX6 rfl 1 (by decide) tb_1_217 HF_9_1 dX6_step_27 ?_
      refine ww_callVi (As := [.int (u.1 11)]) (rest := []) C EH_ok (c_X8_byteAt h) tb_3_126 tb_3_127 tb_3_128 tb_1_9 tb_3_129 rfl rfl ⟨rfl, hd_X8_byteAt⟩ ⟨Nat.le_of_ble_eq_true rfl, Nat.le_of_ble_eq_true rfl⟩ rfl HF_8_0 rfl rfl (Nat.le_of_ble_eq_true rfl) dX6_step_30 ⟨Nat.zero_le _, Nat.zero_le _⟩ (fun r_2 u_1 h => ?_)
      refine ww_bipush (v := 32) C dX6_step_33 (by decide) ?_
      refine ww_icmp_ne (tgt := 51) C dX6_step_35 (by decide) (fun hc => ?_) (fun hc => ?_)
      · have h := ite_f h hc
        exact w_X6_step_51 C h
      · have h := ite_t h hc
        refine ww_aload_n C dX6_step_38 rfl 0 rfl ?_
        refine ww_dup C dX6_step_39 rfl ?_
        refine ww_get C inX6 rfl 1 (by decide) tb_1_217 HF_9_1 dX6_step_40 ?_
        refine ww_iconst (v := 1) C dX6_step_43 (by decide) ?_
        refine ww_iadd C dX6_step_44 ?_
        refine ww_put C inX6 rfl tyX6 tyX6_ok nmX6 1 (by decide) tb_1_217 rfl rfl rfl HS_9_1 dX6_step_45 ?_
        refine ww_nU (wH ad cI cZ) (fun u_3 eu_3 => ?_)
        have h := h u_3 eu_3
        refine ww_goto (tgt := 8) C dX6_step_48 (by decide) ?_
        exact ih _ h
set_option maxRecDepth 100000 in
theorem w_X6_step {p : Program} {l : Launch} {e : Env} {s : State} {m : MethodId} {args : Array Value} {below : List Frame} {meth : Method} {c : Code} {A : Nat → Prop} {D : va_G} {ad : Nat → Nat} {kK kV : Nat → Nat} {cI cZ : ClassId} {N : Nat} {Q : UU → Prop} (C : Cx p m c cX6_step 2 s args RX6 meth none A D [(cI, .int), (cZ, .boolean)] (EH kK kV)) : ∀ {u : UU}, m_X6_step N  u Q → WW p l e rm_X6_step s m args below meth c 0 0 (MQ below (QV D A (wH ad cI cZ) Q) args s 0 0 A) A D 2 0 [(0, .ref (ad 9))] [] (wH ad cI cZ u) := by
  intro  u h
  unfold m_X6_step at h
  refine ww_aload_n C dX6_step_0 rfl 0 rfl ?_
  refine ww_aload_n C dX6_step_1 rfl 0 rfl ?_
  refine ww_get C inX6 rfl 2 (by decide) tb_1_218 HF_9_2 dX6_step_2 ?_
  refine ww_put C inX6 rfl tyX6 tyX6_ok nmX6 1 (by decide) tb_1_217 rfl rfl rfl HS_9_1 dX6_step_5 ?_
  refine ww_nU (wH ad cI cZ) (fun u_1 eu_1 => ?_)
  have h := h u_1 eu_1
  exact w_X6_step_8 C N _ h
theorem c_X6_step {l : Launch} {D : va_G} {ad : Nat → Nat} {kK kV : Nat → Nat} {cI cZ : ClassId} {N : Nat}  {u : UU} {Q : UU → Prop} (h : m_X6_step N  u Q) : MV l D [(cI, .int), (cZ, .boolean)] (EH kK kV) yX6_step (Cond.code yX6_step cX6_step 2 none) rm_X6_step [.ref (ad 9)] (wH ad cI cZ u) (wH ad cI cZ) Q 0 0 :=
  MV_of (own := RX6) (by decide) rfl (Nat.le_of_ble_eq_true rfl) rfl (fun p e s m args below meth c A C => w_X6_step C h)
theorem hd_X6_step : yX6_step.cls ≠ "java/lang/invoke/MethodHandle" ∧ yX6_step.cls ≠ "java/lang/invoke/VarHandle" ∧ (parseMethodDescriptor yX6_step.desc).map (fun d => d.parameters.length) = some 0 := by decide +kernel
abbrev rm_X6_takeWord_s : Room := { frames := 4, cells := 0, slots := 0, locals := 85 }
set_option maxRecDepth 100000 in
theorem w_X6_takeWord_s_20 {p : Program} {l : Launch} {e : Env} {s : State} {m : MethodId} {args : Array Value} {below : List Frame} {meth : Method} {c : Code} {A : Nat → Prop} {D : va_G} {ad : Nat → Nat} {kK kV : Nat → Nat} {cI cZ : ClassId} {N : Nat} {Q : Int32 → UU → Prop} (C : Cx p m c cX6_takeWord 3 s args RX6 meth (some .boolean) A D [(cI, .int), (cZ, .boolean)] (EH kK kV)) : ∀ (n : Nat) (x1 : Nat) (x2 : Int32) (u : UU), m_X6_takeWord_s_20 N Q n x1 x2 u → WW p l e rm_X6_takeWord_s s m args below meth c 0 0 (MQ below (QI D A (wH ad cI cZ) Q) args s 0 0 A) A D 3 20 [(0, .ref (ad 9)), (1, .ref (kK x1)), (2, .int x2)] [] (wH ad cI cZ u) := by
  intro n
  induction n with
  | zero => intro x1 x2 u h; rw [m_X6_takeWord_s_20] at h; exact h.elim
  | succ n ih =>
    intro x1 x2 u h
    rw [m_X6_takeWord_s_20] at h
    refine ww_iload_n C dX6_takeWord_20 rfl 2 rfl ?_
    refine ww_aload_n C dX6_takeWord_21 rfl 1 rfl ?_
    obtain ⟨hi, h⟩ := h
    refine ww_callStr (As := []) (rest := [.int x2]) C hi (c_J0_length_8abf5 hi) tb_3_146 tb_3_147 tb_3_148 tb_1_16 tb_3_149 rfl rfl ⟨rfl, hd_J0_length_8abf5⟩ ⟨Nat.le_of_ble_eq_true rfl, Nat.le_of_ble_eq_true rfl⟩ rfl rfl (Nat.le_of_ble_eq_true rfl) dX6_takeWord_22 ⟨Nat.zero_le _, Nat.zero_le _⟩ (fun r _ hr => ?_)
    subst hr
    refine ww_icmp_ge (tgt := 57) C dX6_takeWord_25 (by decide) (fun hc => ?_) (fun hc => ?_)
    · have h := ite_t h hc
      refine ww_aload_n C dX6_takeWord_57 rfl 0 rfl ?_
      refine ww_callVv (As := []) (rest := []) C EH_ok (c_X6_step h) tb_3_122 tb_3_124 tbs_12 tb_1_10 tb_3_125 rfl rfl ⟨rfl, hd_X6_step⟩ ⟨Nat.le_of_ble_eq_true rfl, Nat.le_of_ble_eq_true rfl⟩ rfl HF_9_0 rfl rfl (Nat.le_of_ble_eq_true rfl) dX6_takeWord_58 ⟨Nat.zero_le _, Nat.zero_le _⟩ (fun u_1 h => ?_)
      refine ww_iconst (v := 1) C dX6_takeWord_61 (by decide) ?_
      exact ww_zret C h.1 h.2 dX6_takeWord_62
    · have h := ite_f h hc
      refine ww_aload_n C dX6_takeWord_28 rfl 0 rfl ?_
      refine ww_get C inX6 rfl 0 (by decide) tb_1_216 HF_9_0 dX6_takeWord_29 ?_
      refine ww_aload_n C dX6_takeWord_32 rfl 0 rfl ?_
      refine ww_get C inX6 rfl 1 (by decide) tb_1_217 HF_9_1 dX6_takeWord_33 ?_
      refine ww_iload_n C dX6_takeWord_36 rfl 2 rfl ?_
      refine ww_iadd C dX6_takeWord_37 ?_
      refine ww_callVi (As := [.int ((u.1 11) + x2)]) (rest := []) C EH_ok (c_X8_byteAt h) tb_3_126 tb_3_127 tb_3_128 tb_1_9 tb_3_129 rfl rfl ⟨rfl, hd_X8_byteAt⟩ ⟨Nat.le_of_ble_eq_true rfl, Nat.le_of_ble_eq_true rfl⟩ rfl HF_8_0 rfl rfl (Nat.le_of_ble_eq_true rfl) dX6_takeWord_38 ⟨Nat.zero_le _, Nat.zero_le _⟩ (fun r_4 u_3 h => ?_)
      refine ww_aload_n C dX6_takeWord_41 rfl 1 rfl ?_
      refine ww_iload_n C dX6_takeWord_42 rfl 2 rfl ?_
      obtain ⟨hi, h⟩ := h
      obtain ⟨hj, h⟩ := h
      refine ww_callStr (As := [.int x2]) (rest := [.int r_4]) C hi (c_J0_charAt_5068e hi hj) tb_3_156 tb_3_157 tb_3_158 tb_1_16 tb_3_159 rfl rfl ⟨rfl, hd_J0_charAt_5068e⟩ ⟨Nat.le_of_ble_eq_true rfl, Nat.le_of_ble_eq_true rfl⟩ rfl rfl (Nat.le_of_ble_eq_true rfl) dX6_takeWord_43 ⟨Nat.zero_le _, Nat.zero_le _⟩ (fun r _ hr => ?_)
      subst hr
      refine ww_icmp_eq (tgt := 51) C dX6_takeWord_46 (by decide) (fun hc => ?_) (fun hc => ?_)
      · have h := ite_t h hc
        obtain ⟨z_5, ez_5⟩ : ∃ z_5 : Int32, z_5 = x2 + (1 : Int32) := ⟨_, rfl⟩
        have h := h z_5 ez_5
        refine ww_iinc (i := 2) (j := 2) (v := z_5) (lv' := [(2, .int z_5), (0, .ref (ad 9)), (1, .ref (kK x1))]) C dX6_takeWord_51 rfl (by rw [ez_5]; rfl) (by decide) rfl ?_
        refine ww_goto (tgt := 20) C dX6_takeWord_54 (by decide) ?_
        refine ww_sub [1, 2, 0] rfl ?_
        exact ih _ _ _ h
      · have h := ite_f h hc
        refine ww_iconst (v := 0) C dX6_takeWord_49 (by decide) ?_
        exact ww_zret C h.1 h.2 dX6_takeWord_50
set_option maxRecDepth 100000 in
theorem w_X6_takeWord_s {p : Program} {l : Launch} {e : Env} {s : State} {m : MethodId} {args : Array Value} {below : List Frame} {meth : Method} {c : Code} {A : Nat → Prop} {D : va_G} {ad : Nat → Nat} {kK kV : Nat → Nat} {cI cZ : ClassId} {N : Nat} {Q : Int32 → UU → Prop} (C : Cx p m c cX6_takeWord 3 s args RX6 meth (some .boolean) A D [(cI, .int), (cZ, .boolean)] (EH kK kV)) : ∀ {x1 : Nat} {u : UU}, m_X6_takeWord_s N x1 u Q → WW p l e rm_X6_takeWord_s s m args below meth c 0 0 (MQ below (QI D A (wH ad cI cZ) Q) args s 0 0 A) A D 3 0 [(0, .ref (ad 9)), (1, .ref (kK x1))] [] (wH ad cI cZ u) := by
  intro x1 u h
  unfold m_X6_takeWord_s at h
  refine ww_aload_n C dX6_takeWord_0 rfl 0 rfl ?_
  refine ww_get C inX6 rfl 2 (by decide) tb_1_218 HF_9_2 dX6_takeWord_1 ?_
  refine ww_aload_n C dX6_takeWord_4 rfl 0 rfl ?_
  refine ww_get C inX6 rfl 1 (by decide) tb_1_217 HF_9_1 dX6_takeWord_5 ?_
  refine ww_isub C dX6_takeWord_8 ?_
  refine ww_aload_n C dX6_takeWord_9 rfl 1 rfl ?_
  obtain ⟨hi, h⟩ := h
  refine ww_callStr (As := []) (rest := [.int ((u.1 12) - (u.1 11))]) C hi (c_J0_length_8abf5 hi) tb_3_146 tb_3_147 tb_3_148 tb_1_16 tb_3_149 rfl rfl ⟨rfl, hd_J0_length_8abf5⟩ ⟨Nat.le_of_ble_eq_true rfl, Nat.le_of_ble_eq_true rfl⟩ rfl rfl (Nat.le_of_ble_eq_true rfl) dX6_takeWord_10 ⟨Nat.zero_le _, Nat.zero_le _⟩ (fun r _ hr => ?_)
  subst hr
  refine ww_icmp_eq (tgt := 18) C dX6_takeWord_13 (by decide) (fun hc => ?_) (fun hc => ?_)
  · have h := ite_t h hc
    refine ww_iconst (v := 0) C dX6_takeWord_18 (by decide) ?_
    refine ww_istore_n (i := 2) (lv' := [(2, .int (0 : Int32)), (0, .ref (ad 9)), (1, .ref (kK x1))]) C dX6_takeWord_19 rfl (by decide) rfl ?_
    refine ww_sub [1, 2, 0] rfl ?_
    exact w_X6_takeWord_s_20 C N _ _ _ h
  · have h := ite_f h hc
    refine ww_iconst (v := 0) C dX6_takeWord_16 (by decide) ?_
    exact ww_zret C h.1 h.2 dX6_takeWord_17
theorem c_X6_takeWord_s {l : Launch} {D : va_G} {ad : Nat → Nat} {kK kV : Nat → Nat} {cI cZ : ClassId} {N : Nat} {x1 : Nat} {u : UU} {Q : Int32 → UU → Prop} (h : m_X6_takeWord_s N x1 u Q) : MI l D [(cI, .int), (cZ, .boolean)] (EH kK kV) yX6_takeWord (Cond.code yX6_takeWord cX6_takeWord 3 (some .boolean)) rm_X6_takeWord_s [.ref (ad 9), .ref (kK x1)] (wH ad cI cZ u) (wH ad cI cZ) Q :=
  MI_of (own := RX6) (by decide) rfl (Nat.le_of_ble_eq_true rfl) rfl (fun p e s m args below meth c A C => w_X6_takeWord_s C h)
theorem hd_X6_takeWord_s : yX6_takeWord.cls ≠ "java/lang/invoke/MethodHandle" ∧ yX6_takeWord.cls ≠ "java/lang/invoke/VarHandle" ∧ (parseMethodDescriptor yX6_takeWord.desc).map (fun d => d.parameters.length) = some 1 := by decide +kernel
abbrev rm_X6_takeNumber : Room := { frames := 2, cells := 0, slots := 0, locals := 42 }
set_option maxRecDepth 100000 in
theorem w_X6_takeNumber_34 {p : Program} {l : Launch} {e : Env} {s : State} {m : MethodId} {args : Array Value} {below : List Frame} {meth : Method} {c : Code} {A : Nat → Prop} {D : va_G} {ad : Nat → Nat} {kK kV : Nat → Nat} {cI cZ : ClassId} {N : Nat} {Q : Int32 → UU → Prop} (C : Cx p m c cX6_takeNumber 3 s args RX6 meth (some .boolean) A D [(cI, .int), (cZ, .boolean)] (EH kK kV)) : ∀ (n : Nat) (x1 : Int32) (x2 : Int32) (u : UU), m_X6_takeNumber_34 N Q n x1 x2 u → WW p l e rm_X6_takeNumber s m args below meth c 0 0 (MQ below (QI D A (wH ad cI cZ) Q) args s 0 0 A) A D 3 34 [(0, .ref (ad 9)), (1, .int x1), (2, .int x2)] [] (wH ad cI cZ u) := by
  intro n
  induction n with
  | zero => intro x1 x2 u h; rw [m_X6_takeNumber_34] at h; exact h.elim
  | succ n ih =>
    intro x1 x2 u h
    rw [m_X6_takeNumber_34] at h
    refine ww_iload_n C dX6_takeNumber_34 rfl 2 rfl ?_
    refine ww_aload_n C dX6_takeNumber_35 rfl 0 rfl ?_
    refine ww_get C inX6 rfl 2 (by decide) tb_1_218 HF_9_2 dX6_takeNumber_36 ?_
    refine ww_icmp_ge (tgt := 70) C dX6_takeNumber_39 (by decide) (fun hc => ?_) (fun hc => ?_)
    · have h := ite_t h hc
      refine ww_iload_n C dX6_takeNumber_70 rfl 1 rfl ?_
      refine ww_bipush (v := 100) C dX6_takeNumber_71 (by decide) ?_
      refine ww_icmp_le (tgt := 78) C dX6_takeNumber_73 (by decide) (fun hc => ?_) (fun hc => ?_)
      · have h := ite_t h hc
        refine ww_aload_n C dX6_takeNumber_78 rfl 0 rfl ?_
        refine ww_iload_n C dX6_takeNumber_79 rfl 1 rfl ?_
        refine ww_put C inX6 rfl tyX6 tyX6_ok nmX6 3 (by decide) tb_1_219 rfl rfl rfl HS_9_3 dX6_takeNumber_80 ?_
        refine ww_nU (wH ad cI cZ) (fun u_1 eu_1 => ?_)
        have h := h u_1 eu_1
        refine ww_aload_n C dX6_takeNumber_83 rfl 0 rfl ?_
        refine ww_callVv (As := []) (rest := []) C EH_ok (c_X6_step h) tb_3_122 tb_3_124 tbs_12 tb_1_10 tb_3_125 rfl rfl ⟨rfl, hd_X6_step⟩ ⟨Nat.le_of_ble_eq_true rfl, Nat.le_of_ble_eq_true rfl⟩ rfl HF_9_0 rfl rfl (Nat.le_of_ble_eq_true rfl) dX6_takeNumber_84 ⟨Nat.zero_le _, Nat.zero_le _⟩ (fun u_2 h => ?_)
        refine ww_iconst (v := 1) C dX6_takeNumber_87 (by decide) ?_
        exact ww_zret C h.1 h.2 dX6_takeNumber_88
      · have h := ite_f h hc
        refine ww_iconst (v := 0) C dX6_takeNumber_76 (by decide) ?_
        exact ww_zret C h.1 h.2 dX6_takeNumber_77
    · have h := ite_f h hc
      refine ww_bipush (v := 101) C dX6_takeNumber_42 (by decide) ?_
      refine ww_iload_n C dX6_takeNumber_44 rfl 1 rfl ?_
      refine ww_bipush (v := 10) C dX6_takeNumber_45 (by decide) ?_
      refine ww_imul C dX6_takeNumber_47 ?_
      refine ww_aload_n C dX6_takeNumber_48 rfl 0 rfl ?_
      refine ww_get C inX6 rfl 0 (by decide) tb_1_216 HF_9_0 dX6_takeNumber_49 ?_
      refine ww_iload_n C dX6_takeNumber_52 rfl 2 rfl ?_
      refine ww_callVi (As := [.int x2]) (rest := [.int (x1 * (10 : Int32)), .int (101 : Int32)]) C EH_ok (c_X8_byteAt h) tb_3_126 tb_3_127 tb_3_128 tb_1_9 tb_3_129 rfl rfl ⟨rfl, hd_X8_byteAt⟩ ⟨Nat.le_of_ble_eq_true rfl, Nat.le_of_ble_eq_true rfl⟩ rfl HF_8_0 rfl rfl (Nat.le_of_ble_eq_true rfl) dX6_takeNumber_53 ⟨Nat.zero_le _, Nat.zero_le _⟩ (fun r_5 u_4 h => ?_)
      refine ww_iadd C dX6_takeNumber_56 ?_
      refine ww_bipush (v := 48) C dX6_takeNumber_57 (by decide) ?_
      refine ww_isub C dX6_takeNumber_59 ?_
      refine ww_mmin C tb_3_202 tb_2_144 tb_1_14 tb_2_145 ⟨Nat.le_of_ble_eq_true rfl, Nat.le_of_ble_eq_true rfl⟩ ⟨Nat.zero_le _, Nat.zero_le _⟩ dX6_takeNumber_60 ?_
      refine ww_nI (fun z_6 ez_6 => ?_)
      have h := h z_6 ez_6
      refine ww_istore_n (i := 1) (lv' := [(1, .int z_6), (0, .ref (ad 9)), (2, .int x2)]) C dX6_takeNumber_63 rfl (by decide) rfl ?_
      obtain ⟨z_7, ez_7⟩ : ∃ z_7 : Int32, z_7 = x2 + (1 : Int32) := ⟨_, rfl⟩
      have h := h z_7 ez_7
      refine ww_iinc (i := 2) (j := 2) (v := z_7) (lv' := [(2, .int z_7), (1, .int z_6), (0, .ref (ad 9))]) C dX6_takeNumber_64 rfl (by rw [ez_7]; rfl) (by decide) rfl ?_
      refine ww_goto (tgt := 34) C dX6_takeNumber_67 (by decide) ?_
      refine ww_sub [2, 1, 0] rfl ?_
      exact ih _ _ _ h
set_option maxRecDepth 100000 in
theorem w_X6_takeNumber {p : Program} {l : Launch} {e : Env} {s : State} {m : MethodId} {args : Array Value} {below : List Frame} {meth : Method} {c : Code} {A : Nat → Prop} {D : va_G} {ad : Nat → Nat} {kK kV : Nat → Nat} {cI cZ : ClassId} {N : Nat} {Q : Int32 → UU → Prop} (C : Cx p m c cX6_takeNumber 3 s args RX6 meth (some .boolean) A D [(cI, .int), (cZ, .boolean)] (EH kK kV)) : ∀ {u : UU}, m_X6_takeNumber N  u Q → WW p l e rm_X6_takeNumber s m args below meth c 0 0 (MQ below (QI D A (wH ad cI cZ) Q) args s 0 0 A) A D 3 0 [(0, .ref (ad 9))] [] (wH ad cI cZ u) := by
  intro  u h
  unfold m_X6_takeNumber at h
  refine ww_aload_n C dX6_takeNumber_0 rfl 0 rfl ?_
  refine ww_callVi (As := []) (rest := []) C EH_ok (c_X6_isAtEnd h) tb_3_130 tb_3_132 tbs_13 tb_1_10 tb_3_133 rfl rfl ⟨rfl, hd_X6_isAtEnd⟩ ⟨Nat.le_of_ble_eq_true rfl, Nat.le_of_ble_eq_true rfl⟩ rfl HF_9_0 rfl rfl (Nat.le_of_ble_eq_true rfl) dX6_takeNumber_1 ⟨Nat.zero_le _, Nat.zero_le _⟩ (fun r_2 u_1 h => ?_)
  refine ww_if_ne (tgt := 25) C dX6_takeNumber_4 (by decide) (fun hc => ?_) (fun hc => ?_)
  · have h := ite_f h hc
    refine ww_iconst (v := 0) C dX6_takeNumber_25 (by decide) ?_
    exact ww_zret C h.1 h.2 dX6_takeNumber_26
  · have h := ite_t h hc
    refine ww_aload_n C dX6_takeNumber_7 rfl 0 rfl ?_
    refine ww_get C inX6 rfl 0 (by decide) tb_1_216 HF_9_0 dX6_takeNumber_8 ?_
    refine ww_aload_n C dX6_takeNumber_11 rfl 0 rfl ?_
    refine ww_get C inX6 rfl 1 (by decide) tb_1_217 HF_9_1 dX6_takeNumber_12 ?_
    refine ww_callVi (As := [.int (u_1.1 11)]) (rest := []) C EH_ok (c_X8_byteAt h) tb_3_126 tb_3_127 tb_3_128 tb_1_9 tb_3_129 rfl rfl ⟨rfl, hd_X8_byteAt⟩ ⟨Nat.le_of_ble_eq_true rfl, Nat.le_of_ble_eq_true rfl⟩ rfl HF_8_0 rfl rfl (Nat.le_of_ble_eq_true rfl) dX6_takeNumber_15 ⟨Nat.zero_le _, Nat.zero_le _⟩ (fun r_4 u_3 h => ?_)
    refine ww_callSi (As := [.int r_4]) (rest := []) C EH_ok (c_X6_kindOf h) tb_3_134 tb_3_135 tb_1_10 tb_3_136 rfl rfl hd_X6_kindOf ⟨Nat.le_of_ble_eq_true rfl, Nat.le_of_ble_eq_true rfl⟩ rfl rfl (Nat.le_of_ble_eq_true rfl) dX6_takeNumber_18 ⟨Nat.zero_le _, Nat.zero_le _⟩ (fun r_6 u_5 h => ?_)
    refine ww_iconst (v := 2) C dX6_takeNumber_21 (by decide) ?_
    refine ww_icmp_eq (tgt := 27) C dX6_takeNumber_22 (by decide) (fun hc => ?_) (fun hc => ?_)
    · have h := ite_t h hc
      refine ww_iconst (v := 0) C dX6_takeNumber_27 (by decide) ?_
      refine ww_istore_n (i := 1) (lv' := [(1, .int (0 : Int32)), (0, .ref (ad 9))]) C dX6_takeNumber_28 rfl (by decide) rfl ?_
      refine ww_aload_n C dX6_takeNumber_29 rfl 1 rfl ?_
      refine ww_get C inX6 rfl 1 (by decide) tb_1_217 HF_9_1 dX6_takeNumber_30 ?_
      refine ww_nI (fun z_7 ez_7 => ?_)
      have h := h z_7 ez_7
      refine ww_istore_n (i := 2) (lv' := [(2, .int z_7), (1, .int (0 : Int32)), (0, .ref (ad 9))]) C dX6_takeNumber_33 rfl (by decide) rfl ?_
      refine ww_sub [2, 1, 0] rfl ?_
      exact w_X6_takeNumber_34 C N _ _ _ h
    · have h := ite_f h hc
      refine ww_iconst (v := 0) C dX6_takeNumber_25 (by decide) ?_
      exact ww_zret C h.1 h.2 dX6_takeNumber_26
theorem c_X6_takeNumber {l : Launch} {D : va_G} {ad : Nat → Nat} {kK kV : Nat → Nat} {cI cZ : ClassId} {N : Nat}  {u : UU} {Q : Int32 → UU → Prop} (h : m_X6_takeNumber N  u Q) : MI l D [(cI, .int), (cZ, .boolean)] (EH kK kV) yX6_takeNumber (Cond.code yX6_takeNumber cX6_takeNumber 3 (some .boolean)) rm_X6_takeNumber [.ref (ad 9)] (wH ad cI cZ u) (wH ad cI cZ) Q :=
  MI_of (own := RX6) (by decide) rfl (Nat.le_of_ble_eq_true rfl) rfl (fun p e s m args below meth c A C => w_X6_takeNumber C h)
theorem hd_X6_takeNumber : yX6_takeNumber.cls ≠ "java/lang/invoke/MethodHandle" ∧ yX6_takeNumber.cls ≠ "java/lang/invoke/VarHandle" ∧ (parseMethodDescriptor yX6_takeNumber.desc).map (fun d => d.parameters.length) = some 0 := by decide +kernel
abbrev rm_X5_addLoss : Room := { frames := 0, cells := 0, slots := 0, locals := 0 }
set_option maxRecDepth 100000 in
theorem w_X5_addLoss {p : Program} {l : Launch} {e : Env} {s : State} {m : MethodId} {args : Array Value} {below : List Frame} {meth : Method} {c : Code} {A : Nat → Prop} {D : va_G} {ad : Nat → Nat} {kK kV : Nat → Nat} {cI cZ : ClassId} {N : Nat} {Q : UU → Prop} (C : Cx p m c cX5_addLoss 4 s args RX5 meth none A D [(cI, .int), (cZ, .boolean)] (EH kK kV)) : ∀ {x1 : Int32} {x2 : Int32} {x3 : Int32} {u : UU}, m_X5_addLoss N x1 x2 x3 u Q → WW p l e rm_X5_addLoss s m args below meth c 0 0 (MQ below (QV D A (wH ad cI cZ) Q) args s 0 0 A) A D 4 0 [(0, .ref (ad 12)), (1, .int x1), (2, .int x2), (3, .int x3)] [] (wH ad cI cZ u) := by
  intro x1 x2 x3 u h
  unfold m_X5_addLoss at h
  refine ww_aload_n C dX5_addLoss_0 rfl 0 rfl ?_
  refine ww_get C inX5 rfl 3 (by decide) tb_2_25 HF_12_3 dX5_addLoss_1 ?_
  refine ww_bipush (v := 20) C dX5_addLoss_4 (by decide) ?_
  refine ww_icmp_ge (tgt := 49) C dX5_addLoss_6 (by decide) (fun hc => ?_) (fun hc => ?_)
  · have h := ite_t h hc
    exact ww_vret C h dX5_addLoss_49
  · have h := ite_f h hc
    refine ww_aload_n C dX5_addLoss_9 rfl 0 rfl ?_
    refine ww_get C inX5 rfl 0 (by decide) tb_2_22 HF_12_0 dX5_addLoss_10 ?_
    refine ww_aload_n C dX5_addLoss_13 rfl 0 rfl ?_
    refine ww_get C inX5 rfl 3 (by decide) tb_2_25 HF_12_3 dX5_addLoss_14 ?_
    refine ww_iload_n C dX5_addLoss_17 rfl 1 rfl ?_
    obtain ⟨hin, h⟩ := h
    refine ww_iast C 0 rfl HU_40 hin dX5_addLoss_18 ?_
    refine ww_nU (wH ad cI cZ) (fun u_1 eu_1 => ?_)
    have h := h u_1 eu_1
    refine ww_aload_n C dX5_addLoss_19 rfl 0 rfl ?_
    refine ww_get C inX5 rfl 1 (by decide) tb_2_23 HF_12_1 dX5_addLoss_20 ?_
    refine ww_aload_n C dX5_addLoss_23 rfl 0 rfl ?_
    refine ww_get C inX5 rfl 3 (by decide) tb_2_25 HF_12_3 dX5_addLoss_24 ?_
    refine ww_iload_n C dX5_addLoss_27 rfl 2 rfl ?_
    obtain ⟨hin, h⟩ := h
    refine ww_iast C 0 rfl HU_41 hin dX5_addLoss_28 ?_
    refine ww_nU (wH ad cI cZ) (fun u_2 eu_2 => ?_)
    have h := h u_2 eu_2
    refine ww_aload_n C dX5_addLoss_29 rfl 0 rfl ?_
    refine ww_get C inX5 rfl 2 (by decide) tb_2_24 HF_12_2 dX5_addLoss_30 ?_
    refine ww_aload_n C dX5_addLoss_33 rfl 0 rfl ?_
    refine ww_get C inX5 rfl 3 (by decide) tb_2_25 HF_12_3 dX5_addLoss_34 ?_
    refine ww_iload_n C dX5_addLoss_37 rfl 3 rfl ?_
    obtain ⟨hin, h⟩ := h
    refine ww_iast C 0 rfl HU_42 hin dX5_addLoss_38 ?_
    refine ww_nU (wH ad cI cZ) (fun u_3 eu_3 => ?_)
    have h := h u_3 eu_3
    refine ww_aload_n C dX5_addLoss_39 rfl 0 rfl ?_
    refine ww_dup C dX5_addLoss_40 rfl ?_
    refine ww_get C inX5 rfl 3 (by decide) tb_2_25 HF_12_3 dX5_addLoss_41 ?_
    refine ww_iconst (v := 1) C dX5_addLoss_44 (by decide) ?_
    refine ww_iadd C dX5_addLoss_45 ?_
    refine ww_put C inX5 rfl tyX5 tyX5_ok nmX5 3 (by decide) tb_2_25 rfl rfl rfl HS_12_3 dX5_addLoss_46 ?_
    refine ww_nU (wH ad cI cZ) (fun u_4 eu_4 => ?_)
    have h := h u_4 eu_4
    exact ww_vret C h dX5_addLoss_49
theorem c_X5_addLoss {l : Launch} {D : va_G} {ad : Nat → Nat} {kK kV : Nat → Nat} {cI cZ : ClassId} {N : Nat} {x1 : Int32} {x2 : Int32} {x3 : Int32} {u : UU} {Q : UU → Prop} (h : m_X5_addLoss N x1 x2 x3 u Q) : MV l D [(cI, .int), (cZ, .boolean)] (EH kK kV) yX5_addLoss (Cond.code yX5_addLoss cX5_addLoss 4 none) rm_X5_addLoss [.ref (ad 12), .int x1, .int x2, .int x3] (wH ad cI cZ u) (wH ad cI cZ) Q 0 0 :=
  MV_of (own := RX5) (by decide) rfl (Nat.le_of_ble_eq_true rfl) rfl (fun p e s m args below meth c A C => w_X5_addLoss C h)
theorem hd_X5_addLoss : yX5_addLoss.cls ≠ "java/lang/invoke/MethodHandle" ∧ yX5_addLoss.cls ≠ "java/lang/invoke/VarHandle" ∧ (parseMethodDescriptor yX5_addLoss.desc).map (fun d => d.parameters.length) = some 3 := by decide +kernel
abbrev rm_X6_readLoss_p12 : Room := { frames := 5, cells := 0, slots := 0, locals := 107 }
set_option maxRecDepth 100000 in
theorem w_X6_readLoss_p12_64 {p : Program} {l : Launch} {e : Env} {s : State} {m : MethodId} {args : Array Value} {below : List Frame} {meth : Method} {c : Code} {A : Nat → Prop} {D : va_G} {ad : Nat → Nat} {kK kV : Nat → Nat} {cI cZ : ClassId} {N : Nat} {Q : Int32 → UU → Prop} (C : Cx p m c cX6_readLoss 5 s args RX6 meth (some .boolean) A D [(cI, .int), (cZ, .boolean)] (EH kK kV)) : ∀ {x2 : Int32} {x3 : Int32} {x4 : Int32} {u : UU}, m_X6_readLoss_p12_64 N x2 x3 x4 u Q → WW p l e rm_X6_readLoss_p12 s m args below meth c 0 0 (MQ below (QI D A (wH ad cI cZ) Q) args s 0 0 A) A D 5 64 [(1, .ref (ad 12)), (2, .int x2), (3, .int x3), (4, .int x4)] [] (wH ad cI cZ u) := by
  intro x2 x3 x4 u h
  unfold m_X6_readLoss_p12_64 at h
  refine ww_aload_n C dX6_readLoss_64 rfl 0 rfl ?_
  refine ww_iload_n C dX6_readLoss_65 rfl 1 rfl ?_
  refine ww_iload_n C dX6_readLoss_66 rfl 2 rfl ?_
  refine ww_iload C dX6_readLoss_67 3 rfl ?_
  refine ww_callVv (As := [.int x2, .int x3, .int x4]) (rest := []) C EH_ok (c_X5_addLoss h) tb_3_205 tb_3_206 tb_3_207 tb_1_12 tb_3_208 rfl rfl ⟨rfl, hd_X5_addLoss⟩ ⟨Nat.le_of_ble_eq_true rfl, Nat.le_of_ble_eq_true rfl⟩ rfl HF_12_0 rfl rfl (Nat.le_of_ble_eq_true rfl) dX6_readLoss_69 ⟨Nat.zero_le _, Nat.zero_le _⟩ (fun u_1 h => ?_)
  refine ww_iconst (v := 1) C dX6_readLoss_72 (by decide) ?_
  exact ww_zret C h.1 h.2 dX6_readLoss_73
set_option maxRecDepth 100000 in
theorem w_X6_readLoss_p12 {p : Program} {l : Launch} {e : Env} {s : State} {m : MethodId} {args : Array Value} {below : List Frame} {meth : Method} {c : Code} {A : Nat → Prop} {D : va_G} {ad : Nat → Nat} {kK kV : Nat → Nat} {cI cZ : ClassId} {N : Nat} {Q : Int32 → UU → Prop} (C : Cx p m c cX6_readLoss 5 s args RX6 meth (some .boolean) A D [(cI, .int), (cZ, .boolean)] (EH kK kV)) : ∀ {u : UU}, m_X6_readLoss_p12 N  u Q → WW p l e rm_X6_readLoss_p12 s m args below meth c 0 0 (MQ below (QI D A (wH ad cI cZ) Q) args s 0 0 A) A D 5 0 [(0, .ref (ad 9)), (1, .ref (ad 12))] [] (wH ad cI cZ u) := by
  intro  u h
  unfold m_X6_readLoss_p12 at h
  refine ww_aload_n C dX6_readLoss_0 rfl 0 rfl ?_
  refine ww_callVi (As := []) (rest := []) C EH_ok (c_X6_takeNumber h) tb_3_198 tb_3_200 tbs_17 tb_1_10 tb_3_201 rfl rfl ⟨rfl, hd_X6_takeNumber⟩ ⟨Nat.le_of_ble_eq_true rfl, Nat.le_of_ble_eq_true rfl⟩ rfl HF_9_0 rfl rfl (Nat.le_of_ble_eq_true rfl) dX6_readLoss_1 ⟨Nat.zero_le _, Nat.zero_le _⟩ (fun r_2 u_1 h => ?_)
  refine ww_if_ne (tgt := 9) C dX6_readLoss_4 (by decide) (fun hc => ?_) (fun hc => ?_)
  · have h := ite_f h hc
    refine ww_aload_n C dX6_readLoss_9 rfl 0 rfl ?_
    refine ww_get C inX6 rfl 3 (by decide) tb_1_219 HF_9_3 dX6_readLoss_10 ?_
    refine ww_nI (fun z_3 ez_3 => ?_)
    have h := h z_3 ez_3
    refine ww_istore_n (i := 2) (lv' := [(2, .int z_3), (0, .ref (ad 9)), (1, .ref (ad 12))]) C dX6_readLoss_13 rfl (by decide) rfl ?_
    refine ww_aload_n C dX6_readLoss_14 rfl 1 rfl ?_
    refine ww_ldcS C 1 (by decide) rfl rfl dX6_readLoss_15 ?_
    refine ww_callVi (As := [.ref (kK 1)]) (rest := []) C EH_ok (c_X6_takeWord_s h) tb_3_142 tb_3_144 tbs_15 tb_1_10 tb_3_145 rfl rfl ⟨rfl, hd_X6_takeWord_s⟩ ⟨Nat.le_of_ble_eq_true rfl, Nat.le_of_ble_eq_true rfl⟩ rfl HF_9_0 rfl rfl (Nat.le_of_ble_eq_true rfl) dX6_readLoss_17 ⟨Nat.zero_le _, Nat.zero_le _⟩ (fun r_5 u_4 h => ?_)
    refine ww_if_eq (tgt := 30) C dX6_readLoss_20 (by decide) (fun hc => ?_) (fun hc => ?_)
    · have h := ite_t h hc
      refine ww_iconst (v := 0) C dX6_readLoss_30 (by decide) ?_
      exact ww_zret C h.1 h.2 dX6_readLoss_31
    · have h := ite_f h hc
      refine ww_aload_n C dX6_readLoss_23 rfl 1 rfl ?_
      refine ww_callVi (As := []) (rest := []) C EH_ok (c_X6_takeNumber h) tb_3_198 tb_3_200 tbs_17 tb_1_10 tb_3_201 rfl rfl ⟨rfl, hd_X6_takeNumber⟩ ⟨Nat.le_of_ble_eq_true rfl, Nat.le_of_ble_eq_true rfl⟩ rfl HF_9_0 rfl rfl (Nat.le_of_ble_eq_true rfl) dX6_readLoss_24 ⟨Nat.zero_le _, Nat.zero_le _⟩ (fun r_7 u_6 h => ?_)
      refine ww_if_ne (tgt := 32) C dX6_readLoss_27 (by decide) (fun hc => ?_) (fun hc => ?_)
      · have h := ite_f h hc
        refine ww_aload_n C dX6_readLoss_32 rfl 1 rfl ?_
        refine ww_get C inX6 rfl 3 (by decide) tb_1_219 HF_9_3 dX6_readLoss_33 ?_
        refine ww_nI (fun z_8 ez_8 => ?_)
        have h := h z_8 ez_8
        refine ww_istore_n (i := 3) (lv' := [(3, .int z_8), (2, .int z_3), (0, .ref (ad 9)), (1, .ref (ad 12))]) C dX6_readLoss_36 rfl (by decide) rfl ?_
        refine ww_iconst (v := 0) C dX6_readLoss_37 (by decide) ?_
        refine ww_istore (i := 4) (lv' := [(4, .int (0 : Int32)), (3, .int z_8), (2, .int z_3), (0, .ref (ad 9)), (1, .ref (ad 12))]) C dX6_readLoss_38 (by decide) rfl ?_
        refine ww_aload_n C dX6_readLoss_40 rfl 3 rfl ?_
        refine ww_ldcS C 2 (by decide) rfl rfl dX6_readLoss_41 ?_
        refine ww_callVi (As := [.ref (kK 2)]) (rest := []) C EH_ok (c_X6_takeWord_s h) tb_3_142 tb_3_144 tbs_15 tb_1_10 tb_3_145 rfl rfl ⟨rfl, hd_X6_takeWord_s⟩ ⟨Nat.le_of_ble_eq_true rfl, Nat.le_of_ble_eq_true rfl⟩ rfl HF_9_0 rfl rfl (Nat.le_of_ble_eq_true rfl) dX6_readLoss_43 ⟨Nat.zero_le _, Nat.zero_le _⟩ (fun r_10 u_9 h => ?_)
        refine ww_if_eq (tgt := 64) C dX6_readLoss_46 (by decide) (fun hc => ?_) (fun hc => ?_)
        · have h := ite_t h hc
          refine ww_sub [4, 2, 1, 0] rfl ?_
          exact w_X6_readLoss_p12_64 C h
        · have h := ite_f h hc
          refine ww_aload_n C dX6_readLoss_49 rfl 3 rfl ?_
          refine ww_callVi (As := []) (rest := []) C EH_ok (c_X6_takeNumber h) tb_3_198 tb_3_200 tbs_17 tb_1_10 tb_3_201 rfl rfl ⟨rfl, hd_X6_takeNumber⟩ ⟨Nat.le_of_ble_eq_true rfl, Nat.le_of_ble_eq_true rfl⟩ rfl HF_9_0 rfl rfl (Nat.le_of_ble_eq_true rfl) dX6_readLoss_50 ⟨Nat.zero_le _, Nat.zero_le _⟩ (fun r_12 u_11 h => ?_)
          refine ww_if_ne (tgt := 58) C dX6_readLoss_53 (by decide) (fun hc => ?_) (fun hc => ?_)
          · have h := ite_f h hc
            refine ww_aload_n C dX6_readLoss_58 rfl 3 rfl ?_
            refine ww_get C inX6 rfl 3 (by decide) tb_1_219 HF_9_3 dX6_readLoss_59 ?_
            refine ww_nI (fun z_13 ez_13 => ?_)
            have h := h z_13 ez_13
            refine ww_istore (i := 4) (lv' := [(4, .int z_13), (3, .int z_8), (2, .int z_3), (0, .ref (ad 9)), (1, .ref (ad 12))]) C dX6_readLoss_62 (by decide) rfl ?_
            refine ww_sub [4, 2, 1, 0] rfl ?_
            exact w_X6_readLoss_p12_64 C h
          · have h := ite_t h hc
            refine ww_iconst (v := 0) C dX6_readLoss_56 (by decide) ?_
            exact ww_zret C h.1 h.2 dX6_readLoss_57
      · have h := ite_t h hc
        refine ww_iconst (v := 0) C dX6_readLoss_30 (by decide) ?_
        exact ww_zret C h.1 h.2 dX6_readLoss_31
  · have h := ite_t h hc
    refine ww_iconst (v := 0) C dX6_readLoss_7 (by decide) ?_
    exact ww_zret C h.1 h.2 dX6_readLoss_8
theorem c_X6_readLoss_p12 {l : Launch} {D : va_G} {ad : Nat → Nat} {kK kV : Nat → Nat} {cI cZ : ClassId} {N : Nat}  {u : UU} {Q : Int32 → UU → Prop} (h : m_X6_readLoss_p12 N  u Q) : MI l D [(cI, .int), (cZ, .boolean)] (EH kK kV) yX6_readLoss (Cond.code yX6_readLoss cX6_readLoss 5 (some .boolean)) rm_X6_readLoss_p12 [.ref (ad 9), .ref (ad 12)] (wH ad cI cZ u) (wH ad cI cZ) Q :=
  MI_of (own := RX6) (by decide) rfl (Nat.le_of_ble_eq_true rfl) rfl (fun p e s m args below meth c A C => w_X6_readLoss_p12 C h)
theorem hd_X6_readLoss_p12 : yX6_readLoss.cls ≠ "java/lang/invoke/MethodHandle" ∧ yX6_readLoss.cls ≠ "java/lang/invoke/VarHandle" ∧ (parseMethodDescriptor yX6_readLoss.desc).map (fun d => d.parameters.length) = some 1 := by decide +kernel
abbrev rm_X6_readRule_p12 : Room := { frames := 6, cells := 0, slots := 0, locals := 131 }
set_option maxRecDepth 100000 in
theorem w_X6_readRule_p12 {p : Program} {l : Launch} {e : Env} {s : State} {m : MethodId} {args : Array Value} {below : List Frame} {meth : Method} {c : Code} {A : Nat → Prop} {D : va_G} {ad : Nat → Nat} {kK kV : Nat → Nat} {cI cZ : ClassId} {N : Nat} {Q : Int32 → UU → Prop} (C : Cx p m c cX6_readRule 2 s args RX6 meth (some .boolean) A D [(cI, .int), (cZ, .boolean)] (EH kK kV)) : ∀ {u : UU}, m_X6_readRule_p12 N  u Q → WW p l e rm_X6_readRule_p12 s m args below meth c 0 0 (MQ below (QI D A (wH ad cI cZ) Q) args s 0 0 A) A D 2 0 [(0, .ref (ad 9)), (1, .ref (ad 12))] [] (wH ad cI cZ u) := by
  intro  u h
  unfold m_X6_readRule_p12 at h
  refine ww_aload_n C dX6_readRule_0 rfl 0 rfl ?_
  refine ww_ldcS C 0 (by decide) rfl rfl dX6_readRule_1 ?_
  refine ww_callVi (As := [.ref (kK 0)]) (rest := []) C EH_ok (c_X6_takeWord_s h) tb_3_142 tb_3_144 tbs_15 tb_1_10 tb_3_145 rfl rfl ⟨rfl, hd_X6_takeWord_s⟩ ⟨Nat.le_of_ble_eq_true rfl, Nat.le_of_ble_eq_true rfl⟩ rfl HF_9_0 rfl rfl (Nat.le_of_ble_eq_true rfl) dX6_readRule_3 ⟨Nat.zero_le _, Nat.zero_le _⟩ (fun r_2 u_1 h => ?_)
  refine ww_if_eq (tgt := 15) C dX6_readRule_6 (by decide) (fun hc => ?_) (fun hc => ?_)
  · have h := ite_t h hc
    refine ww_aload_n C dX6_readRule_15 rfl 0 rfl ?_
    refine ww_ldcS C 3 (by decide) rfl rfl dX6_readRule_16 ?_
    refine ww_callVi (As := [.ref (kK 3)]) (rest := []) C EH_ok (c_X6_takeWord_s h) tb_3_142 tb_3_144 tbs_15 tb_1_10 tb_3_145 rfl rfl ⟨rfl, hd_X6_takeWord_s⟩ ⟨Nat.le_of_ble_eq_true rfl, Nat.le_of_ble_eq_true rfl⟩ rfl HF_9_0 rfl rfl (Nat.le_of_ble_eq_true rfl) dX6_readRule_18 ⟨Nat.zero_le _, Nat.zero_le _⟩ (fun r_4 u_3 h => ?_)
    refine ww_if_eq (tgt := 52) C dX6_readRule_21 (by decide) (fun hc => ?_) (fun hc => ?_)
    · have h := ite_t h hc
      refine ww_aload_n C dX6_readRule_52 rfl 0 rfl ?_
      refine ww_ldcS C 5 (by decide) rfl rfl dX6_readRule_53 ?_
      refine ww_callVi (As := [.ref (kK 5)]) (rest := []) C EH_ok (c_X6_takeWord_s h) tb_3_142 tb_3_144 tbs_15 tb_1_10 tb_3_145 rfl rfl ⟨rfl, hd_X6_takeWord_s⟩ ⟨Nat.le_of_ble_eq_true rfl, Nat.le_of_ble_eq_true rfl⟩ rfl HF_9_0 rfl rfl (Nat.le_of_ble_eq_true rfl) dX6_readRule_55 ⟨Nat.zero_le _, Nat.zero_le _⟩ (fun r_6 u_5 h => ?_)
      refine ww_if_eq (tgt := 68) C dX6_readRule_58 (by decide) (fun hc => ?_) (fun hc => ?_)
      · have h := ite_t h hc
        refine ww_iconst (v := 0) C dX6_readRule_68 (by decide) ?_
        exact ww_zret C h.1 h.2 dX6_readRule_69
      · have h := ite_f h hc
        refine ww_aload_n C dX6_readRule_61 rfl 0 rfl ?_
        refine ww_callVi (As := []) (rest := []) C EH_ok (c_X6_takeNumber h) tb_3_198 tb_3_200 tbs_17 tb_1_10 tb_3_201 rfl rfl ⟨rfl, hd_X6_takeNumber⟩ ⟨Nat.le_of_ble_eq_true rfl, Nat.le_of_ble_eq_true rfl⟩ rfl HF_9_0 rfl rfl (Nat.le_of_ble_eq_true rfl) dX6_readRule_62 ⟨Nat.zero_le _, Nat.zero_le _⟩ (fun r_8 u_7 h => ?_)
        refine ww_if_ne (tgt := 70) C dX6_readRule_65 (by decide) (fun hc => ?_) (fun hc => ?_)
        · have h := ite_f h hc
          refine ww_aload_n C dX6_readRule_70 rfl 1 rfl ?_
          refine ww_aload_n C dX6_readRule_71 rfl 0 rfl ?_
          refine ww_get C inX6 rfl 3 (by decide) tb_1_219 HF_9_3 dX6_readRule_72 ?_
          refine ww_put C inX5 rfl tyX5 tyX5_ok nmX5 5 (by decide) tb_2_29 rfl rfl rfl HS_12_5 dX6_readRule_75 ?_
          refine ww_nU (wH ad cI cZ) (fun u_9 eu_9 => ?_)
          have h := h u_9 eu_9
          refine ww_iconst (v := 1) C dX6_readRule_78 (by decide) ?_
          exact ww_zret C h.1 h.2 dX6_readRule_79
        · have h := ite_t h hc
          refine ww_iconst (v := 0) C dX6_readRule_68 (by decide) ?_
          exact ww_zret C h.1 h.2 dX6_readRule_69
    · have h := ite_f h hc
      refine ww_aload_n C dX6_readRule_24 rfl 0 rfl ?_
      refine ww_ldcS C 4 (by decide) rfl rfl dX6_readRule_25 ?_
      refine ww_callVi (As := [.ref (kK 4)]) (rest := []) C EH_ok (c_X6_takeWord_s h) tb_3_142 tb_3_144 tbs_15 tb_1_10 tb_3_145 rfl rfl ⟨rfl, hd_X6_takeWord_s⟩ ⟨Nat.le_of_ble_eq_true rfl, Nat.le_of_ble_eq_true rfl⟩ rfl HF_9_0 rfl rfl (Nat.le_of_ble_eq_true rfl) dX6_readRule_27 ⟨Nat.zero_le _, Nat.zero_le _⟩ (fun r_11 u_10 h => ?_)
      refine ww_if_eq (tgt := 40) C dX6_readRule_30 (by decide) (fun hc => ?_) (fun hc => ?_)
      · have h := ite_t h hc
        refine ww_iconst (v := 0) C dX6_readRule_40 (by decide) ?_
        exact ww_zret C h.1 h.2 dX6_readRule_41
      · have h := ite_f h hc
        refine ww_aload_n C dX6_readRule_33 rfl 0 rfl ?_
        refine ww_callVi (As := []) (rest := []) C EH_ok (c_X6_takeNumber h) tb_3_198 tb_3_200 tbs_17 tb_1_10 tb_3_201 rfl rfl ⟨rfl, hd_X6_takeNumber⟩ ⟨Nat.le_of_ble_eq_true rfl, Nat.le_of_ble_eq_true rfl⟩ rfl HF_9_0 rfl rfl (Nat.le_of_ble_eq_true rfl) dX6_readRule_34 ⟨Nat.zero_le _, Nat.zero_le _⟩ (fun r_13 u_12 h => ?_)
        refine ww_if_ne (tgt := 42) C dX6_readRule_37 (by decide) (fun hc => ?_) (fun hc => ?_)
        · have h := ite_f h hc
          refine ww_aload_n C dX6_readRule_42 rfl 1 rfl ?_
          refine ww_aload_n C dX6_readRule_43 rfl 0 rfl ?_
          refine ww_get C inX6 rfl 3 (by decide) tb_1_219 HF_9_3 dX6_readRule_44 ?_
          refine ww_put C inX5 rfl tyX5 tyX5_ok nmX5 4 (by decide) tb_2_27 rfl rfl rfl HS_12_4 dX6_readRule_47 ?_
          refine ww_nU (wH ad cI cZ) (fun u_14 eu_14 => ?_)
          have h := h u_14 eu_14
          refine ww_iconst (v := 1) C dX6_readRule_50 (by decide) ?_
          exact ww_zret C h.1 h.2 dX6_readRule_51
        · have h := ite_t h hc
          refine ww_iconst (v := 0) C dX6_readRule_40 (by decide) ?_
          exact ww_zret C h.1 h.2 dX6_readRule_41
  · have h := ite_f h hc
    refine ww_aload_n C dX6_readRule_9 rfl 0 rfl ?_
    refine ww_aload_n C dX6_readRule_10 rfl 1 rfl ?_
    refine ww_callVi (As := [.ref (ad 12)]) (rest := []) C EH_ok (c_X6_readLoss_p12 h) tb_3_194 tb_3_196 tbs_16 tb_1_10 tb_3_197 rfl rfl ⟨rfl, hd_X6_readLoss_p12⟩ ⟨Nat.le_of_ble_eq_true rfl, Nat.le_of_ble_eq_true rfl⟩ rfl HF_9_0 rfl rfl (Nat.le_of_ble_eq_true rfl) dX6_readRule_11 ⟨Nat.zero_le _, Nat.zero_le _⟩ (fun r_16 u_15 h => ?_)
    exact ww_zret C h.1 h.2 dX6_readRule_14
theorem c_X6_readRule_p12 {l : Launch} {D : va_G} {ad : Nat → Nat} {kK kV : Nat → Nat} {cI cZ : ClassId} {N : Nat}  {u : UU} {Q : Int32 → UU → Prop} (h : m_X6_readRule_p12 N  u Q) : MI l D [(cI, .int), (cZ, .boolean)] (EH kK kV) yX6_readRule (Cond.code yX6_readRule cX6_readRule 2 (some .boolean)) rm_X6_readRule_p12 [.ref (ad 9), .ref (ad 12)] (wH ad cI cZ u) (wH ad cI cZ) Q :=
  MI_of (own := RX6) (by decide) rfl (Nat.le_of_ble_eq_true rfl) rfl (fun p e s m args below meth c A C => w_X6_readRule_p12 C h)
theorem hd_X6_readRule_p12 : yX6_readRule.cls ≠ "java/lang/invoke/MethodHandle" ∧ yX6_readRule.cls ≠ "java/lang/invoke/VarHandle" ∧ (parseMethodDescriptor yX6_readRule.desc).map (fun d => d.parameters.length) = some 1 := by decide +kernel
abbrev rm_X5_empty : Room := { frames := 0, cells := 0, slots := 0, locals := 0 }
set_option maxRecDepth 100000 in
theorem w_X5_empty {p : Program} {l : Launch} {e : Env} {s : State} {m : MethodId} {args : Array Value} {below : List Frame} {meth : Method} {c : Code} {A : Nat → Prop} {D : va_G} {ad : Nat → Nat} {kK kV : Nat → Nat} {cI cZ : ClassId} {N : Nat} {Q : UU → Prop} (C : Cx p m c cX5_empty 1 s args RX5 meth none A D [(cI, .int), (cZ, .boolean)] (EH kK kV)) : ∀ {u : UU}, m_X5_empty N  u Q → WW p l e rm_X5_empty s m args below meth c 0 0 (MQ below (QV D A (wH ad cI cZ) Q) args s 0 0 A) A D 1 0 [(0, .ref (ad 12))] [] (wH ad cI cZ u) := by
  intro  u h
  unfold m_X5_empty at h
  refine ww_aload_n C dX5_empty_0 rfl 0 rfl ?_
  refine ww_iconst (v := 0) C dX5_empty_1 (by decide) ?_
  refine ww_put C inX5 rfl tyX5 tyX5_ok nmX5 3 (by decide) tb_2_25 rfl rfl rfl HS_12_3 dX5_empty_2 ?_
  refine ww_nU (wH ad cI cZ) (fun u_1 eu_1 => ?_)
  have h := h u_1 eu_1
  refine ww_aload_n C dX5_empty_5 rfl 0 rfl ?_
  refine ww_iconst (v := (-1)) C dX5_empty_6 (by decide) ?_
  refine ww_put C inX5 rfl tyX5 tyX5_ok nmX5 4 (by decide) tb_2_26 rfl rfl rfl HS_12_4 dX5_empty_7 ?_
  refine ww_nU (wH ad cI cZ) (fun u_2 eu_2 => ?_)
  have h := h u_2 eu_2
  refine ww_aload_n C dX5_empty_10 rfl 0 rfl ?_
  refine ww_iconst (v := 0) C dX5_empty_11 (by decide) ?_
  refine ww_put C inX5 rfl tyX5 tyX5_ok nmX5 5 (by decide) tb_2_28 rfl rfl rfl HS_12_5 dX5_empty_12 ?_
  refine ww_nU (wH ad cI cZ) (fun u_3 eu_3 => ?_)
  have h := h u_3 eu_3
  refine ww_aload_n C dX5_empty_15 rfl 0 rfl ?_
  refine ww_iconst (v := 0) C dX5_empty_16 (by decide) ?_
  refine ww_put C inX5 rfl tyX5 tyX5_ok nmX5 6 (by decide) tb_2_31 rfl rfl rfl HS_12_6 dX5_empty_17 ?_
  refine ww_nU (wH ad cI cZ) (fun u_4 eu_4 => ?_)
  have h := h u_4 eu_4
  exact ww_vret C h dX5_empty_20
theorem c_X5_empty {l : Launch} {D : va_G} {ad : Nat → Nat} {kK kV : Nat → Nat} {cI cZ : ClassId} {N : Nat}  {u : UU} {Q : UU → Prop} (h : m_X5_empty N  u Q) : MV l D [(cI, .int), (cZ, .boolean)] (EH kK kV) yX5_empty (Cond.code yX5_empty cX5_empty 1 none) rm_X5_empty [.ref (ad 12)] (wH ad cI cZ u) (wH ad cI cZ) Q 0 0 :=
  MV_of (own := RX5) (by decide) rfl (Nat.le_of_ble_eq_true rfl) rfl (fun p e s m args below meth c A C => w_X5_empty C h)
theorem hd_X5_empty : yX5_empty.cls ≠ "java/lang/invoke/MethodHandle" ∧ yX5_empty.cls ≠ "java/lang/invoke/VarHandle" ∧ (parseMethodDescriptor yX5_empty.desc).map (fun d => d.parameters.length) = some 0 := by decide +kernel
abbrev rm_X6_read_p12 : Room := { frames := 7, cells := 0, slots := 0, locals := 152 }
set_option maxRecDepth 100000 in
theorem w_X6_read_p12_24 {p : Program} {l : Launch} {e : Env} {s : State} {m : MethodId} {args : Array Value} {below : List Frame} {meth : Method} {c : Code} {A : Nat → Prop} {D : va_G} {ad : Nat → Nat} {kK kV : Nat → Nat} {cI cZ : ClassId} {N : Nat} {Q : Int32 → UU → Prop} (C : Cx p m c cX6_read 3 s args RX6 meth (some .int) A D [(cI, .int), (cZ, .boolean)] (EH kK kV)) : ∀ (n : Nat) (x2 : Int32) (u : UU), m_X6_read_p12_24 N Q n x2 u → WW p l e rm_X6_read_p12 s m args below meth c 0 0 (MQ below (QI D A (wH ad cI cZ) Q) args s 0 0 A) A D 3 24 [(0, .ref (ad 9)), (1, .ref (ad 12)), (2, .int x2)] [] (wH ad cI cZ u) := by
  intro n
  induction n with
  | zero => intro x2 u h; rw [m_X6_read_p12_24] at h; exact h.elim
  | succ n ih =>
    intro x2 u h
    rw [m_X6_read_p12_24] at h
    refine ww_iload_n C dX6_read_24 rfl 2 rfl ?_
    refine ww_bipush (v := 20) C dX6_read_25 (by decide) ?_
    refine ww_icmp_gt (tgt := 77) C dX6_read_27 (by decide) (fun hc => ?_) (fun hc => ?_)
    · have h := ite_t h hc
      refine ww_aload_n C dX6_read_77 rfl 0 rfl ?_
      refine ww_get C inX6 rfl 1 (by decide) tb_1_217 HF_9_1 dX6_read_78 ?_
      exact ww_iret C h dX6_read_81
    · have h := ite_f h hc
      refine ww_aload_n C dX6_read_30 rfl 0 rfl ?_
      refine ww_aload_n C dX6_read_31 rfl 1 rfl ?_
      refine ww_callVi (As := [.ref (ad 12)]) (rest := []) C EH_ok (c_X6_readRule_p12 h) tb_3_137 tb_3_139 tbs_14 tb_1_10 tb_3_140 rfl rfl ⟨rfl, hd_X6_readRule_p12⟩ ⟨Nat.le_of_ble_eq_true rfl, Nat.le_of_ble_eq_true rfl⟩ rfl HF_9_0 rfl rfl (Nat.le_of_ble_eq_true rfl) dX6_read_32 ⟨Nat.zero_le _, Nat.zero_le _⟩ (fun r_2 u_1 h => ?_)
      refine ww_if_ne (tgt := 43) C dX6_read_35 (by decide) (fun hc => ?_) (fun hc => ?_)
      · have h := ite_f h hc
        refine ww_aload_n C dX6_read_43 rfl 1 rfl ?_
        refine ww_iload_n C dX6_read_44 rfl 2 rfl ?_
        refine ww_put C inX5 rfl tyX5 tyX5_ok nmX5 6 (by decide) tb_2_32 rfl rfl rfl HS_12_6 dX6_read_45 ?_
        refine ww_nU (wH ad cI cZ) (fun u_3 eu_3 => ?_)
        have h := h u_3 eu_3
        refine ww_aload_n C dX6_read_48 rfl 0 rfl ?_
        refine ww_callVi (As := []) (rest := []) C EH_ok (c_X6_isAtEnd h) tb_3_130 tb_3_132 tbs_13 tb_1_10 tb_3_133 rfl rfl ⟨rfl, hd_X6_isAtEnd⟩ ⟨Nat.le_of_ble_eq_true rfl, Nat.le_of_ble_eq_true rfl⟩ rfl HF_9_0 rfl rfl (Nat.le_of_ble_eq_true rfl) dX6_read_49 ⟨Nat.zero_le _, Nat.zero_le _⟩ (fun r_5 u_4 h => ?_)
        refine ww_if_eq (tgt := 57) C dX6_read_52 (by decide) (fun hc => ?_) (fun hc => ?_)
        · have h := ite_t h hc
          refine ww_aload_n C dX6_read_57 rfl 0 rfl ?_
          refine ww_ldcS C 6 (by decide) rfl rfl dX6_read_58 ?_
          refine ww_callVi (As := [.ref (kK 6)]) (rest := []) C EH_ok (c_X6_takeWord_s h) tb_3_142 tb_3_144 tbs_15 tb_1_10 tb_3_145 rfl rfl ⟨rfl, hd_X6_takeWord_s⟩ ⟨Nat.le_of_ble_eq_true rfl, Nat.le_of_ble_eq_true rfl⟩ rfl HF_9_0 rfl rfl (Nat.le_of_ble_eq_true rfl) dX6_read_60 ⟨Nat.zero_le _, Nat.zero_le _⟩ (fun r_7 u_6 h => ?_)
          refine ww_if_ne (tgt := 71) C dX6_read_63 (by decide) (fun hc => ?_) (fun hc => ?_)
          · have h := ite_f h hc
            obtain ⟨z_8, ez_8⟩ : ∃ z_8 : Int32, z_8 = x2 + (1 : Int32) := ⟨_, rfl⟩
            have h := h z_8 ez_8
            refine ww_iinc (i := 2) (j := 2) (v := z_8) (lv' := [(2, .int z_8), (0, .ref (ad 9)), (1, .ref (ad 12))]) C dX6_read_71 rfl (by rw [ez_8]; rfl) (by decide) rfl ?_
            refine ww_goto (tgt := 24) C dX6_read_74 (by decide) ?_
            refine ww_sub [1, 2, 0] rfl ?_
            exact ih _ _ h
          · have h := ite_t h hc
            refine ww_aload_n C dX6_read_66 rfl 0 rfl ?_
            refine ww_get C inX6 rfl 1 (by decide) tb_1_217 HF_9_1 dX6_read_67 ?_
            exact ww_iret C h dX6_read_70
        · have h := ite_f h hc
          refine ww_iconst (v := (-1)) C dX6_read_55 (by decide) ?_
          exact ww_iret C h dX6_read_56
      · have h := ite_t h hc
        refine ww_aload_n C dX6_read_38 rfl 0 rfl ?_
        refine ww_get C inX6 rfl 1 (by decide) tb_1_217 HF_9_1 dX6_read_39 ?_
        exact ww_iret C h dX6_read_42
set_option maxRecDepth 100000 in
theorem w_X6_read_p12 {p : Program} {l : Launch} {e : Env} {s : State} {m : MethodId} {args : Array Value} {below : List Frame} {meth : Method} {c : Code} {A : Nat → Prop} {D : va_G} {ad : Nat → Nat} {kK kV : Nat → Nat} {cI cZ : ClassId} {N : Nat} {Q : Int32 → UU → Prop} (C : Cx p m c cX6_read 3 s args RX6 meth (some .int) A D [(cI, .int), (cZ, .boolean)] (EH kK kV)) : ∀ {u : UU}, m_X6_read_p12 N  u Q → WW p l e rm_X6_read_p12 s m args below meth c 0 0 (MQ below (QI D A (wH ad cI cZ) Q) args s 0 0 A) A D 3 0 [(0, .ref (ad 9)), (1, .ref (ad 12))] [] (wH ad cI cZ u) := by
  intro  u h
  unfold m_X6_read_p12 at h
  refine ww_aload_n C dX6_read_0 rfl 1 rfl ?_
  refine ww_callVv (As := []) (rest := []) C EH_ok (c_X5_empty h) tb_3_118 tb_3_119 tb_3_120 tb_1_12 tb_3_121 rfl rfl ⟨rfl, hd_X5_empty⟩ ⟨Nat.le_of_ble_eq_true rfl, Nat.le_of_ble_eq_true rfl⟩ rfl HF_12_0 rfl rfl (Nat.le_of_ble_eq_true rfl) dX6_read_1 ⟨Nat.zero_le _, Nat.zero_le _⟩ (fun u_1 h => ?_)
  refine ww_aload_n C dX6_read_4 rfl 0 rfl ?_
  refine ww_iconst (v := 0) C dX6_read_5 (by decide) ?_
  refine ww_put C inX6 rfl tyX6 tyX6_ok nmX6 2 (by decide) tb_1_218 rfl rfl rfl HS_9_2 dX6_read_6 ?_
  refine ww_nU (wH ad cI cZ) (fun u_3 eu_3 => ?_)
  have h := h u_3 eu_3
  refine ww_aload_n C dX6_read_9 rfl 0 rfl ?_
  refine ww_callVv (As := []) (rest := []) C EH_ok (c_X6_step h) tb_3_122 tb_3_124 tbs_12 tb_1_10 tb_3_125 rfl rfl ⟨rfl, hd_X6_step⟩ ⟨Nat.le_of_ble_eq_true rfl, Nat.le_of_ble_eq_true rfl⟩ rfl HF_9_0 rfl rfl (Nat.le_of_ble_eq_true rfl) dX6_read_10 ⟨Nat.zero_le _, Nat.zero_le _⟩ (fun u_4 h => ?_)
  refine ww_aload_n C dX6_read_13 rfl 0 rfl ?_
  refine ww_callVi (As := []) (rest := []) C EH_ok (c_X6_isAtEnd h) tb_3_130 tb_3_132 tbs_13 tb_1_10 tb_3_133 rfl rfl ⟨rfl, hd_X6_isAtEnd⟩ ⟨Nat.le_of_ble_eq_true rfl, Nat.le_of_ble_eq_true rfl⟩ rfl HF_9_0 rfl rfl (Nat.le_of_ble_eq_true rfl) dX6_read_14 ⟨Nat.zero_le _, Nat.zero_le _⟩ (fun r_7 u_6 h => ?_)
  refine ww_if_eq (tgt := 22) C dX6_read_17 (by decide) (fun hc => ?_) (fun hc => ?_)
  · have h := ite_t h hc
    refine ww_iconst (v := 1) C dX6_read_22 (by decide) ?_
    refine ww_istore_n (i := 2) (lv' := [(2, .int (1 : Int32)), (0, .ref (ad 9)), (1, .ref (ad 12))]) C dX6_read_23 rfl (by decide) rfl ?_
    refine ww_sub [1, 2, 0] rfl ?_
    exact w_X6_read_p12_24 C N _ _ h
  · have h := ite_f h hc
    refine ww_iconst (v := (-1)) C dX6_read_20 (by decide) ?_
    exact ww_iret C h dX6_read_21
theorem c_X6_read_p12 {l : Launch} {D : va_G} {ad : Nat → Nat} {kK kV : Nat → Nat} {cI cZ : ClassId} {N : Nat}  {u : UU} {Q : Int32 → UU → Prop} (h : m_X6_read_p12 N  u Q) : MI l D [(cI, .int), (cZ, .boolean)] (EH kK kV) yX6_read (Cond.code yX6_read cX6_read 3 (some .int)) rm_X6_read_p12 [.ref (ad 9), .ref (ad 12)] (wH ad cI cZ u) (wH ad cI cZ) Q :=
  MI_of (own := RX6) (by decide) rfl (Nat.le_of_ble_eq_true rfl) rfl (fun p e s m args below meth c A C => w_X6_read_p12 C h)
theorem hd_X6_read_p12 : yX6_read.cls ≠ "java/lang/invoke/MethodHandle" ∧ yX6_read.cls ≠ "java/lang/invoke/VarHandle" ∧ (parseMethodDescriptor yX6_read.desc).map (fun d => d.parameters.length) = some 1 := by decide +kernel
abbrev rm_X11_rules : Room := { frames := 8, cells := 0, slots := 0, locals := 174 }
set_option maxRecDepth 100000 in
theorem w_X11_rules {p : Program} {l : Launch} {e : Env} {s : State} {m : MethodId} {args : Array Value} {below : List Frame} {meth : Method} {c : Code} {A : Nat → Prop} {D : va_G} {ad : Nat → Nat} {kK kV : Nat → Nat} {cI cZ : ClassId} {N : Nat} {Q : Int32 → Bool → UU → Prop} (C : Cx p m c cX11_rules 2 s args RX11 meth (some .int) A D [(cI, .int), (cZ, .boolean)] (EH kK kV)) : ∀ {u : UU}, m_X11_rules N  u Q → WW p l e rm_X11_rules s m args below meth c 0 0 (MQ below (QI D A (woR ad cI cZ) (fun r z => Q r z.1 z.2)) args s 0 0 A) A D 2 0 [(0, .ref (ad 0))] [] (wH ad cI cZ u) := by
  intro  u h
  unfold m_X11_rules at h
  refine ww_aload_n C dX11_rules_0 rfl 0 rfl ?_
  refine ww_aload_n C dX11_rules_1 rfl 0 rfl ?_
  refine ww_get C inX11 rfl 8 (by decide) tb_2_57 HF_0_8 dX11_rules_2 ?_
  refine ww_aload_n C dX11_rules_5 rfl 0 rfl ?_
  refine ww_get C inX11 rfl 11 (by decide) tb_2_60 HF_0_11 dX11_rules_6 ?_
  refine ww_callVi (As := [.ref (ad 12)]) (rest := [.ref (ad 0)]) C EH_ok (c_X6_read_p12 h) tb_3_114 tb_3_115 tb_3_116 tb_1_10 tb_3_117 rfl rfl ⟨rfl, hd_X6_read_p12⟩ ⟨Nat.le_of_ble_eq_true rfl, Nat.le_of_ble_eq_true rfl⟩ rfl HF_9_0 rfl rfl (Nat.le_of_ble_eq_true rfl) dX11_rules_9 ⟨Nat.zero_le _, Nat.zero_le _⟩ (fun r_2 u_1 h => ?_)
  refine ww_put C inX11 rfl tyX11 tyX11_ok nmX11 12 (by decide) tb_2_61 rfl rfl rfl HS_0_12 dX11_rules_12 ?_
  refine ww_nU (wH ad cI cZ) (fun u_3 eu_3 => ?_)
  have h := h u_3 eu_3
  refine ww_aload_n C dX11_rules_15 rfl 0 rfl ?_
  refine ww_get C inX11 rfl 7 (by decide) tb_2_56 HF_0_7 dX11_rules_16 ?_
  refine ww_iconst (v := 0) C dX11_rules_19 (by decide) ?_
  refine ww_put C inX8 rfl tyX8 tyX8_ok nmX8 1 (by decide) tb_1_204 rfl rfl rfl HS_8_1 dX11_rules_20 ?_
  refine ww_nU (wH ad cI cZ) (fun u_4 eu_4 => ?_)
  have h := h u_4 eu_4
  refine ww_aload_n C dX11_rules_23 rfl 0 rfl ?_
  refine ww_get C inX11 rfl 12 (by decide) tb_2_61 HF_0_12 dX11_rules_24 ?_
  refine ww_iconst (v := (-1)) C dX11_rules_27 (by decide) ?_
  refine ww_icmp_eq (tgt := 38) C dX11_rules_28 (by decide) (fun hc => ?_) (fun hc => ?_)
  · have h := ite_t h hc
    refine ww_aload_n C dX11_rules_38 rfl 0 rfl ?_
    refine ww_get C inX11 rfl 10 (by decide) tb_2_59 HF_0_10 dX11_rules_39 ?_
    refine ww_astore_n (i := 1) (lv' := [(1, .ref (ad 11)), (0, .ref (ad 0))]) C dX11_rules_42 rfl (by decide) rfl ?_
    refine ww_aload_n C dX11_rules_43 rfl 1 rfl ?_
    refine ww_aload_n C dX11_rules_44 rfl 1 rfl ?_
    refine ww_get C inX11 rfl 11 (by decide) tb_2_60 HF_0_11 dX11_rules_45 ?_
    refine ww_put C inX11 rfl tyX11 tyX11_ok nmX11 10 (by decide) tb_2_59 rfl rfl rfl (HSx_0_10 (v := ad 12)) dX11_rules_48 ?_
    refine ww_aload_n C dX11_rules_51 rfl 1 rfl ?_
    refine ww_aload_n C dX11_rules_52 rfl 0 rfl ?_
    refine ww_put C inX11 rfl tyX11 tyX11_ok nmX11 11 (by decide) tb_2_60 rfl rfl rfl (HSx_0_11 (v := ad 11)) dX11_rules_53 ?_
    refine ww_perm swP (ws' := wH (swA ad) cI cZ (swU u_4)) rfl rfl rfl ?_
    refine ww_nU (wH (swA ad) cI cZ) (fun u_5 eu_5 => ?_)
    have h := h u_5 eu_5
    refine ww_aload_n C dX11_rules_56 rfl 1 rfl ?_
    refine ww_aload_n C dX11_rules_57 rfl 1 rfl ?_
    refine ww_get C inX11 rfl 10 (by decide) tb_2_59 HF_0_10 dX11_rules_58 ?_
    refine ww_get C inX5 rfl 6 (by decide) tb_2_33 HF_11_6 dX11_rules_61 ?_
    refine ww_callVi (As := [.int (u_5.1 18)]) (rest := []) C EH_ok (c_X11_taken h) tb_2_110 tb_2_112 tbs_1 tb_1_1 tb_2_113 rfl rfl ⟨rfl, hd_X11_taken⟩ ⟨Nat.le_of_ble_eq_true rfl, Nat.le_of_ble_eq_true rfl⟩ rfl HF_0_0 rfl rfl (Nat.le_of_ble_eq_true rfl) dX11_rules_64 ⟨Nat.zero_le _, Nat.zero_le _⟩ (fun r_7 u_6 h => ?_)
    exact ww_iret (wo := woR ad cI cZ) (post := fun r z => Q r z.1 z.2) (u := (true, u_6)) C h dX11_rules_67
  · have h := ite_f h hc
    refine ww_aload_n C dX11_rules_31 rfl 0 rfl ?_
    refine ww_bipush (v := (-6)) C dX11_rules_32 (by decide) ?_
    refine ww_callVi (As := [.int ((-6) : Int32)]) (rest := []) C EH_ok (c_X11_refused h) tb_2_102 tb_2_104 tbs_0 tb_1_1 tb_2_105 rfl rfl ⟨rfl, hd_X11_refused⟩ ⟨Nat.le_of_ble_eq_true rfl, Nat.le_of_ble_eq_true rfl⟩ rfl HF_0_0 rfl rfl (Nat.le_of_ble_eq_true rfl) dX11_rules_34 ⟨Nat.zero_le _, Nat.zero_le _⟩ (fun r_9 u_8 h => ?_)
    exact ww_iret (wo := woR ad cI cZ) (post := fun r z => Q r z.1 z.2) (u := (false, u_8)) C h dX11_rules_37
theorem c_X11_rules {l : Launch} {D : va_G} {ad : Nat → Nat} {kK kV : Nat → Nat} {cI cZ : ClassId} {N : Nat}  {u : UU} {Q : Int32 → Bool → UU → Prop} (h : m_X11_rules N  u Q) : MI l D [(cI, .int), (cZ, .boolean)] (EH kK kV) yX11_rules (Cond.code yX11_rules cX11_rules 2 (some .int)) rm_X11_rules [.ref (ad 0)] (wH ad cI cZ u) (woR ad cI cZ) (fun r z => Q r z.1 z.2) :=
  MI_of (own := RX11) (by decide) rfl (Nat.le_of_ble_eq_true rfl) rfl (fun p e s m args below meth c A C => w_X11_rules C h)
theorem hd_X11_rules : yX11_rules.cls ≠ "java/lang/invoke/MethodHandle" ∧ yX11_rules.cls ≠ "java/lang/invoke/VarHandle" ∧ (parseMethodDescriptor yX11_rules.desc).map (fun d => d.parameters.length) = some 0 := by decide +kernel
abbrev rm_X11_fault : Room := { frames := 0, cells := 0, slots := 0, locals := 0 }
set_option maxRecDepth 100000 in
theorem w_X11_fault {p : Program} {l : Launch} {e : Env} {s : State} {m : MethodId} {args : Array Value} {below : List Frame} {meth : Method} {c : Code} {A : Nat → Prop} {D : va_G} {ad : Nat → Nat} {kK kV : Nat → Nat} {cI cZ : ClassId} {N : Nat} {Q : Int32 → UU → Prop} (C : Cx p m c cX11_fault 1 s args RX11 meth (some .int) A D [(cI, .int), (cZ, .boolean)] (EH kK kV)) : ∀ {u : UU}, m_X11_fault N  u Q → WW p l e rm_X11_fault s m args below meth c 0 0 (MQ below (QI D A (wH ad cI cZ) Q) args s 0 0 A) A D 1 0 [(0, .ref (ad 0))] [] (wH ad cI cZ u) := by
  intro  u h
  unfold m_X11_fault at h
  refine ww_aload_n C dX11_fault_0 rfl 0 rfl ?_
  refine ww_get C inX11 rfl 12 (by decide) tb_2_61 HF_0_12 dX11_fault_1 ?_
  exact ww_iret C h dX11_fault_4
theorem c_X11_fault {l : Launch} {D : va_G} {ad : Nat → Nat} {kK kV : Nat → Nat} {cI cZ : ClassId} {N : Nat}  {u : UU} {Q : Int32 → UU → Prop} (h : m_X11_fault N  u Q) : MI l D [(cI, .int), (cZ, .boolean)] (EH kK kV) yX11_fault (Cond.code yX11_fault cX11_fault 1 (some .int)) rm_X11_fault [.ref (ad 0)] (wH ad cI cZ u) (wH ad cI cZ) Q :=
  MI_of (own := RX11) (by decide) rfl (Nat.le_of_ble_eq_true rfl) rfl (fun p e s m args below meth c A C => w_X11_fault C h)
theorem hd_X11_fault : yX11_fault.cls ≠ "java/lang/invoke/MethodHandle" ∧ yX11_fault.cls ≠ "java/lang/invoke/VarHandle" ∧ (parseMethodDescriptor yX11_fault.desc).map (fun d => d.parameters.length) = some 0 := by decide +kernel
abbrev rm_X1_add : Room := { frames := 0, cells := 0, slots := 0, locals := 0 }
set_option maxRecDepth 100000 in
theorem w_X1_add {p : Program} {l : Launch} {e : Env} {s : State} {m : MethodId} {args : Array Value} {below : List Frame} {meth : Method} {c : Code} {A : Nat → Prop} {D : va_G} {ad : Nat → Nat} {kK kV : Nat → Nat} {cI cZ : ClassId} {N : Nat} {Q : Int32 → UU → Prop} (C : Cx p m c cX1_add 5 s args RX1 meth (some .int) A D [(cI, .int), (cZ, .boolean)] (EH kK kV)) : ∀ {x1 : Int32} {x2 : Int32} {x3 : Int32} {x4 : Int32} {u : UU}, m_X1_add N x1 x2 x3 x4 u Q → WW p l e rm_X1_add s m args below meth c 0 0 (MQ below (QI D A (wH ad cI cZ) Q) args s 0 0 A) A D 5 0 [(0, .ref (ad 10)), (1, .int x1), (2, .int x2), (3, .int x3), (4, .int x4)] [] (wH ad cI cZ u) := by
  intro x1 x2 x3 x4 u h
  unfold m_X1_add at h
  refine ww_aload_n C dX1_add_0 rfl 0 rfl ?_
  refine ww_get C inX1 rfl 4 (by decide) tb_2_3 HF_10_4 dX1_add_1 ?_
  refine ww_bipush (v := 40) C dX1_add_4 (by decide) ?_
  refine ww_icmp_lt (tgt := 11) C dX1_add_6 (by decide) (fun hc => ?_) (fun hc => ?_)
  · have h := ite_t h hc
    refine ww_aload_n C dX1_add_11 rfl 0 rfl ?_
    refine ww_get C inX1 rfl 0 (by decide) tb_1_235 HF_10_0 dX1_add_12 ?_
    refine ww_aload_n C dX1_add_15 rfl 0 rfl ?_
    refine ww_get C inX1 rfl 4 (by decide) tb_2_3 HF_10_4 dX1_add_16 ?_
    refine ww_iload_n C dX1_add_19 rfl 1 rfl ?_
    obtain ⟨hin, h⟩ := h
    refine ww_iast C 0 rfl HU_33 hin dX1_add_20 ?_
    refine ww_nU (wH ad cI cZ) (fun u_1 eu_1 => ?_)
    have h := h u_1 eu_1
    refine ww_aload_n C dX1_add_21 rfl 0 rfl ?_
    refine ww_get C inX1 rfl 1 (by decide) tb_1_237 HF_10_1 dX1_add_22 ?_
    refine ww_aload_n C dX1_add_25 rfl 0 rfl ?_
    refine ww_get C inX1 rfl 4 (by decide) tb_2_3 HF_10_4 dX1_add_26 ?_
    refine ww_iload_n C dX1_add_29 rfl 2 rfl ?_
    obtain ⟨hin, h⟩ := h
    refine ww_iast C 0 rfl HU_34 hin dX1_add_30 ?_
    refine ww_nU (wH ad cI cZ) (fun u_2 eu_2 => ?_)
    have h := h u_2 eu_2
    refine ww_aload_n C dX1_add_31 rfl 0 rfl ?_
    refine ww_get C inX1 rfl 2 (by decide) tb_1_239 HF_10_2 dX1_add_32 ?_
    refine ww_aload_n C dX1_add_35 rfl 0 rfl ?_
    refine ww_get C inX1 rfl 4 (by decide) tb_2_3 HF_10_4 dX1_add_36 ?_
    refine ww_iload_n C dX1_add_39 rfl 3 rfl ?_
    obtain ⟨hin, h⟩ := h
    refine ww_iast C 0 rfl HU_35 hin dX1_add_40 ?_
    refine ww_nU (wH ad cI cZ) (fun u_3 eu_3 => ?_)
    have h := h u_3 eu_3
    refine ww_aload_n C dX1_add_41 rfl 0 rfl ?_
    refine ww_get C inX1 rfl 3 (by decide) tb_2_1 HF_10_3 dX1_add_42 ?_
    refine ww_aload_n C dX1_add_45 rfl 0 rfl ?_
    refine ww_get C inX1 rfl 4 (by decide) tb_2_3 HF_10_4 dX1_add_46 ?_
    refine ww_iload C dX1_add_49 4 rfl ?_
    obtain ⟨hin, h⟩ := h
    refine ww_iast C 0 rfl HU_36 hin dX1_add_51 ?_
    refine ww_nU (wH ad cI cZ) (fun u_4 eu_4 => ?_)
    have h := h u_4 eu_4
    refine ww_aload_n C dX1_add_52 rfl 0 rfl ?_
    refine ww_dup C dX1_add_53 rfl ?_
    refine ww_get C inX1 rfl 4 (by decide) tb_2_3 HF_10_4 dX1_add_54 ?_
    refine ww_iconst (v := 1) C dX1_add_57 (by decide) ?_
    refine ww_iadd C dX1_add_58 ?_
    refine ww_put C inX1 rfl tyX1 tyX1_ok nmX1 4 (by decide) tb_2_3 rfl rfl rfl HS_10_4 dX1_add_59 ?_
    refine ww_nU (wH ad cI cZ) (fun u_5 eu_5 => ?_)
    have h := h u_5 eu_5
    refine ww_aload_n C dX1_add_62 rfl 0 rfl ?_
    refine ww_get C inX1 rfl 4 (by decide) tb_2_3 HF_10_4 dX1_add_63 ?_
    refine ww_iconst (v := 1) C dX1_add_66 (by decide) ?_
    refine ww_isub C dX1_add_67 ?_
    exact ww_iret C h dX1_add_68
  · have h := ite_f h hc
    refine ww_iconst (v := (-1)) C dX1_add_9 (by decide) ?_
    exact ww_iret C h dX1_add_10
theorem c_X1_add {l : Launch} {D : va_G} {ad : Nat → Nat} {kK kV : Nat → Nat} {cI cZ : ClassId} {N : Nat} {x1 : Int32} {x2 : Int32} {x3 : Int32} {x4 : Int32} {u : UU} {Q : Int32 → UU → Prop} (h : m_X1_add N x1 x2 x3 x4 u Q) : MI l D [(cI, .int), (cZ, .boolean)] (EH kK kV) yX1_add (Cond.code yX1_add cX1_add 5 (some .int)) rm_X1_add [.ref (ad 10), .int x1, .int x2, .int x3, .int x4] (wH ad cI cZ u) (wH ad cI cZ) Q :=
  MI_of (own := RX1) (by decide) rfl (Nat.le_of_ble_eq_true rfl) rfl (fun p e s m args below meth c A C => w_X1_add C h)
theorem hd_X1_add : yX1_add.cls ≠ "java/lang/invoke/MethodHandle" ∧ yX1_add.cls ≠ "java/lang/invoke/VarHandle" ∧ (parseMethodDescriptor yX1_add.desc).map (fun d => d.parameters.length) = some 4 := by decide +kernel
abbrev rm_X11_claim : Room := { frames := 2, cells := 0, slots := 0, locals := 43 }
set_option maxRecDepth 100000 in
theorem w_X11_claim_29 {p : Program} {l : Launch} {e : Env} {s : State} {m : MethodId} {args : Array Value} {below : List Frame} {meth : Method} {c : Code} {A : Nat → Prop} {D : va_G} {ad : Nat → Nat} {kK kV : Nat → Nat} {cI cZ : ClassId} {N : Nat} {Q : Int32 → UU → Prop} (C : Cx p m c cX11_claim 5 s args RX11 meth (some .int) A D [(cI, .int), (cZ, .boolean)] (EH kK kV)) : ∀ {u : UU}, m_X11_claim_29 N  u Q → WW p l e rm_X11_claim s m args below meth c 0 0 (MQ below (QI D A (wH ad cI cZ) Q) args s 0 0 A) A D 5 29 [(0, .ref (ad 0))] [] (wH ad cI cZ u) := by
  intro  u h
  unfold m_X11_claim_29 at h
  refine ww_aload_n C dX11_claim_29 rfl 0 rfl ?_
  refine ww_iconst (v := (-1)) C dX11_claim_30 (by decide) ?_
  refine ww_callVi (As := [.int ((-1) : Int32)]) (rest := []) C EH_ok (c_X11_refused h) tb_2_102 tb_2_104 tbs_0 tb_1_1 tb_2_105 rfl rfl ⟨rfl, hd_X11_refused⟩ ⟨Nat.le_of_ble_eq_true rfl, Nat.le_of_ble_eq_true rfl⟩ rfl HF_0_0 rfl rfl (Nat.le_of_ble_eq_true rfl) dX11_claim_31 ⟨Nat.zero_le _, Nat.zero_le _⟩ (fun r_2 u_1 h => ?_)
  exact ww_iret C h dX11_claim_34
set_option maxRecDepth 100000 in
theorem w_X11_claim {p : Program} {l : Launch} {e : Env} {s : State} {m : MethodId} {args : Array Value} {below : List Frame} {meth : Method} {c : Code} {A : Nat → Prop} {D : va_G} {ad : Nat → Nat} {kK kV : Nat → Nat} {cI cZ : ClassId} {N : Nat} {Q : Int32 → UU → Prop} (C : Cx p m c cX11_claim 5 s args RX11 meth (some .int) A D [(cI, .int), (cZ, .boolean)] (EH kK kV)) : ∀ {x1 : Int32} {x2 : Int32} {x3 : Int32} {x4 : Int32} {u : UU}, m_X11_claim N x1 x2 x3 x4 u Q → WW p l e rm_X11_claim s m args below meth c 0 0 (MQ below (QI D A (wH ad cI cZ) Q) args s 0 0 A) A D 5 0 [(0, .ref (ad 0)), (1, .int x1), (2, .int x2), (3, .int x3), (4, .int x4)] [] (wH ad cI cZ u) := by
  intro x1 x2 x3 x4 u h
  unfold m_X11_claim at h
  refine ww_iload_n C dX11_claim_0 rfl 1 rfl ?_
  refine ww_iload_n C dX11_claim_1 rfl 2 rfl ?_
  refine ww_callSi (As := [.int x1, .int x2]) (rest := []) C EH_ok (c_X11_isPlace h) tb_2_96 tb_2_97 tb_1_1 tb_2_98 rfl rfl hd_X11_isPlace ⟨Nat.le_of_ble_eq_true rfl, Nat.le_of_ble_eq_true rfl⟩ rfl rfl (Nat.le_of_ble_eq_true rfl) dX11_claim_2 ⟨Nat.zero_le _, Nat.zero_le _⟩ (fun r_2 u_1 h => ?_)
  refine ww_if_eq (tgt := 29) C dX11_claim_5 (by decide) (fun hc => ?_) (fun hc => ?_)
  · have h := ite_t h hc
    refine ww_sub [0] rfl ?_
    exact w_X11_claim_29 C h
  · have h := ite_f h hc
    refine ww_iload_n C dX11_claim_8 rfl 3 rfl ?_
    refine ww_iconst (v := 0) C dX11_claim_9 (by decide) ?_
    refine ww_ldc C tb_3_222 dX11_claim_10 ?_
    refine ww_callSi (As := [.int x3, .int (0 : Int32), .int (100000 : Int32)]) (rest := []) C EH_ok (c_X11_isIn h) tb_2_99 tb_2_100 tb_1_1 tb_2_101 rfl rfl hd_X11_isIn ⟨Nat.le_of_ble_eq_true rfl, Nat.le_of_ble_eq_true rfl⟩ rfl rfl (Nat.le_of_ble_eq_true rfl) dX11_claim_12 ⟨Nat.zero_le _, Nat.zero_le _⟩ (fun r_4 u_3 h => ?_)
    refine ww_if_eq (tgt := 29) C dX11_claim_15 (by decide) (fun hc => ?_) (fun hc => ?_)
    · have h := ite_t h hc
      refine ww_sub [0] rfl ?_
      exact w_X11_claim_29 C h
    · have h := ite_f h hc
      refine ww_iload C dX11_claim_18 4 rfl ?_
      refine ww_iconst (v := 0) C dX11_claim_20 (by decide) ?_
      refine ww_bipush (v := 100) C dX11_claim_21 (by decide) ?_
      refine ww_callSi (As := [.int x4, .int (0 : Int32), .int (100 : Int32)]) (rest := []) C EH_ok (c_X11_isIn h) tb_2_99 tb_2_100 tb_1_1 tb_2_101 rfl rfl hd_X11_isIn ⟨Nat.le_of_ble_eq_true rfl, Nat.le_of_ble_eq_true rfl⟩ rfl rfl (Nat.le_of_ble_eq_true rfl) dX11_claim_23 ⟨Nat.zero_le _, Nat.zero_le _⟩ (fun r_6 u_5 h => ?_)
      refine ww_if_ne (tgt := 35) C dX11_claim_26 (by decide) (fun hc => ?_) (fun hc => ?_)
      · have h := ite_f h hc
        refine ww_aload_n C dX11_claim_35 rfl 0 rfl ?_
        refine ww_get C inX11 rfl 9 (by decide) tb_2_58 HF_0_9 dX11_claim_36 ?_
        refine ww_get C inX1 rfl 4 (by decide) tb_2_4 HF_10_4 dX11_claim_39 ?_
        refine ww_bipush (v := 40) C dX11_claim_42 (by decide) ?_
        refine ww_icmp_lt (tgt := 54) C dX11_claim_44 (by decide) (fun hc => ?_) (fun hc => ?_)
        · have h := ite_t h hc
          refine ww_aload_n C dX11_claim_54 rfl 0 rfl ?_
          refine ww_aload_n C dX11_claim_55 rfl 0 rfl ?_
          refine ww_get C inX11 rfl 9 (by decide) tb_2_58 HF_0_9 dX11_claim_56 ?_
          refine ww_iload_n C dX11_claim_59 rfl 1 rfl ?_
          refine ww_iload_n C dX11_claim_60 rfl 2 rfl ?_
          refine ww_iload_n C dX11_claim_61 rfl 3 rfl ?_
          refine ww_iload C dX11_claim_62 4 rfl ?_
          refine ww_callVi (As := [.int x1, .int x2, .int x3, .int x4]) (rest := [.ref (ad 0)]) C EH_ok (c_X1_add h) tb_3_223 tb_3_224 tb_3_225 tb_1_11 tb_3_226 rfl rfl ⟨rfl, hd_X1_add⟩ ⟨Nat.le_of_ble_eq_true rfl, Nat.le_of_ble_eq_true rfl⟩ rfl HF_10_0 rfl rfl (Nat.le_of_ble_eq_true rfl) dX11_claim_64 ⟨Nat.zero_le _, Nat.zero_le _⟩ (fun r_8 u_7 h => ?_)
          refine ww_callVi (As := [.int r_8]) (rest := []) C EH_ok (c_X11_taken h) tb_2_110 tb_2_112 tbs_1 tb_1_1 tb_2_113 rfl rfl ⟨rfl, hd_X11_taken⟩ ⟨Nat.le_of_ble_eq_true rfl, Nat.le_of_ble_eq_true rfl⟩ rfl HF_0_0 rfl rfl (Nat.le_of_ble_eq_true rfl) dX11_claim_67 ⟨Nat.zero_le _, Nat.zero_le _⟩ (fun r_10 u_9 h => ?_)
          exact ww_iret C h dX11_claim_70
        · have h := ite_f h hc
          refine ww_aload_n C dX11_claim_47 rfl 0 rfl ?_
          refine ww_bipush (v := (-5)) C dX11_claim_48 (by decide) ?_
          refine ww_callVi (As := [.int ((-5) : Int32)]) (rest := []) C EH_ok (c_X11_refused h) tb_2_102 tb_2_104 tbs_0 tb_1_1 tb_2_105 rfl rfl ⟨rfl, hd_X11_refused⟩ ⟨Nat.le_of_ble_eq_true rfl, Nat.le_of_ble_eq_true rfl⟩ rfl HF_0_0 rfl rfl (Nat.le_of_ble_eq_true rfl) dX11_claim_50 ⟨Nat.zero_le _, Nat.zero_le _⟩ (fun r_12 u_11 h => ?_)
          exact ww_iret C h dX11_claim_53
      · have h := ite_t h hc
        refine ww_sub [0] rfl ?_
        exact w_X11_claim_29 C h
theorem c_X11_claim {l : Launch} {D : va_G} {ad : Nat → Nat} {kK kV : Nat → Nat} {cI cZ : ClassId} {N : Nat} {x1 : Int32} {x2 : Int32} {x3 : Int32} {x4 : Int32} {u : UU} {Q : Int32 → UU → Prop} (h : m_X11_claim N x1 x2 x3 x4 u Q) : MI l D [(cI, .int), (cZ, .boolean)] (EH kK kV) yX11_claim (Cond.code yX11_claim cX11_claim 5 (some .int)) rm_X11_claim [.ref (ad 0), .int x1, .int x2, .int x3, .int x4] (wH ad cI cZ u) (wH ad cI cZ) Q :=
  MI_of (own := RX11) (by decide) rfl (Nat.le_of_ble_eq_true rfl) rfl (fun p e s m args below meth c A C => w_X11_claim C h)
theorem hd_X11_claim : yX11_claim.cls ≠ "java/lang/invoke/MethodHandle" ∧ yX11_claim.cls ≠ "java/lang/invoke/VarHandle" ∧ (parseMethodDescriptor yX11_claim.desc).map (fun d => d.parameters.length) = some 4 := by decide +kernel
abbrev rm_X5_lossFor : Room := { frames := 1, cells := 0, slots := 0, locals := 21 }
set_option maxRecDepth 100000 in
theorem w_X5_lossFor_48 {p : Program} {l : Launch} {e : Env} {s : State} {m : MethodId} {args : Array Value} {below : List Frame} {meth : Method} {c : Code} {A : Nat → Prop} {D : va_G} {ad : Nat → Nat} {kK kV : Nat → Nat} {cI cZ : ClassId} {N : Nat} {Q : Int32 → UU → Prop} {k5 : Int32 → Int32 → Int32 → Int32 → UU → Prop} (C : Cx p m c cX5_lossFor 5 s args RX5 meth (some .int) A D [(cI, .int), (cZ, .boolean)] (EH kK kV)) (hk5 : ∀ (x1 : Int32) (x2 : Int32) (x3 : Int32) (x4 : Int32) (u : UU), k5 x1 x2 x3 x4 u → WW p l e rm_X5_lossFor s m args below meth c 0 0 (MQ below (QI D A (wH ad cI cZ) Q) args s 0 0 A) A D 5 5 [(0, .ref (ad 11)), (1, .int x1), (2, .int x2), (3, .int x3), (4, .int x4)] [] (wH ad cI cZ u)) : ∀ {x1 : Int32} {x2 : Int32} {x3 : Int32} {x4 : Int32} {u : UU}, m_X5_lossFor_48 N k5 x1 x2 x3 x4 u Q → WW p l e rm_X5_lossFor s m args below meth c 0 0 (MQ below (QI D A (wH ad cI cZ) Q) args s 0 0 A) A D 5 48 [(0, .ref (ad 11)), (1, .int x1), (2, .int x2), (3, .int x3), (4, .int x4)] [] (wH ad cI cZ u) := by
  intro x1 x2 x3 x4 u h
  unfold m_X5_lossFor_48 at h
  obtain ⟨z_1, ez_1⟩ : ∃ z_1 : Int32, z_1 = x4 + (1 : Int32) := ⟨_, rfl⟩
  have h := h z_1 ez_1
  refine ww_iinc (i := 4) (j := 4) (v := z_1) (lv' := [(4, .int z_1), (0, .ref (ad 11)), (1, .int x1), (2, .int x2), (3, .int x3)]) C dX5_lossFor_48 rfl (by rw [ez_1]; rfl) (by decide) rfl ?_
  refine ww_goto (tgt := 5) C dX5_lossFor_51 (by decide) ?_
  refine ww_sub [1, 2, 3, 4, 0] rfl ?_
  exact hk5 _ _ _ _ _ h
set_option maxRecDepth 100000 in
theorem w_X5_lossFor_5 {p : Program} {l : Launch} {e : Env} {s : State} {m : MethodId} {args : Array Value} {below : List Frame} {meth : Method} {c : Code} {A : Nat → Prop} {D : va_G} {ad : Nat → Nat} {kK kV : Nat → Nat} {cI cZ : ClassId} {N : Nat} {Q : Int32 → UU → Prop} (C : Cx p m c cX5_lossFor 5 s args RX5 meth (some .int) A D [(cI, .int), (cZ, .boolean)] (EH kK kV)) : ∀ (n : Nat) (x1 : Int32) (x2 : Int32) (x3 : Int32) (x4 : Int32) (u : UU), m_X5_lossFor_5 N Q n x1 x2 x3 x4 u → WW p l e rm_X5_lossFor s m args below meth c 0 0 (MQ below (QI D A (wH ad cI cZ) Q) args s 0 0 A) A D 5 5 [(0, .ref (ad 11)), (1, .int x1), (2, .int x2), (3, .int x3), (4, .int x4)] [] (wH ad cI cZ u) := by
  intro n
  induction n with
  | zero => intro x1 x2 x3 x4 u h; rw [m_X5_lossFor_5] at h; exact h.elim
  | succ n ih =>
    intro x1 x2 x3 x4 u h
    rw [m_X5_lossFor_5] at h
    refine ww_iload C dX5_lossFor_5 4 rfl ?_
    refine ww_aload_n C dX5_lossFor_7 rfl 0 rfl ?_
    refine ww_get C inX5 rfl 3 (by decide) tb_2_25 HF_11_3 dX5_lossFor_8 ?_
    refine ww_icmp_ge (tgt := 54) C dX5_lossFor_11 (by decide) (fun hc => ?_) (fun hc => ?_)
    · have h := ite_t h hc
      refine ww_iload_n C dX5_lossFor_54 rfl 3 rfl ?_
      exact ww_iret C h dX5_lossFor_55
    · have h := ite_f h hc
      refine ww_aload_n C dX5_lossFor_14 rfl 0 rfl ?_
      refine ww_get C inX5 rfl 1 (by decide) tb_2_23 HF_11_1 dX5_lossFor_15 ?_
      refine ww_iload C dX5_lossFor_18 4 rfl ?_
      obtain ⟨hin, h⟩ := h
      refine ww_iald C 0 rfl HA_38 hin dX5_lossFor_20 ?_
      refine ww_iload_n C dX5_lossFor_21 rfl 1 rfl ?_
      refine ww_icmp_gt (tgt := 48) C dX5_lossFor_22 (by decide) (fun hc => ?_) (fun hc => ?_)
      · have h := ite_t h hc
        exact w_X5_lossFor_48 C ih h
      · have h := ite_f h hc
        refine ww_aload_n C dX5_lossFor_25 rfl 0 rfl ?_
        refine ww_get C inX5 rfl 2 (by decide) tb_2_24 HF_11_2 dX5_lossFor_26 ?_
        refine ww_iload C dX5_lossFor_29 4 rfl ?_
        obtain ⟨hin, h⟩ := h
        refine ww_iald C 0 rfl HA_39 hin dX5_lossFor_31 ?_
        refine ww_iload_n C dX5_lossFor_32 rfl 2 rfl ?_
        refine ww_icmp_gt (tgt := 48) C dX5_lossFor_33 (by decide) (fun hc => ?_) (fun hc => ?_)
        · have h := ite_t h hc
          exact w_X5_lossFor_48 C ih h
        · have h := ite_f h hc
          refine ww_iload_n C dX5_lossFor_36 rfl 3 rfl ?_
          refine ww_aload_n C dX5_lossFor_37 rfl 0 rfl ?_
          refine ww_get C inX5 rfl 0 (by decide) tb_2_22 HF_11_0 dX5_lossFor_38 ?_
          refine ww_iload C dX5_lossFor_41 4 rfl ?_
          obtain ⟨hin, h⟩ := h
          refine ww_iald C 0 rfl HA_37 hin dX5_lossFor_43 ?_
          refine ww_mmax C tb_4_7 tb_2_211 tb_1_14 tb_2_212 ⟨Nat.le_of_ble_eq_true rfl, Nat.le_of_ble_eq_true rfl⟩ ⟨Nat.zero_le _, Nat.zero_le _⟩ dX5_lossFor_44 ?_
          refine ww_nI (fun z_1 ez_1 => ?_)
          have h := h z_1 ez_1
          refine ww_istore_n (i := 3) (lv' := [(3, .int z_1), (0, .ref (ad 11)), (1, .int x1), (2, .int x2), (4, .int x4)]) C dX5_lossFor_47 rfl (by decide) rfl ?_
          refine ww_sub [1, 2, 3, 0, 4] rfl ?_
          exact w_X5_lossFor_48 C ih h
set_option maxRecDepth 100000 in
theorem w_X5_lossFor {p : Program} {l : Launch} {e : Env} {s : State} {m : MethodId} {args : Array Value} {below : List Frame} {meth : Method} {c : Code} {A : Nat → Prop} {D : va_G} {ad : Nat → Nat} {kK kV : Nat → Nat} {cI cZ : ClassId} {N : Nat} {Q : Int32 → UU → Prop} (C : Cx p m c cX5_lossFor 5 s args RX5 meth (some .int) A D [(cI, .int), (cZ, .boolean)] (EH kK kV)) : ∀ {x1 : Int32} {x2 : Int32} {u : UU}, m_X5_lossFor N x1 x2 u Q → WW p l e rm_X5_lossFor s m args below meth c 0 0 (MQ below (QI D A (wH ad cI cZ) Q) args s 0 0 A) A D 5 0 [(0, .ref (ad 11)), (1, .int x1), (2, .int x2)] [] (wH ad cI cZ u) := by
  intro x1 x2 u h
  unfold m_X5_lossFor at h
  refine ww_iconst (v := 0) C dX5_lossFor_0 (by decide) ?_
  refine ww_istore_n (i := 3) (lv' := [(3, .int (0 : Int32)), (0, .ref (ad 11)), (1, .int x1), (2, .int x2)]) C dX5_lossFor_1 rfl (by decide) rfl ?_
  refine ww_iconst (v := 0) C dX5_lossFor_2 (by decide) ?_
  refine ww_istore (i := 4) (lv' := [(4, .int (0 : Int32)), (3, .int (0 : Int32)), (0, .ref (ad 11)), (1, .int x1), (2, .int x2)]) C dX5_lossFor_3 (by decide) rfl ?_
  refine ww_sub [2, 3, 4, 1, 0] rfl ?_
  exact w_X5_lossFor_5 C N _ _ _ _ _ h
theorem c_X5_lossFor {l : Launch} {D : va_G} {ad : Nat → Nat} {kK kV : Nat → Nat} {cI cZ : ClassId} {N : Nat} {x1 : Int32} {x2 : Int32} {u : UU} {Q : Int32 → UU → Prop} (h : m_X5_lossFor N x1 x2 u Q) : MI l D [(cI, .int), (cZ, .boolean)] (EH kK kV) yX5_lossFor (Cond.code yX5_lossFor cX5_lossFor 5 (some .int)) rm_X5_lossFor [.ref (ad 11), .int x1, .int x2] (wH ad cI cZ u) (wH ad cI cZ) Q :=
  MI_of (own := RX5) (by decide) rfl (Nat.le_of_ble_eq_true rfl) rfl (fun p e s m args below meth c A C => w_X5_lossFor C h)
theorem hd_X5_lossFor : yX5_lossFor.cls ≠ "java/lang/invoke/MethodHandle" ∧ yX5_lossFor.cls ≠ "java/lang/invoke/VarHandle" ∧ (parseMethodDescriptor yX5_lossFor.desc).map (fun d => d.parameters.length) = some 2 := by decide +kernel
abbrev rm_X1_has : Room := { frames := 1, cells := 0, slots := 0, locals := 22 }
set_option maxRecDepth 100000 in
theorem w_X1_has {p : Program} {l : Launch} {e : Env} {s : State} {m : MethodId} {args : Array Value} {below : List Frame} {meth : Method} {c : Code} {A : Nat → Prop} {D : va_G} {ad : Nat → Nat} {kK kV : Nat → Nat} {cI cZ : ClassId} {N : Nat} {Q : Int32 → UU → Prop} (C : Cx p m c cX1_has 2 s args RX1 meth (some .boolean) A D [(cI, .int), (cZ, .boolean)] (EH kK kV)) : ∀ {x1 : Int32} {u : UU}, m_X1_has N x1 u Q → WW p l e rm_X1_has s m args below meth c 0 0 (MQ below (QI D A (wH ad cI cZ) Q) args s 0 0 A) A D 2 0 [(0, .ref (ad 10)), (1, .int x1)] [] (wH ad cI cZ u) := by
  intro x1 u h
  unfold m_X1_has at h
  refine ww_iload_n C dX1_has_0 rfl 1 rfl ?_
  refine ww_iconst (v := 0) C dX1_has_1 (by decide) ?_
  refine ww_aload_n C dX1_has_2 rfl 0 rfl ?_
  refine ww_get C inX1 rfl 4 (by decide) tb_2_3 HF_10_4 dX1_has_3 ?_
  refine ww_iconst (v := 1) C dX1_has_6 (by decide) ?_
  refine ww_isub C dX1_has_7 ?_
  refine ww_callSNi (As := [.int x1, .int (0 : Int32), .int ((u.1 14) - (1 : Int32))]) (rest := []) C EH_ok (c_X11_isIn h) (C.2.2.2.2.1.1 _ (List.mem_of_getElem? (i := 13) rfl)) tb_1_1 tb_2_100 tb_2_101 rfl rfl hd_X11_isIn ⟨Nat.le_of_ble_eq_true rfl, Nat.le_of_ble_eq_true rfl⟩ rfl rfl (Nat.le_of_ble_eq_true rfl) dX1_has_8 ⟨Nat.zero_le _, Nat.zero_le _⟩ (fun r_2 u_1 h => ?_)
  exact ww_zret C h.1 h.2 dX1_has_11
theorem c_X1_has {l : Launch} {D : va_G} {ad : Nat → Nat} {kK kV : Nat → Nat} {cI cZ : ClassId} {N : Nat} {x1 : Int32} {u : UU} {Q : Int32 → UU → Prop} (h : m_X1_has N x1 u Q) : MI l D [(cI, .int), (cZ, .boolean)] (EH kK kV) yX1_has (Cond.code yX1_has cX1_has 2 (some .boolean)) rm_X1_has [.ref (ad 10), .int x1] (wH ad cI cZ u) (wH ad cI cZ) Q :=
  MI_of (own := RX1) (by decide) rfl (Nat.le_of_ble_eq_true rfl) rfl (fun p e s m args below meth c A C => w_X1_has C h)
theorem hd_X1_has : yX1_has.cls ≠ "java/lang/invoke/MethodHandle" ∧ yX1_has.cls ≠ "java/lang/invoke/VarHandle" ∧ (parseMethodDescriptor yX1_has.desc).map (fun d => d.parameters.length) = some 1 := by decide +kernel
abbrev rm_X5_holdsBack : Room := { frames := 1, cells := 0, slots := 0, locals := 21 }
set_option maxRecDepth 100000 in
theorem w_X5_holdsBack {p : Program} {l : Launch} {e : Env} {s : State} {m : MethodId} {args : Array Value} {below : List Frame} {meth : Method} {c : Code} {A : Nat → Prop} {D : va_G} {ad : Nat → Nat} {kK kV : Nat → Nat} {cI cZ : ClassId} {N : Nat} {Q : Int32 → UU → Prop} (C : Cx p m c cX5_holdsBack 2 s args RX5 meth (some .boolean) A D [(cI, .int), (cZ, .boolean)] (EH kK kV)) : ∀ {x1 : Int32} {u : UU}, m_X5_holdsBack N x1 u Q → WW p l e rm_X5_holdsBack s m args below meth c 0 0 (MQ below (QI D A (wH ad cI cZ) Q) args s 0 0 A) A D 2 0 [(0, .ref (ad 11)), (1, .int x1)] [] (wH ad cI cZ u) := by
  intro x1 u h
  unfold m_X5_holdsBack at h
  refine ww_aload_n C dX5_holdsBack_0 rfl 0 rfl ?_
  refine ww_get C inX5 rfl 4 (by decide) tb_2_26 HF_11_4 dX5_holdsBack_1 ?_
  refine ww_iconst (v := (-1)) C dX5_holdsBack_4 (by decide) ?_
  refine ww_icmp_eq (tgt := 23) C dX5_holdsBack_5 (by decide) (fun hc => ?_) (fun hc => ?_)
  · have h := ite_t h hc
    refine ww_iconst (v := 0) C dX5_holdsBack_23 (by decide) ?_
    exact ww_zret C h.1 h.2 dX5_holdsBack_24
  · have h := ite_f h hc
    refine ww_iload_n C dX5_holdsBack_8 rfl 1 rfl ?_
    refine ww_mabs C tb_4_0 tb_4_1 tb_1_14 tb_4_2 ⟨Nat.le_of_ble_eq_true rfl, Nat.le_of_ble_eq_true rfl⟩ ⟨Nat.zero_le _, Nat.zero_le _⟩ dX5_holdsBack_9 ?_
    refine ww_aload_n C dX5_holdsBack_12 rfl 0 rfl ?_
    refine ww_get C inX5 rfl 4 (by decide) tb_2_26 HF_11_4 dX5_holdsBack_13 ?_
    refine ww_icmp_le (tgt := 23) C dX5_holdsBack_16 (by decide) (fun hc => ?_) (fun hc => ?_)
    · have h := ite_t h hc
      refine ww_iconst (v := 0) C dX5_holdsBack_23 (by decide) ?_
      exact ww_zret C h.1 h.2 dX5_holdsBack_24
    · have h := ite_f h hc
      refine ww_iconst (v := 1) C dX5_holdsBack_19 (by decide) ?_
      refine ww_goto (tgt := 24) C dX5_holdsBack_20 (by decide) ?_
      exact ww_zret C h.1 h.2 dX5_holdsBack_24
theorem c_X5_holdsBack {l : Launch} {D : va_G} {ad : Nat → Nat} {kK kV : Nat → Nat} {cI cZ : ClassId} {N : Nat} {x1 : Int32} {u : UU} {Q : Int32 → UU → Prop} (h : m_X5_holdsBack N x1 u Q) : MI l D [(cI, .int), (cZ, .boolean)] (EH kK kV) yX5_holdsBack (Cond.code yX5_holdsBack cX5_holdsBack 2 (some .boolean)) rm_X5_holdsBack [.ref (ad 11), .int x1] (wH ad cI cZ u) (wH ad cI cZ) Q :=
  MI_of (own := RX5) (by decide) rfl (Nat.le_of_ble_eq_true rfl) rfl (fun p e s m args below meth c A C => w_X5_holdsBack C h)
theorem hd_X5_holdsBack : yX5_holdsBack.cls ≠ "java/lang/invoke/MethodHandle" ∧ yX5_holdsBack.cls ≠ "java/lang/invoke/VarHandle" ∧ (parseMethodDescriptor yX5_holdsBack.desc).map (fun d => d.parameters.length) = some 1 := by decide +kernel
abbrev rm_X11_judged : Room := { frames := 6, cells := 0, slots := 0, locals := 141 }
set_option maxRecDepth 100000 in
theorem w_X11_judged_106 {p : Program} {l : Launch} {e : Env} {s : State} {m : MethodId} {args : Array Value} {below : List Frame} {meth : Method} {c : Code} {A : Nat → Prop} {D : va_G} {ad : Nat → Nat} {kK kV : Nat → Nat} {cI cZ : ClassId} {N : Nat} {Q : Int32 → UU → Prop} (C : Cx p m c cX11_judged 8 s args RX11 meth (some .int) A D [(cI, .int), (cZ, .boolean)] (EH kK kV)) : ∀ {x1 : Int32} {u : UU}, m_X11_judged_106 N x1 u Q → WW p l e rm_X11_judged s m args below meth c 0 0 (MQ below (QI D A (wH ad cI cZ) Q) args s 0 0 A) A D 8 106 [(0, .ref (ad 0)), (1, .int x1)] [] (wH ad cI cZ u) := by
  intro x1 u h
  unfold m_X11_judged_106 at h
  refine ww_aload_n C dX11_judged_106 rfl 0 rfl ?_
  refine ww_get C inX11 rfl 10 (by decide) tb_2_59 HF_0_10 dX11_judged_107 ?_
  refine ww_aload_n C dX11_judged_110 rfl 0 rfl ?_
  refine ww_get C inX11 rfl 5 (by decide) tb_2_54 HF_0_5 dX11_judged_111 ?_
  refine ww_callVi (As := []) (rest := [.ref (ad 11)]) C EH_ok (c_X2_size h) tb_3_62 tb_3_63 tb_3_64 tb_1_7 tb_3_65 rfl rfl ⟨rfl, hd_X2_size⟩ ⟨Nat.le_of_ble_eq_true rfl, Nat.le_of_ble_eq_true rfl⟩ rfl HF_6_0 rfl rfl (Nat.le_of_ble_eq_true rfl) dX11_judged_114 ⟨Nat.zero_le _, Nat.zero_le _⟩ (fun r_2 u_1 h => ?_)
  refine ww_aload_n C dX11_judged_117 rfl 0 rfl ?_
  refine ww_get C inX11 rfl 5 (by decide) tb_2_54 HF_0_5 dX11_judged_118 ?_
  refine ww_callVi (As := []) (rest := [.int r_2, .ref (ad 11)]) C EH_ok (c_X2_sure h) tb_3_67 tb_3_68 tb_3_69 tb_1_7 tb_3_70 rfl rfl ⟨rfl, hd_X2_sure⟩ ⟨Nat.le_of_ble_eq_true rfl, Nat.le_of_ble_eq_true rfl⟩ rfl HF_6_0 rfl rfl (Nat.le_of_ble_eq_true rfl) dX11_judged_121 ⟨Nat.zero_le _, Nat.zero_le _⟩ (fun r_4 u_3 h => ?_)
  refine ww_callVi (As := [.int r_2, .int r_4]) (rest := []) C EH_ok (c_X5_lossFor h) tb_4_3 tb_4_4 tb_4_5 tb_1_12 tb_4_6 rfl rfl ⟨rfl, hd_X5_lossFor⟩ ⟨Nat.le_of_ble_eq_true rfl, Nat.le_of_ble_eq_true rfl⟩ rfl HF_11_0 rfl rfl (Nat.le_of_ble_eq_true rfl) dX11_judged_124 ⟨Nat.zero_le _, Nat.zero_le _⟩ (fun r_6 u_5 h => ?_)
  refine ww_aload_n C dX11_judged_127 rfl 0 rfl ?_
  refine ww_get C inX11 rfl 9 (by decide) tb_2_58 HF_0_9 dX11_judged_128 ?_
  refine ww_get C inX1 rfl 3 (by decide) tb_2_2 HF_10_3 dX11_judged_131 ?_
  refine ww_iload_n C dX11_judged_134 rfl 1 rfl ?_
  obtain ⟨hin, h⟩ := h
  refine ww_iald C 0 rfl HA_36 hin dX11_judged_135 ?_
  refine ww_mmin C tb_4_8 tb_2_144 tb_1_14 tb_2_145 ⟨Nat.le_of_ble_eq_true rfl, Nat.le_of_ble_eq_true rfl⟩ ⟨Nat.zero_le _, Nat.zero_le _⟩ dX11_judged_136 ?_
  refine ww_nI (fun z_7 ez_7 => ?_)
  have h := h z_7 ez_7
  refine ww_istore (i := 6) (lv' := [(6, .int z_7), (0, .ref (ad 0)), (1, .int x1)]) C dX11_judged_139 (by decide) rfl ?_
  refine ww_iconst (v := 0) C dX11_judged_141 (by decide) ?_
  refine ww_iload C dX11_judged_142 0 rfl ?_
  refine ww_aload_n C dX11_judged_144 rfl 1 rfl ?_
  refine ww_get C inX11 rfl 10 (by decide) tb_2_59 HF_0_10 dX11_judged_145 ?_
  refine ww_get C inX5 rfl 5 (by decide) tb_2_30 HF_11_5 dX11_judged_148 ?_
  refine ww_isub C dX11_judged_151 ?_
  refine ww_mmax C tb_4_9 tb_2_211 tb_1_14 tb_2_212 ⟨Nat.le_of_ble_eq_true rfl, Nat.le_of_ble_eq_true rfl⟩ ⟨Nat.zero_le _, Nat.zero_le _⟩ dX11_judged_152 ?_
  refine ww_nI (fun z_8 ez_8 => ?_)
  have h := h z_8 ez_8
  refine ww_istore (i := 7) (lv' := [(7, .int z_8), (6, .int z_7), (0, .ref (ad 0)), (1, .int x1)]) C dX11_judged_155 (by decide) rfl ?_
  refine ww_aload_n C dX11_judged_157 rfl 2 rfl ?_
  refine ww_get C inX11 rfl 9 (by decide) tb_2_58 HF_0_9 dX11_judged_158 ?_
  refine ww_get C inX1 rfl 2 (by decide) tb_2_0 HF_10_2 dX11_judged_161 ?_
  refine ww_iload_n C dX11_judged_164 rfl 3 rfl ?_
  obtain ⟨hin, h⟩ := h
  refine ww_iald C 0 rfl HA_35 hin dX11_judged_165 ?_
  refine ww_iload C dX11_judged_166 0 rfl ?_
  refine ww_imul C dX11_judged_168 ?_
  refine ww_bipush (v := 100) C dX11_judged_169 (by decide) ?_
  obtain ⟨hz, h⟩ := h
  refine ww_idiv C dX11_judged_171 hz ?_
  exact ww_iret C h dX11_judged_172
set_option maxRecDepth 100000 in
theorem w_X11_judged {p : Program} {l : Launch} {e : Env} {s : State} {m : MethodId} {args : Array Value} {below : List Frame} {meth : Method} {c : Code} {A : Nat → Prop} {D : va_G} {ad : Nat → Nat} {kK kV : Nat → Nat} {cI cZ : ClassId} {N : Nat} {Q : Int32 → UU → Prop} (C : Cx p m c cX11_judged 8 s args RX11 meth (some .int) A D [(cI, .int), (cZ, .boolean)] (EH kK kV)) : ∀ {x1 : Int32} {x2 : Int32} {u : UU}, m_X11_judged N x1 x2 u Q → WW p l e rm_X11_judged s m args below meth c 0 0 (MQ below (QI D A (wH ad cI cZ) Q) args s 0 0 A) A D 8 0 [(0, .ref (ad 0)), (1, .int x1), (2, .int x2)] [] (wH ad cI cZ u) := by
  intro x1 x2 u h
  unfold m_X11_judged at h
  refine ww_aload_n C dX11_judged_0 rfl 0 rfl ?_
  refine ww_get C inX11 rfl 9 (by decide) tb_2_58 HF_0_9 dX11_judged_1 ?_
  refine ww_iload_n C dX11_judged_4 rfl 1 rfl ?_
  refine ww_callVi (As := [.int x1]) (rest := []) C EH_ok (c_X1_has h) tb_3_231 tb_3_232 tb_3_233 tb_1_11 tb_3_234 rfl rfl ⟨rfl, hd_X1_has⟩ ⟨Nat.le_of_ble_eq_true rfl, Nat.le_of_ble_eq_true rfl⟩ rfl HF_10_0 rfl rfl (Nat.le_of_ble_eq_true rfl) dX11_judged_5 ⟨Nat.zero_le _, Nat.zero_le _⟩ (fun r_2 u_1 h => ?_)
  refine ww_if_eq (tgt := 18) C dX11_judged_8 (by decide) (fun hc => ?_) (fun hc => ?_)
  · have h := ite_t h hc
    refine ww_iconst (v := (-1)) C dX11_judged_18 (by decide) ?_
    exact ww_iret C h dX11_judged_19
  · have h := ite_f h hc
    refine ww_iload_n C dX11_judged_11 rfl 2 rfl ?_
    refine ww_callSi (As := [.int x2]) (rest := []) C EH_ok (c_X11_isHour h) tb_2_118 tb_2_119 tb_1_1 tb_2_120 rfl rfl hd_X11_isHour ⟨Nat.le_of_ble_eq_true rfl, Nat.le_of_ble_eq_true rfl⟩ rfl rfl (Nat.le_of_ble_eq_true rfl) dX11_judged_12 ⟨Nat.zero_le _, Nat.zero_le _⟩ (fun r_4 u_3 h => ?_)
    refine ww_if_ne (tgt := 20) C dX11_judged_15 (by decide) (fun hc => ?_) (fun hc => ?_)
    · have h := ite_f h hc
      refine ww_aload_n C dX11_judged_20 rfl 0 rfl ?_
      refine ww_get C inX11 rfl 9 (by decide) tb_2_58 HF_0_9 dX11_judged_21 ?_
      refine ww_get C inX1 rfl 0 (by decide) tb_1_236 HF_10_0 dX11_judged_24 ?_
      refine ww_iload_n C dX11_judged_27 rfl 1 rfl ?_
      obtain ⟨hin, h⟩ := h
      refine ww_iald C 0 rfl HA_33 hin dX11_judged_28 ?_
      refine ww_nI (fun z_5 ez_5 => ?_)
      have h := h z_5 ez_5
      refine ww_istore_n (i := 3) (lv' := [(3, .int z_5), (0, .ref (ad 0)), (1, .int x1), (2, .int x2)]) C dX11_judged_29 rfl (by decide) rfl ?_
      refine ww_aload_n C dX11_judged_30 rfl 1 rfl ?_
      refine ww_get C inX11 rfl 9 (by decide) tb_2_58 HF_0_9 dX11_judged_31 ?_
      refine ww_get C inX1 rfl 1 (by decide) tb_1_238 HF_10_1 dX11_judged_34 ?_
      refine ww_iload_n C dX11_judged_37 rfl 2 rfl ?_
      obtain ⟨hin, h⟩ := h
      refine ww_iald C 0 rfl HA_34 hin dX11_judged_38 ?_
      refine ww_nI (fun z_6 ez_6 => ?_)
      have h := h z_6 ez_6
      refine ww_istore (i := 4) (lv' := [(4, .int z_6), (3, .int z_5), (0, .ref (ad 0)), (1, .int x1), (2, .int x2)]) C dX11_judged_39 (by decide) rfl ?_
      refine ww_aload_n C dX11_judged_41 rfl 2 rfl ?_
      refine ww_get C inX11 rfl 3 (by decide) tb_2_52 HF_0_3 dX11_judged_42 ?_
      refine ww_iload_n C dX11_judged_45 rfl 4 rfl ?_
      refine ww_callVv (As := [.int x2]) (rest := []) C EH_ok (c_X10_show h) tb_2_162 tb_2_163 tb_2_164 tb_1_5 tb_2_165 rfl rfl ⟨rfl, hd_X10_show⟩ ⟨Nat.le_of_ble_eq_true rfl, Nat.le_of_ble_eq_true rfl⟩ rfl HF_4_0 rfl rfl (Nat.le_of_ble_eq_true rfl) dX11_judged_46 ⟨Nat.zero_le _, Nat.zero_le _⟩ (fun u_7 h => ?_)
      refine ww_aload_n C dX11_judged_49 rfl 2 rfl ?_
      refine ww_get C inX11 rfl 5 (by decide) tb_2_54 HF_0_5 dX11_judged_50 ?_
      refine ww_iload_n C dX11_judged_53 rfl 1 rfl ?_
      refine ww_iload C dX11_judged_54 0 rfl ?_
      refine ww_callVi (As := [.int z_5, .int z_6]) (rest := []) C EH_ok (c_X2_look h) tb_3_52 tb_3_53 tb_3_54 tb_1_7 tb_3_55 rfl rfl ⟨rfl, hd_X2_look⟩ ⟨Nat.le_of_ble_eq_true rfl, Nat.le_of_ble_eq_true rfl⟩ rfl HF_6_0 rfl rfl (Nat.le_of_ble_eq_true rfl) dX11_judged_56 ⟨Nat.zero_le _, Nat.zero_le _⟩ (fun r_10 u_9 h => ?_)
      refine ww_if_ne (tgt := 65) C dX11_judged_59 (by decide) (fun hc => ?_) (fun hc => ?_)
      · have h := ite_f h hc
        refine ww_aload_n C dX11_judged_65 rfl 2 rfl ?_
        refine ww_get C inX11 rfl 6 (by decide) tb_2_55 HF_0_6 dX11_judged_66 ?_
        refine ww_iload_n C dX11_judged_69 rfl 1 rfl ?_
        refine ww_iload C dX11_judged_70 0 rfl ?_
        refine ww_callVi (As := [.int z_5, .int z_6]) (rest := []) C EH_ok (c_X4_sizeAt h) tb_3_88 tb_3_89 tb_3_90 tb_1_8 tb_3_91 rfl rfl ⟨rfl, hd_X4_sizeAt⟩ ⟨Nat.le_of_ble_eq_true rfl, Nat.le_of_ble_eq_true rfl⟩ rfl HF_7_0 rfl rfl (Nat.le_of_ble_eq_true rfl) dX11_judged_72 ⟨Nat.zero_le _, Nat.zero_le _⟩ (fun r_12 u_11 h => ?_)
        refine ww_istore (i := 5) (lv' := [(5, .int r_12), (4, .int z_6), (3, .int z_5), (0, .ref (ad 0)), (1, .int x1), (2, .int x2)]) C dX11_judged_75 (by decide) rfl ?_
        refine ww_iload C dX11_judged_77 0 rfl ?_
        refine ww_iconst (v := (-1)) C dX11_judged_79 (by decide) ?_
        refine ww_icmp_eq (tgt := 106) C dX11_judged_80 (by decide) (fun hc => ?_) (fun hc => ?_)
        · have h := ite_t h hc
          refine ww_sub [3, 4] rfl ?_
          exact w_X11_judged_106 C h
        · have h := ite_f h hc
          refine ww_aload_n C dX11_judged_83 rfl 3 rfl ?_
          refine ww_get C inX11 rfl 10 (by decide) tb_2_59 HF_0_10 dX11_judged_84 ?_
          refine ww_iload C dX11_judged_87 0 rfl ?_
          refine ww_aload_n C dX11_judged_89 rfl 3 rfl ?_
          refine ww_get C inX11 rfl 5 (by decide) tb_2_54 HF_0_5 dX11_judged_90 ?_
          refine ww_callVi (As := []) (rest := [.int r_12, .ref (ad 11)]) C EH_ok (c_X2_size h) tb_3_62 tb_3_63 tb_3_64 tb_1_7 tb_3_65 rfl rfl ⟨rfl, hd_X2_size⟩ ⟨Nat.le_of_ble_eq_true rfl, Nat.le_of_ble_eq_true rfl⟩ rfl HF_6_0 rfl rfl (Nat.le_of_ble_eq_true rfl) dX11_judged_93 ⟨Nat.zero_le _, Nat.zero_le _⟩ (fun r_14 u_13 h => ?_)
          refine ww_isub C dX11_judged_96 ?_
          refine ww_callVi (As := [.int (r_12 - r_14)]) (rest := []) C EH_ok (c_X5_holdsBack h) tb_3_236 tb_3_237 tb_3_238 tb_1_12 tb_3_239 rfl rfl ⟨rfl, hd_X5_holdsBack⟩ ⟨Nat.le_of_ble_eq_true rfl, Nat.le_of_ble_eq_true rfl⟩ rfl HF_11_0 rfl rfl (Nat.le_of_ble_eq_true rfl) dX11_judged_97 ⟨Nat.zero_le _, Nat.zero_le _⟩ (fun r_16 u_15 h => ?_)
          refine ww_if_eq (tgt := 106) C dX11_judged_100 (by decide) (fun hc => ?_) (fun hc => ?_)
          · have h := ite_t h hc
            refine ww_sub [3, 4] rfl ?_
            exact w_X11_judged_106 C h
          · have h := ite_f h hc
            refine ww_bipush (v := (-2)) C dX11_judged_103 (by decide) ?_
            exact ww_iret C h dX11_judged_105
      · have h := ite_t h hc
        refine ww_bipush (v := (-2)) C dX11_judged_62 (by decide) ?_
        exact ww_iret C h dX11_judged_64
    · have h := ite_t h hc
      refine ww_iconst (v := (-1)) C dX11_judged_18 (by decide) ?_
      exact ww_iret C h dX11_judged_19
theorem c_X11_judged {l : Launch} {D : va_G} {ad : Nat → Nat} {kK kV : Nat → Nat} {cI cZ : ClassId} {N : Nat} {x1 : Int32} {x2 : Int32} {u : UU} {Q : Int32 → UU → Prop} (h : m_X11_judged N x1 x2 u Q) : MI l D [(cI, .int), (cZ, .boolean)] (EH kK kV) yX11_judged (Cond.code yX11_judged cX11_judged 8 (some .int)) rm_X11_judged [.ref (ad 0), .int x1, .int x2] (wH ad cI cZ u) (wH ad cI cZ) Q :=
  MI_of (own := RX11) (by decide) rfl (Nat.le_of_ble_eq_true rfl) rfl (fun p e s m args below meth c A C => w_X11_judged C h)
theorem hd_X11_judged : yX11_judged.cls ≠ "java/lang/invoke/MethodHandle" ∧ yX11_judged.cls ≠ "java/lang/invoke/VarHandle" ∧ (parseMethodDescriptor yX11_judged.desc).map (fun d => d.parameters.length) = some 2 := by decide +kernel
abbrev rm_X10_spread : Room := { frames := 3, cells := 0, slots := 0, locals := 63 }
set_option maxRecDepth 100000 in
theorem w_X10_spread_59 {p : Program} {l : Launch} {e : Env} {s : State} {m : MethodId} {args : Array Value} {below : List Frame} {meth : Method} {c : Code} {A : Nat → Prop} {D : va_G} {ad : Nat → Nat} {kK kV : Nat → Nat} {cI cZ : ClassId} {N : Nat} {Q : Int32 → UU → Prop} {k19 : Int32 → Int32 → Int32 → Int32 → UU → Prop} (C : Cx p m c cX10_spread 6 s args RX10 meth (some .int) A D [(cI, .int), (cZ, .boolean)] (EH kK kV)) (hk19 : ∀ (x1 : Int32) (x2 : Int32) (x3 : Int32) (x4 : Int32) (u : UU), k19 x1 x2 x3 x4 u → WW p l e rm_X10_spread s m args below meth c 0 0 (MQ below (QI D A (wH ad cI cZ) Q) args s 0 0 A) A D 6 19 [(0, .ref (ad 4)), (1, .int x1), (2, .int x2), (3, .int x3), (4, .int x4)] [] (wH ad cI cZ u)) : ∀ {x1 : Int32} {x2 : Int32} {x3 : Int32} {x4 : Int32} {u : UU}, m_X10_spread_59 N k19 x1 x2 x3 x4 u Q → WW p l e rm_X10_spread s m args below meth c 0 0 (MQ below (QI D A (wH ad cI cZ) Q) args s 0 0 A) A D 6 59 [(0, .ref (ad 4)), (1, .int x1), (2, .int x2), (3, .int x3), (4, .int x4)] [] (wH ad cI cZ u) := by
  intro x1 x2 x3 x4 u h
  unfold m_X10_spread_59 at h
  obtain ⟨z_1, ez_1⟩ : ∃ z_1 : Int32, z_1 = x4 + (1 : Int32) := ⟨_, rfl⟩
  have h := h z_1 ez_1
  refine ww_iinc (i := 4) (j := 4) (v := z_1) (lv' := [(4, .int z_1), (0, .ref (ad 4)), (1, .int x1), (2, .int x2), (3, .int x3)]) C dX10_spread_59 rfl (by rw [ez_1]; rfl) (by decide) rfl ?_
  refine ww_goto (tgt := 19) C dX10_spread_62 (by decide) ?_
  refine ww_sub [1, 2, 3, 4, 0] rfl ?_
  exact hk19 _ _ _ _ _ h
set_option maxRecDepth 100000 in
theorem w_X10_spread_19 {p : Program} {l : Launch} {e : Env} {s : State} {m : MethodId} {args : Array Value} {below : List Frame} {meth : Method} {c : Code} {A : Nat → Prop} {D : va_G} {ad : Nat → Nat} {kK kV : Nat → Nat} {cI cZ : ClassId} {N : Nat} {Q : Int32 → UU → Prop} (C : Cx p m c cX10_spread 6 s args RX10 meth (some .int) A D [(cI, .int), (cZ, .boolean)] (EH kK kV)) : ∀ (n : Nat) (x1 : Int32) (x2 : Int32) (x3 : Int32) (x4 : Int32) (u : UU), m_X10_spread_19 N Q n x1 x2 x3 x4 u → WW p l e rm_X10_spread s m args below meth c 0 0 (MQ below (QI D A (wH ad cI cZ) Q) args s 0 0 A) A D 6 19 [(0, .ref (ad 4)), (1, .int x1), (2, .int x2), (3, .int x3), (4, .int x4)] [] (wH ad cI cZ u) := by
  intro n
  induction n with
  | zero => intro x1 x2 x3 x4 u h; rw [m_X10_spread_19] at h; exact h.elim
  | succ n ih =>
    intro x1 x2 x3 x4 u h
    rw [m_X10_spread_19] at h
    refine ww_iload C dX10_spread_19 4 rfl ?_
    refine ww_bipush (v := 8) C dX10_spread_21 (by decide) ?_
    refine ww_icmp_ge (tgt := 65) C dX10_spread_23 (by decide) (fun hc => ?_) (fun hc => ?_)
    · have h := ite_t h hc
      refine ww_iload_n C dX10_spread_65 rfl 3 rfl ?_
      refine ww_iload_n C dX10_spread_66 rfl 2 rfl ?_
      refine ww_isub C dX10_spread_67 ?_
      exact ww_iret C h dX10_spread_68
    · have h := ite_f h hc
      refine ww_aload_n C dX10_spread_26 rfl 0 rfl ?_
      refine ww_get C inX10 rfl 3 (by decide) tb_1_107 HF_4_3 dX10_spread_27 ?_
      refine ww_iload_n C dX10_spread_30 rfl 1 rfl ?_
      refine ww_bipush (v := 8) C dX10_spread_31 (by decide) ?_
      refine ww_imul C dX10_spread_33 ?_
      refine ww_iload C dX10_spread_34 4 rfl ?_
      refine ww_iadd C dX10_spread_36 ?_
      obtain ⟨hin, h⟩ := h
      refine ww_iald C 0 rfl HA_22 hin dX10_spread_37 ?_
      refine ww_nI (fun z_1 ez_1 => ?_)
      have h := h z_1 ez_1
      refine ww_istore (i := 5) (lv' := [(5, .int z_1), (0, .ref (ad 4)), (1, .int x1), (2, .int x2), (3, .int x3), (4, .int x4)]) C dX10_spread_38 (by decide) rfl ?_
      refine ww_iload C dX10_spread_40 0 rfl ?_
      refine ww_if_le (tgt := 59) C dX10_spread_42 (by decide) (fun hc => ?_) (fun hc => ?_)
      · have h := ite_t h hc
        refine ww_sub [1, 2, 3, 4, 5] rfl ?_
        exact w_X10_spread_59 C ih h
      · have h := ite_f h hc
        refine ww_iload_n C dX10_spread_45 rfl 3 rfl ?_
        refine ww_iload C dX10_spread_46 0 rfl ?_
        refine ww_mmin C tb_2_185 tb_2_144 tb_1_14 tb_2_145 ⟨Nat.le_of_ble_eq_true rfl, Nat.le_of_ble_eq_true rfl⟩ ⟨Nat.zero_le _, Nat.zero_le _⟩ dX10_spread_48 ?_
        refine ww_nI (fun z_2 ez_2 => ?_)
        have h := h z_2 ez_2
        refine ww_istore_n (i := 2) (lv' := [(2, .int z_2), (5, .int z_1), (0, .ref (ad 4)), (1, .int x1), (3, .int x3), (4, .int x4)]) C dX10_spread_51 rfl (by decide) rfl ?_
        refine ww_iload_n C dX10_spread_52 rfl 4 rfl ?_
        refine ww_iload C dX10_spread_53 1 rfl ?_
        refine ww_mmax C tb_2_210 tb_2_211 tb_1_14 tb_2_212 ⟨Nat.le_of_ble_eq_true rfl, Nat.le_of_ble_eq_true rfl⟩ ⟨Nat.zero_le _, Nat.zero_le _⟩ dX10_spread_55 ?_
        refine ww_nI (fun z_3 ez_3 => ?_)
        have h := h z_3 ez_3
        refine ww_istore_n (i := 3) (lv' := [(3, .int z_3), (2, .int z_2), (5, .int z_1), (0, .ref (ad 4)), (1, .int x1), (4, .int x4)]) C dX10_spread_58 rfl (by decide) rfl ?_
        refine ww_sub [3, 4, 1, 0, 5] rfl ?_
        exact w_X10_spread_59 C ih h
set_option maxRecDepth 100000 in
theorem w_X10_spread {p : Program} {l : Launch} {e : Env} {s : State} {m : MethodId} {args : Array Value} {below : List Frame} {meth : Method} {c : Code} {A : Nat → Prop} {D : va_G} {ad : Nat → Nat} {kK kV : Nat → Nat} {cI cZ : ClassId} {N : Nat} {Q : Int32 → UU → Prop} (C : Cx p m c cX10_spread 6 s args RX10 meth (some .int) A D [(cI, .int), (cZ, .boolean)] (EH kK kV)) : ∀ {x1 : Int32} {u : UU}, m_X10_spread N x1 u Q → WW p l e rm_X10_spread s m args below meth c 0 0 (MQ below (QI D A (wH ad cI cZ) Q) args s 0 0 A) A D 6 0 [(0, .ref (ad 4)), (1, .int x1)] [] (wH ad cI cZ u) := by
  intro x1 u h
  unfold m_X10_spread at h
  refine ww_aload_n C dX10_spread_0 rfl 0 rfl ?_
  refine ww_iload_n C dX10_spread_1 rfl 1 rfl ?_
  refine ww_callVi (As := [.int x1]) (rest := []) C EH_ok (c_X10_handsOf h) tb_2_238 tb_2_199 tb_2_200 tb_1_5 tb_2_201 rfl rfl ⟨rfl, hd_X10_handsOf⟩ ⟨Nat.le_of_ble_eq_true rfl, Nat.le_of_ble_eq_true rfl⟩ rfl HF_4_0 rfl rfl (Nat.le_of_ble_eq_true rfl) dX10_spread_2 ⟨Nat.zero_le _, Nat.zero_le _⟩ (fun r_2 u_1 h => ?_)
  refine ww_if_ne (tgt := 10) C dX10_spread_5 (by decide) (fun hc => ?_) (fun hc => ?_)
  · have h := ite_f h hc
    refine ww_sipush (v := 400) C dX10_spread_10 (by decide) ?_
    refine ww_istore_n (i := 2) (lv' := [(2, .int (400 : Int32)), (0, .ref (ad 4)), (1, .int x1)]) C dX10_spread_13 rfl (by decide) rfl ?_
    refine ww_iconst (v := 0) C dX10_spread_14 (by decide) ?_
    refine ww_istore_n (i := 3) (lv' := [(3, .int (0 : Int32)), (2, .int (400 : Int32)), (0, .ref (ad 4)), (1, .int x1)]) C dX10_spread_15 rfl (by decide) rfl ?_
    refine ww_iconst (v := 0) C dX10_spread_16 (by decide) ?_
    refine ww_istore (i := 4) (lv' := [(4, .int (0 : Int32)), (3, .int (0 : Int32)), (2, .int (400 : Int32)), (0, .ref (ad 4)), (1, .int x1)]) C dX10_spread_17 (by decide) rfl ?_
    refine ww_sub [3, 4, 2, 1, 0] rfl ?_
    exact w_X10_spread_19 C N _ _ _ _ _ h
  · have h := ite_t h hc
    refine ww_iconst (v := 0) C dX10_spread_8 (by decide) ?_
    exact ww_iret C h dX10_spread_9
theorem c_X10_spread {l : Launch} {D : va_G} {ad : Nat → Nat} {kK kV : Nat → Nat} {cI cZ : ClassId} {N : Nat} {x1 : Int32} {u : UU} {Q : Int32 → UU → Prop} (h : m_X10_spread N x1 u Q) : MI l D [(cI, .int), (cZ, .boolean)] (EH kK kV) yX10_spread (Cond.code yX10_spread cX10_spread 6 (some .int)) rm_X10_spread [.ref (ad 4), .int x1] (wH ad cI cZ u) (wH ad cI cZ) Q :=
  MI_of (own := RX10) (by decide) rfl (Nat.le_of_ble_eq_true rfl) rfl (fun p e s m args below meth c A C => w_X10_spread C h)
theorem hd_X10_spread : yX10_spread.cls ≠ "java/lang/invoke/MethodHandle" ∧ yX10_spread.cls ≠ "java/lang/invoke/VarHandle" ∧ (parseMethodDescriptor yX10_spread.desc).map (fun d => d.parameters.length) = some 1 := by decide +kernel
abbrev rm_X11_quarrel : Room := { frames := 5, cells := 0, slots := 0, locals := 110 }
set_option maxRecDepth 100000 in
theorem w_X11_quarrel_33 {p : Program} {l : Launch} {e : Env} {s : State} {m : MethodId} {args : Array Value} {below : List Frame} {meth : Method} {c : Code} {A : Nat → Prop} {D : va_G} {ad : Nat → Nat} {kK kV : Nat → Nat} {cI cZ : ClassId} {N : Nat} {Q : Int32 → UU → Prop} (C : Cx p m c cX11_quarrel 5 s args RX11 meth (some .int) A D [(cI, .int), (cZ, .boolean)] (EH kK kV)) : ∀ (n : Nat) (x1 : Int32) (x3 : Int32) (x4 : Int32) (u : UU), m_X11_quarrel_33 N Q n x1 x3 x4 u → WW p l e rm_X11_quarrel s m args below meth c 0 0 (MQ below (QI D A (wH ad cI cZ) Q) args s 0 0 A) A D 5 33 [(0, .ref (ad 0)), (1, .int x1), (3, .int x3), (4, .int x4)] [] (wH ad cI cZ u) := by
  intro n
  induction n with
  | zero => intro x1 x3 x4 u h; rw [m_X11_quarrel_33] at h; exact h.elim
  | succ n ih =>
    intro x1 x3 x4 u h
    rw [m_X11_quarrel_33] at h
    refine ww_iload C dX11_quarrel_33 3 rfl ?_
    refine ww_bipush (v := 10) C dX11_quarrel_35 (by decide) ?_
    refine ww_icmp_ge (tgt := 65) C dX11_quarrel_37 (by decide) (fun hc => ?_) (fun hc => ?_)
    · have h := ite_t h hc
      refine ww_iload_n C dX11_quarrel_65 rfl 2 rfl ?_
      exact ww_iret C h dX11_quarrel_66
    · have h := ite_f h hc
      refine ww_iload_n C dX11_quarrel_40 rfl 2 rfl ?_
      refine ww_aload_n C dX11_quarrel_41 rfl 0 rfl ?_
      refine ww_get C inX11 rfl 3 (by decide) tb_2_52 HF_0_3 dX11_quarrel_42 ?_
      refine ww_iload_n C dX11_quarrel_45 rfl 1 rfl ?_
      refine ww_bipush (v := 10) C dX11_quarrel_46 (by decide) ?_
      refine ww_imul C dX11_quarrel_48 ?_
      refine ww_iload C dX11_quarrel_49 3 rfl ?_
      refine ww_iadd C dX11_quarrel_51 ?_
      refine ww_callVi (As := [.int ((x1 * (10 : Int32)) + x4)]) (rest := [.int x3]) C EH_ok (c_X10_spread h) tb_4_14 tb_4_15 tb_4_16 tb_1_5 tb_4_17 rfl rfl ⟨rfl, hd_X10_spread⟩ ⟨Nat.le_of_ble_eq_true rfl, Nat.le_of_ble_eq_true rfl⟩ rfl HF_4_0 rfl rfl (Nat.le_of_ble_eq_true rfl) dX11_quarrel_52 ⟨Nat.zero_le _, Nat.zero_le _⟩ (fun r_2 u_1 h => ?_)
      refine ww_mmax C tb_4_9 tb_2_211 tb_1_14 tb_2_212 ⟨Nat.le_of_ble_eq_true rfl, Nat.le_of_ble_eq_true rfl⟩ ⟨Nat.zero_le _, Nat.zero_le _⟩ dX11_quarrel_55 ?_
      refine ww_nI (fun z_3 ez_3 => ?_)
      have h := h z_3 ez_3
      refine ww_istore_n (i := 3) (lv' := [(3, .int z_3), (0, .ref (ad 0)), (1, .int x1), (4, .int x4)]) C dX11_quarrel_58 rfl (by decide) rfl ?_
      obtain ⟨z_4, ez_4⟩ : ∃ z_4 : Int32, z_4 = x4 + (1 : Int32) := ⟨_, rfl⟩
      have h := h z_4 ez_4
      refine ww_iinc (i := 4) (j := 3) (v := z_4) (lv' := [(4, .int z_4), (3, .int z_3), (0, .ref (ad 0)), (1, .int x1)]) C dX11_quarrel_59 rfl (by rw [ez_4]; rfl) (by decide) rfl ?_
      refine ww_goto (tgt := 33) C dX11_quarrel_62 (by decide) ?_
      refine ww_sub [2, 3, 1, 0] rfl ?_
      exact ih _ _ _ _ h
set_option maxRecDepth 100000 in
theorem w_X11_quarrel {p : Program} {l : Launch} {e : Env} {s : State} {m : MethodId} {args : Array Value} {below : List Frame} {meth : Method} {c : Code} {A : Nat → Prop} {D : va_G} {ad : Nat → Nat} {kK kV : Nat → Nat} {cI cZ : ClassId} {N : Nat} {Q : Int32 → UU → Prop} (C : Cx p m c cX11_quarrel 5 s args RX11 meth (some .int) A D [(cI, .int), (cZ, .boolean)] (EH kK kV)) : ∀ {x1 : Int32} {x2 : Int32} {u : UU}, m_X11_quarrel N x1 x2 u Q → WW p l e rm_X11_quarrel s m args below meth c 0 0 (MQ below (QI D A (wH ad cI cZ) Q) args s 0 0 A) A D 5 0 [(0, .ref (ad 0)), (1, .int x1), (2, .int x2)] [] (wH ad cI cZ u) := by
  intro x1 x2 u h
  unfold m_X11_quarrel at h
  refine ww_aload_n C dX11_quarrel_0 rfl 0 rfl ?_
  refine ww_get C inX11 rfl 0 (by decide) tb_2_49 HF_0_0 dX11_quarrel_1 ?_
  refine ww_iload_n C dX11_quarrel_4 rfl 1 rfl ?_
  refine ww_callVi (As := [.int x1]) (rest := []) C EH_ok (c_X0_has h) tb_2_121 tb_2_122 tb_2_123 tb_1_2 tb_2_124 rfl rfl ⟨rfl, hd_X0_has⟩ ⟨Nat.le_of_ble_eq_true rfl, Nat.le_of_ble_eq_true rfl⟩ rfl HF_1_0 rfl rfl (Nat.le_of_ble_eq_true rfl) dX11_quarrel_5 ⟨Nat.zero_le _, Nat.zero_le _⟩ (fun r_2 u_1 h => ?_)
  refine ww_if_eq (tgt := 18) C dX11_quarrel_8 (by decide) (fun hc => ?_) (fun hc => ?_)
  · have h := ite_t h hc
    refine ww_iconst (v := (-1)) C dX11_quarrel_18 (by decide) ?_
    exact ww_iret C h dX11_quarrel_19
  · have h := ite_f h hc
    refine ww_iload_n C dX11_quarrel_11 rfl 2 rfl ?_
    refine ww_callSi (As := [.int x2]) (rest := []) C EH_ok (c_X11_isHour h) tb_2_118 tb_2_119 tb_1_1 tb_2_120 rfl rfl hd_X11_isHour ⟨Nat.le_of_ble_eq_true rfl, Nat.le_of_ble_eq_true rfl⟩ rfl rfl (Nat.le_of_ble_eq_true rfl) dX11_quarrel_12 ⟨Nat.zero_le _, Nat.zero_le _⟩ (fun r_4 u_3 h => ?_)
    refine ww_if_ne (tgt := 20) C dX11_quarrel_15 (by decide) (fun hc => ?_) (fun hc => ?_)
    · have h := ite_f h hc
      refine ww_aload_n C dX11_quarrel_20 rfl 0 rfl ?_
      refine ww_get C inX11 rfl 3 (by decide) tb_2_52 HF_0_3 dX11_quarrel_21 ?_
      refine ww_iload_n C dX11_quarrel_24 rfl 2 rfl ?_
      refine ww_callVv (As := [.int x2]) (rest := []) C EH_ok (c_X10_show h) tb_2_162 tb_2_163 tb_2_164 tb_1_5 tb_2_165 rfl rfl ⟨rfl, hd_X10_show⟩ ⟨Nat.le_of_ble_eq_true rfl, Nat.le_of_ble_eq_true rfl⟩ rfl HF_4_0 rfl rfl (Nat.le_of_ble_eq_true rfl) dX11_quarrel_25 ⟨Nat.zero_le _, Nat.zero_le _⟩ (fun u_5 h => ?_)
      refine ww_iconst (v := 0) C dX11_quarrel_28 (by decide) ?_
      refine ww_istore_n (i := 3) (lv' := [(3, .int (0 : Int32)), (0, .ref (ad 0)), (1, .int x1), (2, .int x2)]) C dX11_quarrel_29 rfl (by decide) rfl ?_
      refine ww_iconst (v := 0) C dX11_quarrel_30 (by decide) ?_
      refine ww_istore (i := 4) (lv' := [(4, .int (0 : Int32)), (3, .int (0 : Int32)), (0, .ref (ad 0)), (1, .int x1), (2, .int x2)]) C dX11_quarrel_31 (by decide) rfl ?_
      refine ww_sub [2, 3, 1, 0] rfl ?_
      exact w_X11_quarrel_33 C N _ _ _ _ h
    · have h := ite_t h hc
      refine ww_iconst (v := (-1)) C dX11_quarrel_18 (by decide) ?_
      exact ww_iret C h dX11_quarrel_19
theorem c_X11_quarrel {l : Launch} {D : va_G} {ad : Nat → Nat} {kK kV : Nat → Nat} {cI cZ : ClassId} {N : Nat} {x1 : Int32} {x2 : Int32} {u : UU} {Q : Int32 → UU → Prop} (h : m_X11_quarrel N x1 x2 u Q) : MI l D [(cI, .int), (cZ, .boolean)] (EH kK kV) yX11_quarrel (Cond.code yX11_quarrel cX11_quarrel 5 (some .int)) rm_X11_quarrel [.ref (ad 0), .int x1, .int x2] (wH ad cI cZ u) (wH ad cI cZ) Q :=
  MI_of (own := RX11) (by decide) rfl (Nat.le_of_ble_eq_true rfl) rfl (fun p e s m args below meth c A C => w_X11_quarrel C h)
theorem hd_X11_quarrel : yX11_quarrel.cls ≠ "java/lang/invoke/MethodHandle" ∧ yX11_quarrel.cls ≠ "java/lang/invoke/VarHandle" ∧ (parseMethodDescriptor yX11_quarrel.desc).map (fun d => d.parameters.length) = some 2 := by decide +kernel
abbrev rm_X4_howManyTold : Room := { frames := 0, cells := 0, slots := 0, locals := 0 }
set_option maxRecDepth 100000 in
theorem w_X4_howManyTold_33 {p : Program} {l : Launch} {e : Env} {s : State} {m : MethodId} {args : Array Value} {below : List Frame} {meth : Method} {c : Code} {A : Nat → Prop} {D : va_G} {ad : Nat → Nat} {kK kV : Nat → Nat} {cI cZ : ClassId} {N : Nat} {Q : Int32 → UU → Prop} {k13 : Int32 → Int32 → Int32 → UU → Prop} (C : Cx p m c cX4_howManyTold 6 s args RX4 meth (some .int) A D [(cI, .int), (cZ, .boolean)] (EH kK kV)) (hk13 : ∀ (x1 : Int32) (x3 : Int32) (x4 : Int32) (u : UU), k13 x1 x3 x4 u → WW p l e rm_X4_howManyTold s m args below meth c 0 0 (MQ below (QI D A (wH ad cI cZ) Q) args s 0 0 A) A D 6 13 [(1, .int x1), (2, .ref (ad 31)), (3, .int x3), (4, .int x4)] [] (wH ad cI cZ u)) : ∀ {x1 : Int32} {x3 : Int32} {x4 : Int32} {u : UU}, m_X4_howManyTold_33 N k13 x1 x3 x4 u Q → WW p l e rm_X4_howManyTold s m args below meth c 0 0 (MQ below (QI D A (wH ad cI cZ) Q) args s 0 0 A) A D 6 33 [(1, .int x1), (2, .ref (ad 31)), (3, .int x3), (4, .int x4)] [] (wH ad cI cZ u) := by
  intro x1 x3 x4 u h
  unfold m_X4_howManyTold_33 at h
  obtain ⟨z_1, ez_1⟩ : ∃ z_1 : Int32, z_1 = x4 + (1 : Int32) := ⟨_, rfl⟩
  have h := h z_1 ez_1
  refine ww_iinc (i := 4) (j := 3) (v := z_1) (lv' := [(4, .int z_1), (1, .int x1), (2, .ref (ad 31)), (3, .int x3)]) C dX4_howManyTold_33 rfl (by rw [ez_1]; rfl) (by decide) rfl ?_
  refine ww_goto (tgt := 13) C dX4_howManyTold_36 (by decide) ?_
  refine ww_sub [1, 2, 3, 0] rfl ?_
  exact hk13 _ _ _ _ h
set_option maxRecDepth 100000 in
theorem w_X4_howManyTold_13 {p : Program} {l : Launch} {e : Env} {s : State} {m : MethodId} {args : Array Value} {below : List Frame} {meth : Method} {c : Code} {A : Nat → Prop} {D : va_G} {ad : Nat → Nat} {kK kV : Nat → Nat} {cI cZ : ClassId} {N : Nat} {Q : Int32 → UU → Prop} (C : Cx p m c cX4_howManyTold 6 s args RX4 meth (some .int) A D [(cI, .int), (cZ, .boolean)] (EH kK kV)) : ∀ (n : Nat) (x1 : Int32) (x3 : Int32) (x4 : Int32) (u : UU), m_X4_howManyTold_13 N Q n x1 x3 x4 u → WW p l e rm_X4_howManyTold s m args below meth c 0 0 (MQ below (QI D A (wH ad cI cZ) Q) args s 0 0 A) A D 6 13 [(1, .int x1), (2, .ref (ad 31)), (3, .int x3), (4, .int x4)] [] (wH ad cI cZ u) := by
  intro n
  induction n with
  | zero => intro x1 x3 x4 u h; rw [m_X4_howManyTold_13] at h; exact h.elim
  | succ n ih =>
    intro x1 x3 x4 u h
    rw [m_X4_howManyTold_13] at h
    refine ww_iload C dX4_howManyTold_13 3 rfl ?_
    refine ww_iload_n C dX4_howManyTold_15 rfl 2 rfl ?_
    refine ww_icmp_ge (tgt := 39) C dX4_howManyTold_16 (by decide) (fun hc => ?_) (fun hc => ?_)
    · have h := ite_t h hc
      refine ww_iload_n C dX4_howManyTold_39 rfl 0 rfl ?_
      exact ww_iret C h dX4_howManyTold_40
    · have h := ite_f h hc
      refine ww_aload_n C dX4_howManyTold_19 rfl 1 rfl ?_
      refine ww_iload C dX4_howManyTold_20 3 rfl ?_
      obtain ⟨hin, h⟩ := h
      refine ww_iald C 0 rfl HA_31 hin dX4_howManyTold_22 ?_
      refine ww_nI (fun z_1 ez_1 => ?_)
      have h := h z_1 ez_1
      refine ww_istore (i := 5) (lv' := [(5, .int z_1), (1, .int x1), (2, .ref (ad 31)), (3, .int x3), (4, .int x4)]) C dX4_howManyTold_23 (by decide) rfl ?_
      refine ww_iload C dX4_howManyTold_25 0 rfl ?_
      refine ww_if_eq (tgt := 33) C dX4_howManyTold_27 (by decide) (fun hc => ?_) (fun hc => ?_)
      · have h := ite_t h hc
        refine ww_sub [1, 2, 3, 4] rfl ?_
        exact w_X4_howManyTold_33 C ih h
      · have h := ite_f h hc
        obtain ⟨z_2, ez_2⟩ : ∃ z_2 : Int32, z_2 = x1 + (1 : Int32) := ⟨_, rfl⟩
        have h := h z_2 ez_2
        refine ww_iinc (i := 1) (j := 1) (v := z_2) (lv' := [(1, .int z_2), (5, .int z_1), (2, .ref (ad 31)), (3, .int x3), (4, .int x4)]) C dX4_howManyTold_30 rfl (by rw [ez_2]; rfl) (by decide) rfl ?_
        refine ww_sub [0, 2, 3, 4] rfl ?_
        exact w_X4_howManyTold_33 C ih h
set_option maxRecDepth 100000 in
theorem w_X4_howManyTold {p : Program} {l : Launch} {e : Env} {s : State} {m : MethodId} {args : Array Value} {below : List Frame} {meth : Method} {c : Code} {A : Nat → Prop} {D : va_G} {ad : Nat → Nat} {kK kV : Nat → Nat} {cI cZ : ClassId} {N : Nat} {Q : Int32 → UU → Prop} (C : Cx p m c cX4_howManyTold 6 s args RX4 meth (some .int) A D [(cI, .int), (cZ, .boolean)] (EH kK kV)) : ∀ {u : UU}, m_X4_howManyTold N  u Q → WW p l e rm_X4_howManyTold s m args below meth c 0 0 (MQ below (QI D A (wH ad cI cZ) Q) args s 0 0 A) A D 6 0 [(0, .ref (ad 7))] [] (wH ad cI cZ u) := by
  intro  u h
  unfold m_X4_howManyTold at h
  refine ww_iconst (v := 0) C dX4_howManyTold_0 (by decide) ?_
  refine ww_istore_n (i := 1) (lv' := [(1, .int (0 : Int32)), (0, .ref (ad 7))]) C dX4_howManyTold_1 rfl (by decide) rfl ?_
  refine ww_aload_n C dX4_howManyTold_2 rfl 1 rfl ?_
  refine ww_get C inX4 rfl 0 (by decide) tb_1_191 HF_7_0 dX4_howManyTold_3 ?_
  refine ww_astore_n (i := 2) (lv' := [(2, .ref (ad 31)), (1, .int (0 : Int32)), (0, .ref (ad 7))]) C dX4_howManyTold_6 rfl (by decide) rfl ?_
  refine ww_aload_n C dX4_howManyTold_7 rfl 0 rfl ?_
  refine ww_alen (v := 64) C 0 rfl HA_31 (by decide) dX4_howManyTold_8 ?_
  refine ww_istore_n (i := 3) (lv' := [(3, .int (64 : Int32)), (2, .ref (ad 31)), (1, .int (0 : Int32)), (0, .ref (ad 7))]) C dX4_howManyTold_9 rfl (by decide) rfl ?_
  refine ww_iconst (v := 0) C dX4_howManyTold_10 (by decide) ?_
  refine ww_istore (i := 4) (lv' := [(4, .int (0 : Int32)), (3, .int (64 : Int32)), (2, .ref (ad 31)), (1, .int (0 : Int32)), (0, .ref (ad 7))]) C dX4_howManyTold_11 (by decide) rfl ?_
  refine ww_sub [3, 2, 1, 0] rfl ?_
  exact w_X4_howManyTold_13 C N _ _ _ _ h
theorem c_X4_howManyTold {l : Launch} {D : va_G} {ad : Nat → Nat} {kK kV : Nat → Nat} {cI cZ : ClassId} {N : Nat}  {u : UU} {Q : Int32 → UU → Prop} (h : m_X4_howManyTold N  u Q) : MI l D [(cI, .int), (cZ, .boolean)] (EH kK kV) yX4_howManyTold (Cond.code yX4_howManyTold cX4_howManyTold 6 (some .int)) rm_X4_howManyTold [.ref (ad 7)] (wH ad cI cZ u) (wH ad cI cZ) Q :=
  MI_of (own := RX4) (by decide) rfl (Nat.le_of_ble_eq_true rfl) rfl (fun p e s m args below meth c A C => w_X4_howManyTold C h)
theorem hd_X4_howManyTold : yX4_howManyTold.cls ≠ "java/lang/invoke/MethodHandle" ∧ yX4_howManyTold.cls ≠ "java/lang/invoke/VarHandle" ∧ (parseMethodDescriptor yX4_howManyTold.desc).map (fun d => d.parameters.length) = some 0 := by decide +kernel
abbrev rm_X11_count : Room := { frames := 1, cells := 0, slots := 0, locals := 25 }
set_option maxRecDepth 100000 in
theorem w_X11_count {p : Program} {l : Launch} {e : Env} {s : State} {m : MethodId} {args : Array Value} {below : List Frame} {meth : Method} {c : Code} {A : Nat → Prop} {D : va_G} {ad : Nat → Nat} {kK kV : Nat → Nat} {cI cZ : ClassId} {N : Nat} {Q : Int32 → UU → Prop} (C : Cx p m c cX11_count 2 s args RX11 meth (some .int) A D [(cI, .int), (cZ, .boolean)] (EH kK kV)) : ∀ {x1 : Int32} {u : UU}, m_X11_count N x1 u Q → WW p l e rm_X11_count s m args below meth c 0 0 (MQ below (QI D A (wH ad cI cZ) Q) args s 0 0 A) A D 2 0 [(0, .ref (ad 0)), (1, .int x1)] [] (wH ad cI cZ u) := by
  intro x1 u h
  unfold m_X11_count at h
  refine ww_iload_n C dX11_count_0 rfl 1 rfl ?_
  by_cases hs0 : x1 = 0
  · have h := ite_t h hs0
    refine ww_tableIn (off := 39) (tgt := 40) C dX11_count_1 (by rw [hs0]; decide) (by rw [hs0]; decide) (by rw [hs0]; rfl) (by decide) ?_
    refine ww_aload_n C dX11_count_40 rfl 0 rfl ?_
    refine ww_get C inX11 rfl 0 (by decide) tb_2_49 HF_0_0 dX11_count_41 ?_
    refine ww_get C inX0 rfl 3 (by decide) tb_1_44 HF_1_3 dX11_count_44 ?_
    exact ww_iret C h dX11_count_47
  have h := ite_f h hs0
  by_cases hs1 : x1 = 1
  · have h := ite_t h hs1
    refine ww_tableIn (off := 47) (tgt := 48) C dX11_count_1 (by rw [hs1]; decide) (by rw [hs1]; decide) (by rw [hs1]; rfl) (by decide) ?_
    refine ww_aload_n C dX11_count_48 rfl 0 rfl ?_
    refine ww_get C inX11 rfl 1 (by decide) tb_2_50 HF_0_1 dX11_count_49 ?_
    refine ww_get C inX3 rfl 4 (by decide) tb_1_72 HF_2_4 dX11_count_52 ?_
    exact ww_iret C h dX11_count_55
  have h := ite_f h hs1
  by_cases hs2 : x1 = 2
  · have h := ite_t h hs2
    refine ww_tableIn (off := 55) (tgt := 56) C dX11_count_1 (by rw [hs2]; decide) (by rw [hs2]; decide) (by rw [hs2]; rfl) (by decide) ?_
    refine ww_aload_n C dX11_count_56 rfl 0 rfl ?_
    refine ww_get C inX11 rfl 10 (by decide) tb_2_59 HF_0_10 dX11_count_57 ?_
    refine ww_get C inX5 rfl 6 (by decide) tb_2_33 HF_11_6 dX11_count_60 ?_
    exact ww_iret C h dX11_count_63
  have h := ite_f h hs2
  by_cases hs3 : x1 = 3
  · have h := ite_t h hs3
    refine ww_tableIn (off := 63) (tgt := 64) C dX11_count_1 (by rw [hs3]; decide) (by rw [hs3]; decide) (by rw [hs3]; rfl) (by decide) ?_
    refine ww_aload_n C dX11_count_64 rfl 0 rfl ?_
    refine ww_get C inX11 rfl 9 (by decide) tb_2_58 HF_0_9 dX11_count_65 ?_
    refine ww_get C inX1 rfl 4 (by decide) tb_2_4 HF_10_4 dX11_count_68 ?_
    exact ww_iret C h dX11_count_71
  have h := ite_f h hs3
  by_cases hs4 : x1 = 4
  · have h := ite_t h hs4
    refine ww_tableIn (off := 71) (tgt := 72) C dX11_count_1 (by rw [hs4]; decide) (by rw [hs4]; decide) (by rw [hs4]; rfl) (by decide) ?_
    refine ww_aload_n C dX11_count_72 rfl 0 rfl ?_
    refine ww_get C inX11 rfl 7 (by decide) tb_2_56 HF_0_7 dX11_count_73 ?_
    refine ww_get C inX8 rfl 1 (by decide) tb_1_204 HF_8_1 dX11_count_76 ?_
    exact ww_iret C h dX11_count_79
  have h := ite_f h hs4
  by_cases hs5 : x1 = 5
  · have h := ite_t h hs5
    refine ww_tableIn (off := 79) (tgt := 80) C dX11_count_1 (by rw [hs5]; decide) (by rw [hs5]; decide) (by rw [hs5]; rfl) (by decide) ?_
    refine ww_aload_n C dX11_count_80 rfl 0 rfl ?_
    refine ww_get C inX11 rfl 6 (by decide) tb_2_55 HF_0_6 dX11_count_81 ?_
    refine ww_callVi (As := []) (rest := []) C EH_ok (c_X4_howManyTold h) tb_4_22 tb_4_23 tb_4_24 tb_1_8 tb_4_25 rfl rfl ⟨rfl, hd_X4_howManyTold⟩ ⟨Nat.le_of_ble_eq_true rfl, Nat.le_of_ble_eq_true rfl⟩ rfl HF_7_0 rfl rfl (Nat.le_of_ble_eq_true rfl) dX11_count_84 ⟨Nat.zero_le _, Nat.zero_le _⟩ (fun r_2 u_1 h => ?_)
    exact ww_iret C h dX11_count_87
  have h := ite_f h hs5
  refine ww_tableOut (tgt := 88) C dX11_count_1 (by have a0 := sw_ne (k := 0) hs0 (by decide); have a1 := sw_ne (k := 1) hs1 (by decide); have a2 := sw_ne (k := 2) hs2 (by decide); have a3 := sw_ne (k := 3) hs3 (by decide); have a4 := sw_ne (k := 4) hs4 (by decide); have a5 := sw_ne (k := 5) hs5 (by decide); omega) (by decide) ?_
  refine ww_iconst (v := (-1)) C dX11_count_88 (by decide) ?_
  exact ww_iret C h dX11_count_89
theorem c_X11_count {l : Launch} {D : va_G} {ad : Nat → Nat} {kK kV : Nat → Nat} {cI cZ : ClassId} {N : Nat} {x1 : Int32} {u : UU} {Q : Int32 → UU → Prop} (h : m_X11_count N x1 u Q) : MI l D [(cI, .int), (cZ, .boolean)] (EH kK kV) yX11_count (Cond.code yX11_count cX11_count 2 (some .int)) rm_X11_count [.ref (ad 0), .int x1] (wH ad cI cZ u) (wH ad cI cZ) Q :=
  MI_of (own := RX11) (by decide) rfl (Nat.le_of_ble_eq_true rfl) rfl (fun p e s m args below meth c A C => w_X11_count C h)
theorem hd_X11_count : yX11_count.cls ≠ "java/lang/invoke/MethodHandle" ∧ yX11_count.cls ≠ "java/lang/invoke/VarHandle" ∧ (parseMethodDescriptor yX11_count.desc).map (fun d => d.parameters.length) = some 1 := by decide +kernel
