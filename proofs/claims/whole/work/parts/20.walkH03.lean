abbrev rm_X11_status : Room := { frames := 0, cells := 0, slots := 0, locals := 0 }
set_option maxRecDepth 100000 in
theorem w_X11_status {p : Program} {l : Launch} {e : Env} {s : State} {m : MethodId} {args : Array Value} {below : List Frame} {meth : Method} {c : Code} {A : Nat → Prop} {D : va_G} {ad : Nat → Nat} {kK kV : Nat → Nat} {cI cZ : ClassId} {N : Nat} {Q : Int32 → UU → Prop} (C : Cx p m c cX11_status 1 s args RX11 meth (some .int) A D [(cI, .int), (cZ, .boolean)] (EH kK kV)) : ∀ {u : UU}, m_X11_status N  u Q → WW p l e rm_X11_status s m args below meth c 0 0 (MQ below (QI D A (wH ad cI cZ) Q) args s 0 0 A) A D 1 0 [(0, .ref (ad 0))] [] (wH ad cI cZ u) := by
  intro  u h
  unfold m_X11_status at h
  refine ww_aload_n C dX11_status_0 rfl 0 rfl ?_
  refine ww_get C inX11 rfl 13 (by decide) tb_2_62 HF_0_13 dX11_status_1 ?_
  exact ww_iret C h dX11_status_4
theorem c_X11_status {l : Launch} {D : va_G} {ad : Nat → Nat} {kK kV : Nat → Nat} {cI cZ : ClassId} {N : Nat}  {u : UU} {Q : Int32 → UU → Prop} (h : m_X11_status N  u Q) : MI l D [(cI, .int), (cZ, .boolean)] (EH kK kV) yX11_status (Cond.code yX11_status cX11_status 1 (some .int)) rm_X11_status [.ref (ad 0)] (wH ad cI cZ u) (wH ad cI cZ) Q :=
  MI_of (own := RX11) (by decide) rfl (Nat.le_of_ble_eq_true rfl) rfl (fun p e s m args below meth c A C => w_X11_status C h)
theorem hd_X11_status : yX11_status.cls ≠ "java/lang/invoke/MethodHandle" ∧ yX11_status.cls ≠ "java/lang/invoke/VarHandle" ∧ (parseMethodDescriptor yX11_status.desc).map (fun d => d.parameters.length) = some 0 := by decide +kernel
