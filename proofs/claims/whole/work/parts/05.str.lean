section STR
variable {p : Program} {l : Launch} {e : Env} {R : Room} {s : State} {m : MethodId} {args : Array Value} {below : List Frame} {meth : Method} {c : Code} {Q : State → Prop} {A : Nat → Prop} {D : va_G} {cl sl : Nat} {cc : ByteArray} {nL : Nat} {own : String} {ret : Option FieldType} {tys : List (ClassId × FieldType)} {kK kV : Nat → Nat} {pc : Nat} {lv : List (Nat × Value)} {st : List Value} {ws : va_W}
/-- length and chars of the i-th constant -/
def sLen (i : Nat) : Nat := lenS.getD i 0
def sByt (i j : Nat) : Int32 := (bytS.getD i []).getD j 0
def sCh (i : Nat) (k : Int32) : Int32 := (((sByt i k.toNatClampNeg) &&& 255).toUInt32 % 65536).toInt32
theorem sLen_lt : ∀ i, i < 7 → sLen i < 6 := by decide +kernel
theorem ww_ldcS (C : Cx p m c cc nL s args own meth ret A D tys (EH kK kV)) (i : Nat) (hi : i < 7) {index : Nat} (ho : own = RX6) (hx : idxS.getD i 0 = index) (hdg : decode cc pc = .ok (.ldc index, 2)) (k : WW p l e R s m args below meth c cl sl Q A D nL (pc + 2) lv (.ref (kK i) :: st) ws) : WW p l e R s m args below meth c cl sl Q A D nL pc lv (st) ws := by
  subst hx; subst ho
  exact fun H locs ls hl hP hD hS => va_ldcS C.1.1 C.1.2.1 C.1.2.2.2.1 (C.2.2.2.2.1.2.2.1 i hi) hdg (k H locs ls hl hP hD hS)
theorem ww_sval (C : Cx p m c cc nL s args own meth ret A D tys (EH kK kV)) {i : Nat} (hi : i < 7) {index : Nat} (hlink : Cond.fieldLink own index "java/lang/String" "value" "[B" ∈ TB) (hdg : decode cc pc = .ok (.getfield index, 3)) (k : WW p l e R s m args below meth c cl sl Q A D nL (pc + 3) lv (.ref (kV i) :: st) ws) : WW p l e R s m args below meth c cl sl Q A D nL pc lv (.ref (kK i) :: st) ws :=
  fun H locs ls hl hP hD hS => vk_getf C.1.1 C.1.2.1 (C.2.2.2.2.1.2.1.1 i hi).2.2.1 hS C.1.2.2.2.1 (C.1.2.2.2.2 _ hlink) (fun _ h9 => h9) hdg (k H locs ls hl hP hD hS)
theorem ww_scod (C : Cx p m c cc nL s args own meth ret A D tys (EH kK kV)) {i : Nat} (hi : i < 7) {index : Nat} (hlink : Cond.fieldLink own index "java/lang/String" "coder" "B" ∈ TB) (hdg : decode cc pc = .ok (.getfield index, 3)) (k : WW p l e R s m args below meth c cl sl Q A D nL (pc + 3) lv (.int 0 :: st) ws) : WW p l e R s m args below meth c cl sl Q A D nL pc lv (.ref (kK i) :: st) ws :=
  fun H locs ls hl hP hD hS => vk_getf C.1.1 C.1.2.1 (C.2.2.2.2.1.2.1.1 i hi).2.1 hS C.1.2.2.2.1 (C.1.2.2.2.2 _ hlink) (fun _ h9 => h9) hdg (k H locs ls hl hP hD hS)
theorem ww_scom (C : Cx p m c cc nL s args own meth ret A D tys (EH kK kV)) {index : Nat} (hlink : Cond.fieldLink own index "java/lang/String" "COMPACT_STRINGS" "Z" ∈ TB) (hdg : decode cc pc = .ok (.getstatic index, 3)) (k : WW p l e R s m args below meth c cl sl Q A D nL (pc + 3) lv (.int 1 :: st) ws) : WW p l e R s m args below meth c cl sl Q A D nL pc lv (st) ws :=
  fun H locs ls hl hP hD hS => va_gets C.1.1 C.1.2.1 C.2.2.2.2.1.2.2.2.1 hS C.1.2.2.2.1 (C.1.2.2.2.2 _ hlink) (fun _ h9 => h9) hdg (k H locs ls hl hP hD hS)
theorem ww_sfmt (C : Cx p m c cc nL s args own meth ret A D tys (EH kK kV)) {index : Nat} (hlink : Cond.fieldLink own index "jdk/internal/util/Preconditions" "SIOOBE_FORMATTER" "Ljava/util/function/BiFunction;" ∈ TB) (hdg : decode cc pc = .ok (.getstatic index, 3)) (k : ∀ v : Value, (v = .null ∨ ∃ t : Nat, v = .ref t) → WW p l e R s m args below meth c cl sl Q A D nL (pc + 3) lv (v :: st) ws) : WW p l e R s m args below meth c cl sl Q A D nL pc lv (st) ws := by
  intro H locs ls hl hP hD hS
  rcases C.2.2.2.2.1.2.2.2.2 with h | ⟨t, h⟩
  · exact va_gets C.1.1 C.1.2.1 h hS C.1.2.2.2.1 (C.1.2.2.2.2 _ hlink) (fun _ h9 => h9) hdg (k _ (Or.inl rfl) H locs ls hl hP hD hS)
  · exact va_gets C.1.1 C.1.2.1 h hS C.1.2.2.2.1 (C.1.2.2.2.2 _ hlink) (fun _ h9 => h9) hdg (k _ (Or.inr ⟨t, rfl⟩) H locs ls hl hP hD hS)
theorem ww_slen0 (C : Cx p m c cc nL s args own meth ret A D tys (EH kK kV)) {i : Nat} (hi : i < 7) (hdg : decode cc pc = .ok (.arraylength, 1)) (k : WW p l e R s m args below meth c cl sl Q A D nL (pc + 1) lv (.int (Int32.ofNat (sLen i)) :: st) ws) : WW p l e R s m args below meth c cl sl Q A D nL pc lv (.ref (kV i) :: st) ws :=
  fun H locs ls hl hP hD hS => va_tlen C.1.1 C.1.2.1 (C.2.2.2.2.1.2.1.1 i hi).2.2.2 hS rfl hdg (k H locs ls hl hP hD hS)
theorem ww_sbyt (C : Cx p m c cc nL s args own meth ret A D tys (EH kK kV)) {i : Nat} (hi : i < 7) {j : Int32} (hj : vp_in j (sLen i)) (hdg : decode cc pc = .ok (.baload, 1)) (k : WW p l e R s m args below meth c cl sl Q A D nL (pc + 1) lv (.int (sByt i j.toNatClampNeg) :: st) ws) : WW p l e R s m args below meth c cl sl Q A D nL pc lv (.int j :: .ref (kV i) :: st) ws :=
  fun H locs ls hl hP hD hS => va_tb C.1.1 C.1.2.1 (C.2.2.2.2.1.2.1.1 i hi).2.2.2 hS hj rfl hdg (k H locs ls hl hP hD hS)
theorem ww_i2c (C : Cx p m c cc nL s args own meth ret A D tys (EH kK kV)) {x : Int32} (hdg : decode cc pc = .ok (.i2c, 1)) (k : WW p l e R s m args below meth c cl sl Q A D nL (pc + 1) lv (.int (x.toUInt32 % 65536).toInt32 :: st) ws) : WW p l e R s m args below meth c cl sl Q A D nL pc lv (.int x :: st) ws :=
  fun H locs ls hl hP hD hS => lv_i2c C.1.1 C.1.2.1 hdg rfl (k H locs ls hl hP hD hS)
end STR
theorem ww_tret {p : Program} {l : Launch} {e : Env} {R : Room} {s : State} {m : MethodId} {args : Array Value} {below : List Frame} {meth : Method} {c : Code} {A : Nat → Prop} {D : va_G} {cl sl : Nat} {cc : ByteArray} {nL : Nat} {own : String} {tys : List (ClassId × FieldType)} {E : (Nat → Prop) → State → Prop} {pc : Nat} {lv : List (Nat × Value)} {S : Type} {wo : S → va_W} {ty : FieldType}
    (C : Cx p m c cc nL s args own meth (some ty) A D tys E) {post : Int32 → S → Prop} {v : Int32} {u : S} (hn : narrow ty (.int v) = .int v) (hp : post v u) (hdg : decode cc pc = .ok (.ireturn, 1)) : WW p l e R s m args below meth c cl sl (MQ below (QI D A wo post) args s cl sl A) A D nL pc lv [.int v] (wo u) :=
  fun H locs ls hl hP hD hS => W.zret (v := v) C.1.1 C.1.2.1 C.2.1 hn (fun t ht hW => ⟨⟨v, u, rfl, hp, by rw [ht]; exact hP, hD⟩, hS.F ht⟩) hS.2.2 hdg C.2.2.1
section STC
variable {p : Program} {l : Launch} {e : Env} {R : Room} {s : State} {m : MethodId} {args : Array Value} {below : List Frame} {meth : Method} {c : Code} {Q : State → Prop} {A : Nat → Prop} {D : va_G} {cl sl : Nat}
variable {cc : ByteArray} {nL : Nat} {own : String} {ret : Option FieldType} {tys : List (ClassId × FieldType)} {kK kV : Nat → Nat} {pc : Nat} {lv : List (Nat × Value)} {st : List Value} {ws : va_W} {S : Type} {wo : S → va_W}
variable {y : MethodName} {bytes : ByteArray} {maxL index n : Nat} {ret2 : Option FieldType} {rm : Room} {As rest : List Value}
theorem ww_callStr (C : Cx p m c cc nL s args own meth ret A D tys (EH kK kV)) {i : Nat} (hi : i < 7) {post : Int32 → S → Prop} (hM : MI l D tys (EH kK kV) y (Cond.code y bytes maxL ret2) rm (.ref (kK i) :: As) ws wo post) (h1 : Cond.methodLink own index y ∈ TB) (h2 : Cond.instanceMethod y ∈ TB) (h3 : Cond.selects RJ0 y y ∈ TB) (h4 : Cond.initialized RJ0 ∈ TB) (h5 : Cond.code y bytes maxL ret2 ∈ TB) (hrc : rm.cells = 0) (hrs : rm.slots = 0) (hd : y.cls = RJ0 ∧ y.cls ≠ "java/lang/invoke/MethodHandle" ∧ y.cls ≠ "java/lang/invoke/VarHandle" ∧ (parseMethodDescriptor y.desc).map (fun d => d.parameters.length) = some n) (hR : rm.frames + 1 ≤ R.frames ∧ 8 + (maxL + 11) + rm.locals ≤ R.locals) (hn : As.length = n) (hst : st = As.reverse ++ .ref (kK i) :: rest) (hcat : (rest.map fun v => v.category).sum ≤ 8) (hdg : decode cc pc = .ok (.invokevirtual index, 3)) (hcs : cl + 0 ≤ R.cells ∧ sl + 0 ≤ R.slots)
    (k : ∀ (r : Int32) (u : S), post r u → WW p l e R s m args below meth c cl sl Q A D nL (pc + 3) lv (.int r :: rest) (wo u)) : WW p l e R s m args below meth c cl sl Q A D nL pc lv st ws := by
  subst hst
  intro H locs ls hl hP hD hS
  have hF := ww_fr C hD hS
  have hpp := ww_pre C EH_ok hP hD hS hF (.ref (kK i) :: As)
  refine va_calli (va_runV (As := As) (rest := rest) C.1 (hM H.size) (cwV n C.1.2.2.2.2 (gdV h1 h2 h3 h4 h5) rfl hrc hrs hd hR) ⟨hpp.1, vk_recv C.2.2.2.2.1.2.1 hi hS, hpp.2⟩ rfl hn hl.1 rfl (lv_room hcat) hdg hcs) hS (fun q _ h => hF q h) hF ?_
  intro r u t H1 locs1 ht hvm hp hB hz hk hS1
  exact k r u hp H1 locs1 ls hl (ht ▸ hB.1) (hB.2.weaken (fun _ q _ h => hF q.1 h)) hS1
end STC
theorem hd_J0_coder_7d493 : yJ0_coder_7d493.cls ≠ "java/lang/invoke/MethodHandle" ∧ yJ0_coder_7d493.cls ≠ "java/lang/invoke/VarHandle" ∧ (parseMethodDescriptor yJ0_coder_7d493.desc).map (fun d => d.parameters.length) = some 0 := by decide +kernel
theorem hd_J0_isLatin1_aae02 : yJ0_isLatin1_aae02.cls ≠ "java/lang/invoke/MethodHandle" ∧ yJ0_isLatin1_aae02.cls ≠ "java/lang/invoke/VarHandle" ∧ (parseMethodDescriptor yJ0_isLatin1_aae02.desc).map (fun d => d.parameters.length) = some 0 := by decide +kernel
theorem hd_J0_length_8abf5 : yJ0_length_8abf5.cls ≠ "java/lang/invoke/MethodHandle" ∧ yJ0_length_8abf5.cls ≠ "java/lang/invoke/VarHandle" ∧ (parseMethodDescriptor yJ0_length_8abf5.desc).map (fun d => d.parameters.length) = some 0 := by decide +kernel
theorem hd_J0_charAt_5068e : yJ0_charAt_5068e.cls ≠ "java/lang/invoke/MethodHandle" ∧ yJ0_charAt_5068e.cls ≠ "java/lang/invoke/VarHandle" ∧ (parseMethodDescriptor yJ0_charAt_5068e.desc).map (fun d => d.parameters.length) = some 1 := by decide +kernel
theorem hd_J0_checkIndex_df160 : yJ0_checkIndex_df160.cls ≠ "java/lang/invoke/MethodHandle" ∧ yJ0_checkIndex_df160.cls ≠ "java/lang/invoke/VarHandle" ∧ (parseMethodDescriptor yJ0_checkIndex_df160.desc).map (fun d => d.parameters.length) = some 2 := by decide +kernel
theorem hd_J1_charAt_3b067 : yJ1_charAt_3b067.cls ≠ "java/lang/invoke/MethodHandle" ∧ yJ1_charAt_3b067.cls ≠ "java/lang/invoke/VarHandle" ∧ (parseMethodDescriptor yJ1_charAt_3b067.desc).map (fun d => d.parameters.length) = some 2 := by decide +kernel
theorem hd_J3_checkIndex_8e157 : yJ3_checkIndex_8e157.cls ≠ "java/lang/invoke/MethodHandle" ∧ yJ3_checkIndex_8e157.cls ≠ "java/lang/invoke/VarHandle" ∧ (parseMethodDescriptor yJ3_checkIndex_8e157.desc).map (fun d => d.parameters.length) = some 3 := by decide +kernel
abbrev rm_J0_coder_7d493 : Room := { frames := 0, cells := 0, slots := 0, locals := 0 }
set_option maxRecDepth 100000 in
theorem c_J0_coder_7d493 {l : Launch} {D : va_G} {tys : List (ClassId × FieldType)} {kK kV : Nat → Nat} {ws : va_W} {i : Nat} (hi : i < 7) : MI l D tys (EH kK kV) yJ0_coder_7d493 (Cond.code yJ0_coder_7d493 cJ0_coder_7d493 1 (some .byte)) rm_J0_coder_7d493 [.ref (kK i)] ws (fun _ : Unit => ws) (fun r _ => r = 0) := by
  refine MI_of (own := RJ0) (by decide) rfl (Nat.le_of_ble_eq_true rfl) rfl (fun p e s m args below meth c A C => ?_)
  refine ww_scom C tb_3_154 dJ0_coder_7d493_0 ?_
  refine ww_if_eq (tgt := 13) C dJ0_coder_7d493_3 (by decide) (fun hc => absurd hc (by decide)) (fun _ => ?_)
  refine ww_aload_n C dJ0_coder_7d493_6 rfl 0 rfl ?_
  refine ww_scod C hi tb_5_130 dJ0_coder_7d493_7 ?_
  refine ww_goto (tgt := 14) C dJ0_coder_7d493_10 (by decide) ?_
  exact ww_tret (u := ()) C rfl rfl dJ0_coder_7d493_14
abbrev rm_J0_isLatin1_aae02 : Room := { frames := 0, cells := 0, slots := 0, locals := 0 }
set_option maxRecDepth 100000 in
theorem c_J0_isLatin1_aae02 {l : Launch} {D : va_G} {tys : List (ClassId × FieldType)} {kK kV : Nat → Nat} {ws : va_W} {i : Nat} (hi : i < 7) : MI l D tys (EH kK kV) yJ0_isLatin1_aae02 (Cond.code yJ0_isLatin1_aae02 cJ0_isLatin1_aae02 1 (some .boolean)) rm_J0_isLatin1_aae02 [.ref (kK i)] ws (fun _ : Unit => ws) (fun r _ => r = 1) := by
  refine MI_of (own := RJ0) (by decide) rfl (Nat.le_of_ble_eq_true rfl) rfl (fun p e s m args below meth c A C => ?_)
  refine ww_scom C tb_3_154 dJ0_isLatin1_aae02_0 ?_
  refine ww_if_eq (tgt := 17) C dJ0_isLatin1_aae02_3 (by decide) (fun hc => absurd hc (by decide)) (fun _ => ?_)
  refine ww_aload_n C dJ0_isLatin1_aae02_6 rfl 0 rfl ?_
  refine ww_scod C hi tb_5_130 dJ0_isLatin1_aae02_7 ?_
  refine ww_if_ne (tgt := 17) C dJ0_isLatin1_aae02_10 (by decide) (fun hc => absurd rfl hc) (fun _ => ?_)
  refine ww_iconst (v := 1) C dJ0_isLatin1_aae02_13 (by decide) ?_
  refine ww_goto (tgt := 18) C dJ0_isLatin1_aae02_14 (by decide) ?_
  exact ww_zret (u := ()) C nb_1 rfl dJ0_isLatin1_aae02_18
abbrev rm_J0_length_8abf5 : Room := { frames := 1, cells := 0, slots := 0, locals := 20 }
theorem sLen_sh (i : Nat) (hi : i < 7) : Int32.ofNat (sLen i) >>> ((0 : Int32) &&& 31) = Int32.ofNat (sLen i) := by
  have h : ∀ i, i < 7 → Int32.ofNat (sLen i) >>> ((0 : Int32) &&& 31) = Int32.ofNat (sLen i) := by decide +kernel
  exact h i hi
set_option maxRecDepth 100000 in
theorem c_J0_length_8abf5 {l : Launch} {D : va_G} {tys : List (ClassId × FieldType)} {kK kV : Nat → Nat} {ws : va_W} {i : Nat} (hi : i < 7) : MI l D tys (EH kK kV) yJ0_length_8abf5 (Cond.code yJ0_length_8abf5 cJ0_length_8abf5 1 (some .int)) rm_J0_length_8abf5 [.ref (kK i)] ws (fun _ : Unit => ws) (fun r _ => r = Int32.ofNat (sLen i)) := by
  refine MI_of (own := RJ0) (by decide) rfl (Nat.le_of_ble_eq_true rfl) rfl (fun p e s m args below meth c A C => ?_)
  refine ww_aload_n C dJ0_length_8abf5_0 rfl 0 rfl ?_
  refine ww_sval C hi tb_5_129 dJ0_length_8abf5_1 ?_
  refine ww_slen0 C hi dJ0_length_8abf5_4 ?_
  refine ww_aload_n C dJ0_length_8abf5_5 rfl 0 rfl ?_
  refine ww_callStr (As := []) (rest := [.int (Int32.ofNat (sLen i))]) C hi (c_J0_coder_7d493 hi) tb_3_150 tb_3_151 tb_3_152 tb_1_16 tb_3_153 rfl rfl ⟨rfl, hd_J0_coder_7d493⟩ ⟨Nat.le_of_ble_eq_true rfl, Nat.le_of_ble_eq_true rfl⟩ rfl rfl (Nat.le_of_ble_eq_true rfl) dJ0_length_8abf5_6 ⟨Nat.zero_le _, Nat.zero_le _⟩ (fun r u hr => ?_)
  subst hr
  refine ww_ishr C dJ0_length_8abf5_9 ?_
  exact ww_iret (u := ()) C (sLen_sh i hi) dJ0_length_8abf5_10
abbrev rm_J3_checkIndex_8e157 : Room := { frames := 0, cells := 0, slots := 0, locals := 0 }
set_option maxRecDepth 100000 in
theorem c_J3_checkIndex_8e157_n {l : Launch} {D : va_G} {tys : List (ClassId × FieldType)} {kK kV : Nat → Nat} {ws : va_W} {x n : Int32} (h0 : ¬ x < 0) (h1 : x < n) : MI l D tys (EH kK kV) yJ3_checkIndex_8e157 (Cond.code yJ3_checkIndex_8e157 cJ3_checkIndex_8e157 3 (some .int)) rm_J3_checkIndex_8e157 [.int x, .int n, .null] ws (fun _ : Unit => ws) (fun r _ => r = x) := by
  refine MI_of (own := RJ3) (by decide) rfl (Nat.le_of_ble_eq_true rfl) rfl (fun p e s m args below meth c A C => ?_)
  refine ww_iload_n C dJ3_checkIndex_8e157_0 rfl 0 rfl ?_
  refine ww_if_lt (tgt := 9) C dJ3_checkIndex_8e157_1 (by decide) (fun hc => absurd hc h0) (fun _ => ?_)
  refine ww_iload_n C dJ3_checkIndex_8e157_4 rfl 0 rfl ?_
  refine ww_iload_n C dJ3_checkIndex_8e157_5 rfl 1 rfl ?_
  refine ww_icmp_lt (tgt := 16) C dJ3_checkIndex_8e157_6 (by decide) (fun _ => ?_) (fun hc => absurd h1 hc)
  refine ww_iload_n C dJ3_checkIndex_8e157_16 rfl 0 rfl ?_
  exact ww_iret (u := ()) C rfl dJ3_checkIndex_8e157_17
set_option maxRecDepth 100000 in
theorem c_J3_checkIndex_8e157_r {l : Launch} {D : va_G} {tys : List (ClassId × FieldType)} {kK kV : Nat → Nat} {ws : va_W} {t0 : Nat} {x n : Int32} (h0 : ¬ x < 0) (h1 : x < n) : MI l D tys (EH kK kV) yJ3_checkIndex_8e157 (Cond.code yJ3_checkIndex_8e157 cJ3_checkIndex_8e157 3 (some .int)) rm_J3_checkIndex_8e157 [.int x, .int n, .ref t0] ws (fun _ : Unit => ws) (fun r _ => r = x) := by
  refine MI_of (own := RJ3) (by decide) rfl (Nat.le_of_ble_eq_true rfl) rfl (fun p e s m args below meth c A C => ?_)
  refine ww_iload_n C dJ3_checkIndex_8e157_0 rfl 0 rfl ?_
  refine ww_if_lt (tgt := 9) C dJ3_checkIndex_8e157_1 (by decide) (fun hc => absurd hc h0) (fun _ => ?_)
  refine ww_iload_n C dJ3_checkIndex_8e157_4 rfl 0 rfl ?_
  refine ww_iload_n C dJ3_checkIndex_8e157_5 rfl 1 rfl ?_
  refine ww_icmp_lt (tgt := 16) C dJ3_checkIndex_8e157_6 (by decide) (fun _ => ?_) (fun hc => absurd h1 hc)
  refine ww_iload_n C dJ3_checkIndex_8e157_16 rfl 0 rfl ?_
  exact ww_iret (u := ()) C rfl dJ3_checkIndex_8e157_17
abbrev rm_J0_checkIndex_df160 : Room := { frames := 1, cells := 0, slots := 0, locals := 22 }
set_option maxRecDepth 100000 in
theorem c_J0_checkIndex_df160 {l : Launch} {D : va_G} {tys : List (ClassId × FieldType)} {kK kV : Nat → Nat} {ws : va_W} {x n : Int32} (h0 : ¬ x < 0) (h1 : x < n) : MV l D tys (EH kK kV) yJ0_checkIndex_df160 (Cond.code yJ0_checkIndex_df160 cJ0_checkIndex_df160 2 none) rm_J0_checkIndex_df160 [.int x, .int n] ws (fun _ : Unit => ws) (fun _ => True) 0 0 := by
  refine MV_of (own := RJ0) (by decide) rfl (Nat.le_of_ble_eq_true rfl) rfl (fun p e s m args below meth c A C => ?_)
  refine ww_iload_n C dJ0_checkIndex_df160_0 rfl 0 rfl ?_
  refine ww_iload_n C dJ0_checkIndex_df160_1 rfl 1 rfl ?_
  refine ww_sfmt C tb_3_170 dJ0_checkIndex_df160_2 (fun v hv => ?_)
  have key : ∀ v : Value, MI l D tys (EH kK kV) yJ3_checkIndex_8e157 (Cond.code yJ3_checkIndex_8e157 cJ3_checkIndex_8e157 3 (some .int)) rm_J3_checkIndex_8e157 [.int x, .int n, v] ws (fun _ : Unit => ws) (fun r _ => r = x) → WW p l e rm_J0_checkIndex_df160 s m args below meth c 0 0 (MQ below (QV D A (fun _ : Unit => ws) (fun _ => True)) args s 0 0 A) A D 2 (0 + 1 + 1 + 3) [(0, .int x), (1, .int n)] [v, .int n, .int x] ws := by
    intro v hM
    refine ww_callSi (As := [.int x, .int n, v]) (rest := []) C EH_ok hM tb_3_172 tb_3_173 tb_1_18 tb_3_174 rfl rfl hd_J3_checkIndex_8e157 ⟨Nat.le_of_ble_eq_true rfl, Nat.le_of_ble_eq_true rfl⟩ rfl rfl (Nat.le_of_ble_eq_true rfl) dJ0_checkIndex_df160_5 ⟨Nat.zero_le _, Nat.zero_le _⟩ (fun r u hr => ?_)
    refine ww_pop C dJ0_checkIndex_df160_8 rfl ?_
    exact ww_vret (u := ()) C trivial dJ0_checkIndex_df160_9
  rcases hv with rfl | ⟨t0, rfl⟩
  · exact key _ (c_J3_checkIndex_8e157_n h0 h1)
  · exact key _ (c_J3_checkIndex_8e157_r h0 h1)
abbrev rm_J1_charAt_3b067 : Room := { frames := 2, cells := 0, slots := 0, locals := 43 }
theorem sIn {i : Nat} (hi : i < 7) {j : Int32} (h : vp_in j (sLen i)) : ¬ j < 0 ∧ j < Int32.ofNat (sLen i) := by
  have h6 := sLen_lt i hi
  obtain ⟨k, hk, rfl⟩ := vp_in_of h (by omega)
  exact ⟨nI_pos (by omega), nI_lt hk (by omega)⟩
theorem sCh_nar (i : Nat) (k : Int32) : narrow .char (.int (sCh i k)) = .int (sCh i k) := pk_nc _
set_option maxRecDepth 100000 in
theorem c_J1_charAt_3b067 {l : Launch} {D : va_G} {tys : List (ClassId × FieldType)} {kK kV : Nat → Nat} {ws : va_W} {i : Nat} (hi : i < 7) {j : Int32} (hj : vp_in j (sLen i)) : MI l D tys (EH kK kV) yJ1_charAt_3b067 (Cond.code yJ1_charAt_3b067 cJ1_charAt_3b067 2 (some .char)) rm_J1_charAt_3b067 [.ref (kV i), .int j] ws (fun _ : Unit => ws) (fun r _ => r = sCh i j) := by
  refine MI_of (own := RJ1) (by decide) rfl (Nat.le_of_ble_eq_true rfl) rfl (fun p e s m args below meth c A C => ?_)
  refine ww_iload_n C dJ1_charAt_3b067_0 rfl 1 rfl ?_
  refine ww_aload_n C dJ1_charAt_3b067_1 rfl 0 rfl ?_
  refine ww_slen0 C hi dJ1_charAt_3b067_2 ?_
  refine ww_callSv (As := [.int j, .int (Int32.ofNat (sLen i))]) (rest := []) C EH_ok (c_J0_checkIndex_df160 (sIn hi hj).1 (sIn hi hj).2) tb_3_167 tb_3_168 tb_1_16 tb_3_169 rfl rfl hd_J0_checkIndex_df160 ⟨Nat.le_of_ble_eq_true rfl, Nat.le_of_ble_eq_true rfl⟩ rfl rfl (Nat.le_of_ble_eq_true rfl) dJ1_charAt_3b067_3 ⟨Nat.zero_le _, Nat.zero_le _⟩ (fun u hr => ?_)
  refine ww_aload_n C dJ1_charAt_3b067_6 rfl 0 rfl ?_
  refine ww_iload_n C dJ1_charAt_3b067_7 rfl 1 rfl ?_
  refine ww_sbyt C hi hj dJ1_charAt_3b067_8 ?_
  refine ww_sipush (v := 255) C dJ1_charAt_3b067_9 (by decide) ?_
  refine ww_iand C dJ1_charAt_3b067_12 ?_
  refine ww_i2c C dJ1_charAt_3b067_13 ?_
  exact ww_tret (u := ()) C (sCh_nar i j) rfl dJ1_charAt_3b067_14
abbrev rm_J0_charAt_5068e : Room := { frames := 3, cells := 0, slots := 0, locals := 64 }
set_option maxRecDepth 100000 in
theorem c_J0_charAt_5068e {l : Launch} {D : va_G} {tys : List (ClassId × FieldType)} {kK kV : Nat → Nat} {ws : va_W} {i : Nat} (hi : i < 7) {j : Int32} (hj : vp_in j (sLen i)) : MI l D tys (EH kK kV) yJ0_charAt_5068e (Cond.code yJ0_charAt_5068e cJ0_charAt_5068e 2 (some .char)) rm_J0_charAt_5068e [.ref (kK i), .int j] ws (fun _ : Unit => ws) (fun r _ => r = sCh i j) := by
  refine MI_of (own := RJ0) (by decide) rfl (Nat.le_of_ble_eq_true rfl) rfl (fun p e s m args below meth c A C => ?_)
  refine ww_aload_n C dJ0_charAt_5068e_0 rfl 0 rfl ?_
  refine ww_callStr (As := []) (rest := []) C hi (c_J0_isLatin1_aae02 hi) tb_3_160 tb_3_161 tb_3_162 tb_1_16 tb_3_163 rfl rfl ⟨rfl, hd_J0_isLatin1_aae02⟩ ⟨Nat.le_of_ble_eq_true rfl, Nat.le_of_ble_eq_true rfl⟩ rfl rfl (Nat.le_of_ble_eq_true rfl) dJ0_charAt_5068e_1 ⟨Nat.zero_le _, Nat.zero_le _⟩ (fun r u hr => ?_)
  subst hr
  refine ww_if_eq (tgt := 16) C dJ0_charAt_5068e_4 (by decide) (fun hc => absurd hc (by decide)) (fun _ => ?_)
  refine ww_aload_n C dJ0_charAt_5068e_7 rfl 0 rfl ?_
  refine ww_sval C hi tb_5_129 dJ0_charAt_5068e_8 ?_
  refine ww_iload_n C dJ0_charAt_5068e_11 rfl 1 rfl ?_
  refine ww_callSi (As := [.ref (kV i), .int j]) (rest := []) C EH_ok (c_J1_charAt_3b067 hi hj) tb_3_164 tb_3_165 tb_1_17 tb_3_166 rfl rfl hd_J1_charAt_3b067 ⟨Nat.le_of_ble_eq_true rfl, Nat.le_of_ble_eq_true rfl⟩ rfl rfl (Nat.le_of_ble_eq_true rfl) dJ0_charAt_5068e_12 ⟨Nat.zero_le _, Nat.zero_le _⟩ (fun r u hr => ?_)
  subst hr
  exact ww_tret (u := ()) C (sCh_nar i j) rfl dJ0_charAt_5068e_15
