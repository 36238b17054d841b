/-! our judgement: the machine at pc, whatever the heap is, as long as the locals lv, the stack st and the cells ws are held -/
abbrev Cx (p : Program) (m : MethodId) (c : Code) (cc : ByteArray) (nL : Nat) (s : State) (args : Array Value) (own : String) (meth : Method) (ret : Option FieldType) (A : Nat → Prop) (D : va_G) (tys : List (ClassId × FieldType)) (E : (Nat → Prop) → State → Prop) : Prop :=
  CallFix p m c cc nL s args TB own ∧ meth.sig.returnType = ret ∧ meth.locks = false ∧ va_K D vwCl tys s ∧ E A s ∧ (∀ q, s.heap.size ≤ q → A q)
def WW (p : Program) (l : Launch) (e : Env) (R : Room) (s : State) (m : MethodId) (args : Array Value) (below : List Frame) (meth : Method) (c : Code) (cl sl : Nat) (Q : State → Prop) (A : Nat → Prop) (D : va_G) (nL : Nat) (pc : Nat) (lv : List (Nat × Value)) (st : List Value) (ws : va_W) : Prop :=
  ∀ (H : Heap) (locs : List Loc) (ls : Array Slot), lv_has ls nL lv → va_P D vwCl ws H → va_D A ws → va_S A s.heap H locs → W p l e R s m args below meth c H locs cl sl Q (F0 m pc ls st)
/-- an object's field, an array, and what a store makes of them -/
def FG (ws : va_W) (a ci k : Nat) (v : Value) : Prop := ∃ (q0 : Nat) (fs : List Value), ws[q0]? = some (a, .inr (ci, fs)) ∧ fs[k]? = some v
def FS (ws : va_W) (a ci k : Nat) (v : Value) (ws' : va_W) : Prop := ∃ (q0 : Nat) (fs : List Value), ws[q0]? = some (a, .inr (ci, fs)) ∧ k < fs.length ∧ ws.set q0 (a, .inr (ci, fs.set k v)) = ws'
def AG (ws : va_W) (a : Nat) (cA : ClassId) (n : Nat) (f : Nat → Int32) : Prop := ∃ q0 : Nat, ws[q0]? = some (a, .inl (cA, n, .inl f))
def AS (ws : va_W) (a : Nat) (cA : ClassId) (n : Nat) (f g : Nat → Int32) (ws' : va_W) : Prop := ∃ q0 : Nat, ws[q0]? = some (a, .inl (cA, n, .inl f)) ∧ ws.set q0 (a, .inl (cA, n, .inl g)) = ws'
def nb (r : Int32) : Prop := narrow .boolean (.int r) = .int r
theorem nb_0 : nb 0 := rfl
theorem nb_1 : nb 1 := rfl
theorem nb_if {q : Prop} [Decidable q] : nb (if q then 1 else 0) := by by_cases h : q <;> simp [h, nb_0, nb_1]
/-- a method's contract: from the cells ws, with the arguments as, it comes back with an answer r and a state u of which post holds, and the cells are wo u -/
def QI {S : Type} (D : va_G) (A : Nat → Prop) (wo : S → va_W) (post : Int32 → S → Prop) : Array Value → State → Outcome → State → Prop := va_Qi post (fun u t => va_P D vwCl (wo u) t.heap ∧ va_D A (wo u)) A
def QV {S : Type} (D : va_G) (A : Nat → Prop) (wo : S → va_W) (post : S → Prop) : Array Value → State → Outcome → State → Prop := va_Qv post (fun u t => va_P D vwCl (wo u) t.heap ∧ va_D A (wo u)) A
def PX (D : va_G) (tys : List (ClassId × FieldType)) (E : (Nat → Prop) → State → Prop) (as : List Value) (sz : Nat) (ws : va_W) : Array Value → State → Prop := va_Pc as (fun U => U.heap.size = sz ∧ va_P D vwCl ws U.heap ∧ va_K D vwCl tys U ∧ E (va_A ws sz) U ∧ va_D (fun _ => True) ws)
def MI {S : Type} (l : Launch) (D : va_G) (tys : List (ClassId × FieldType)) (E : (Nat → Prop) → State → Prop) (y : MethodName) (cd : Cond) (rm : Room) (as : List Value) (ws : va_W) (wo : S → va_W) (post : Int32 → S → Prop) : Prop :=
  ∀ sz : Nat, Met l y (cd :: TB) rm (PX D tys E as sz ws) (QI D (va_A ws sz) wo post) 0 0 (va_A ws sz)
def MV {S : Type} (l : Launch) (D : va_G) (tys : List (ClassId × FieldType)) (E : (Nat → Prop) → State → Prop) (y : MethodName) (cd : Cond) (rm : Room) (as : List Value) (ws : va_W) (wo : S → va_W) (post : S → Prop) (mc ms : Nat) : Prop :=
  ∀ sz : Nat, Met l y (cd :: TB) rm (PX D tys E as sz ws) (QV D (va_A ws sz) wo post) mc ms (va_A ws sz)
/-- what may stand in Nw: links to private members of nest mates -/
def nwOk (w : Cond) : Bool := match w with
  | .methodLinkNest _ _ _ _ => true
  | _ => false
theorem nw_warm {w : Cond} (hw : nwOk w = true) {s U : State} (hW : s.WarmedH U.vm) (h : va_Nw w s) : va_Nw w U := by
  unfold nwOk at hw
  split at hw
  · exact va_Nw.warmM hW h
  · cases hw
theorem nw_same {w : Cond} (hw : nwOk w = true) {s U : State} (hv : s.vm = U.vm) (h : va_Nw w s) : va_Nw w U := by
  unfold nwOk at hw
  split at hw
  · exact va_Nw.same rfl hv h
  · cases hw
/-- what goes along from a caller's state to a callee's: E A U, 'in U, and in no cell of A' -/
def EOk (E : (Nat → Prop) → State → Prop) : Prop := (∀ (A : Nat → Prop) (U : State) (g : JFrame) (mk : MethodId) (a : Array Value), E A U → E A (U.calling g mk a)) ∧ ∀ (A B : Nat → Prop) (s U : State) (locs : List Loc), E A s → s.WarmedH U.vm → va_S A s.heap U.heap locs → (∀ q, B q → A q) → E B U
theorem PX_blind {D : va_G} {tys : List (ClassId × FieldType)} {E : (Nat → Prop) → State → Prop} (hE : EOk E) {as : List Value} {sz : Nat} {ws : va_W} : FrameBlind (PX D tys E as sz ws) := by
  intro a U g mk q
  obtain ⟨q0, q1, qP, qK, qN, qD⟩ := q
  exact ⟨q0, q1, qP, va_K.moved (u := U) (U := U.calling g mk a) (Vm.Alike.refl U.vm) qK, hE.1 _ U g mk a qN, qD⟩

theorem gdC {cd : Cond} (h : cd ∈ TB) : GoodIn TB (cd :: TB) := fun w hw => by
  rcases List.mem_cons.mp hw with rfl | hw
  · exact ⟨h, TB_good _ h⟩
  · exact ⟨hw, TB_good _ hw⟩
theorem gdV {own C : String} {idx : Nat} {y : MethodName} {cd : Cond} (h1 : Cond.methodLink own idx y ∈ TB) (h2 : Cond.instanceMethod y ∈ TB) (h3 : Cond.selects C y y ∈ TB) (h4 : Cond.initialized C ∈ TB) (h5 : cd ∈ TB) : GoodIn TB (wsV own idx C y (cd :: TB)) := by
  intro w hw
  rcases List.mem_append.mp hw with hw | hw
  · have h : w ∈ TB := by
      simp only [List.mem_cons, List.not_mem_nil, or_false] at hw
      rcases hw with rfl | rfl | rfl | rfl <;> assumption
    exact ⟨h, TB_good _ h⟩
  · exact gdC h5 w hw
theorem gdS {own : String} {idx : Nat} {y : MethodName} {cd : Cond} (h1 : Cond.methodLink own idx y ∈ TB) (h2 : Cond.static y ∈ TB) (h3 : Cond.initialized y.cls ∈ TB) (h5 : cd ∈ TB) : GoodIn TB (va_wsS own idx y (cd :: TB)) := by
  intro w hw
  rcases List.mem_append.mp hw with hw | hw
  · have h : w ∈ TB := by
      simp only [List.mem_cons, List.not_mem_nil, or_false] at hw
      rcases hw with rfl | rfl | rfl <;> assumption
    exact ⟨h, TB_good _ h⟩
  · exact gdC h5 w hw
section WWs
variable {p : Program} {l : Launch} {e : Env} {R : Room} {s : State} {m : MethodId} {args : Array Value} {below : List Frame} {meth : Method} {c : Code} {Q : State → Prop} {A : Nat → Prop} {D : va_G} {cl sl : Nat}
variable {cc : ByteArray} {nL : Nat} {own : String} {ret : Option FieldType} {tys : List (ClassId × FieldType)} {E : (Nat → Prop) → State → Prop} {pc : Nat} {lv : List (Nat × Value)} {st : List Value} {ws : va_W}

theorem ww_iconst (C : Cx p m c cc nL s args own meth ret A D tys E) {n : Int} {v : Int32} (hdg : decode cc pc = .ok (.iconst n, 1)) (hv : Int32.ofInt n = v) (k : WW p l e R s m args below meth c cl sl Q A D nL (pc + 1) lv (.int v :: st) ws) : WW p l e R s m args below meth c cl sl Q A D nL pc lv st ws :=
  fun H locs ls hl hP hD hS => lv_iconst C.1.1 C.1.2.1 hdg hv (k H locs ls hl hP hD hS)
theorem ww_bipush (C : Cx p m c cc nL s args own meth ret A D tys E) {n : Int} {v : Int32} (hdg : decode cc pc = .ok (.bipush n, 2)) (hv : (Int8.ofInt n).toInt32 = v) (k : WW p l e R s m args below meth c cl sl Q A D nL (pc + 2) lv (.int v :: st) ws) : WW p l e R s m args below meth c cl sl Q A D nL pc lv st ws :=
  fun H locs ls hl hP hD hS => lv_bipush C.1.1 C.1.2.1 hdg hv (k H locs ls hl hP hD hS)
theorem ww_sipush (C : Cx p m c cc nL s args own meth ret A D tys E) {n : Int} {v : Int32} (hdg : decode cc pc = .ok (.sipush n, 3)) (hv : (Int16.ofInt n).toInt32 = v) (k : WW p l e R s m args below meth c cl sl Q A D nL (pc + 3) lv (.int v :: st) ws) : WW p l e R s m args below meth c cl sl Q A D nL pc lv st ws :=
  fun H locs ls hl hP hD hS => lv_sipush C.1.1 C.1.2.1 hdg hv (k H locs ls hl hP hD hS)
theorem ww_lconst (C : Cx p m c cc nL s args own meth ret A D tys E) {n : Fin 2} {v : Int64} (hdg : decode cc pc = .ok (.lconst n, 1)) (hv : Int64.ofNat (n : Nat) = v) (k : WW p l e R s m args below meth c cl sl Q A D nL (pc + 1) lv (.long v :: st) ws) : WW p l e R s m args below meth c cl sl Q A D nL pc lv st ws :=
  fun H locs ls hl hP hD hS => lv_lconst C.1.1 C.1.2.1 hdg hv (k H locs ls hl hP hD hS)
theorem ww_ldc (C : Cx p m c cc nL s args own meth ret A D tys E) {index : Nat} {v : Int32} (hc : Cond.constant own index v ∈ TB) (hdg : decode cc pc = .ok (.ldc index, 2)) (k : WW p l e R s m args below meth c cl sl Q A D nL (pc + 2) lv (.int v :: st) ws) : WW p l e R s m args below meth c cl sl Q A D nL pc lv st ws :=
  fun H locs ls hl hP hD hS => lv_ldc C.1.1 C.1.2.1 C.1.2.2.2.1 (C.1.2.2.2.2 _ hc) hdg (k H locs ls hl hP hD hS)
theorem ww_ldc2 (C : Cx p m c cc nL s args own meth ret A D tys E) {index : Nat} {v : Int64} (hc : Cond.constantLong own index v ∈ TB) (hdg : decode cc pc = .ok (.ldc2_w index, 3)) (k : WW p l e R s m args below meth c cl sl Q A D nL (pc + 3) lv (.long v :: st) ws) : WW p l e R s m args below meth c cl sl Q A D nL pc lv st ws :=
  fun H locs ls hl hP hD hS => lv_ldc2 C.1.1 C.1.2.1 C.1.2.2.2.1 (C.1.2.2.2.2 _ hc) hdg (k H locs ls hl hP hD hS)
theorem ww_iload_n (C : Cx p m c cc nL s args own meth ret A D tys E) {k0 : Fin 4} {i : Nat} {x : Int32} (hdg : decode cc pc = .ok (.iload_n k0, 1)) (hi : (k0 : Nat) = i) (j : Nat) (hj : lv[j]? = some (i, .int x)) (k : WW p l e R s m args below meth c cl sl Q A D nL (pc + 1) lv (.int x :: st) ws) : WW p l e R s m args below meth c cl sl Q A D nL pc lv st ws :=
  fun H locs ls hl hP hD hS => lv_iload_n C.1.1 C.1.2.1 hdg hi (lv_at hl j hj) (k H locs ls hl hP hD hS)
theorem ww_iload (C : Cx p m c cc nL s args own meth ret A D tys E) {i : Nat} {x : Int32} (hdg : decode cc pc = .ok (.iload i, 2)) (j : Nat) (hj : lv[j]? = some (i, .int x)) (k : WW p l e R s m args below meth c cl sl Q A D nL (pc + 2) lv (.int x :: st) ws) : WW p l e R s m args below meth c cl sl Q A D nL pc lv st ws :=
  fun H locs ls hl hP hD hS => lv_iload C.1.1 C.1.2.1 hdg (lv_at hl j hj) (k H locs ls hl hP hD hS)
theorem ww_lload_n (C : Cx p m c cc nL s args own meth ret A D tys E) {k0 : Fin 4} {i : Nat} {x : Int64} (hdg : decode cc pc = .ok (.lload_n k0, 1)) (hi : (k0 : Nat) = i) (j : Nat) (hj : lv[j]? = some (i, .long x)) (k : WW p l e R s m args below meth c cl sl Q A D nL (pc + 1) lv (.long x :: st) ws) : WW p l e R s m args below meth c cl sl Q A D nL pc lv st ws :=
  fun H locs ls hl hP hD hS => lv_lload_n C.1.1 C.1.2.1 hdg hi (lv_at hl j hj) (k H locs ls hl hP hD hS)
theorem ww_lload (C : Cx p m c cc nL s args own meth ret A D tys E) {i : Nat} {x : Int64} (hdg : decode cc pc = .ok (.lload i, 2)) (j : Nat) (hj : lv[j]? = some (i, .long x)) (k : WW p l e R s m args below meth c cl sl Q A D nL (pc + 2) lv (.long x :: st) ws) : WW p l e R s m args below meth c cl sl Q A D nL pc lv st ws :=
  fun H locs ls hl hP hD hS => lv_lload C.1.1 C.1.2.1 hdg (lv_at hl j hj) (k H locs ls hl hP hD hS)
theorem ww_aload_n (C : Cx p m c cc nL s args own meth ret A D tys E) {k0 : Fin 4} {i : Nat} {x : Nat} (hdg : decode cc pc = .ok (.aload_n k0, 1)) (hi : (k0 : Nat) = i) (j : Nat) (hj : lv[j]? = some (i, .ref x)) (k : WW p l e R s m args below meth c cl sl Q A D nL (pc + 1) lv (.ref x :: st) ws) : WW p l e R s m args below meth c cl sl Q A D nL pc lv st ws :=
  fun H locs ls hl hP hD hS => lv_aload_n C.1.1 C.1.2.1 hdg hi (lv_at hl j hj) (k H locs ls hl hP hD hS)
theorem ww_aload (C : Cx p m c cc nL s args own meth ret A D tys E) {i : Nat} {x : Nat} (hdg : decode cc pc = .ok (.aload i, 2)) (j : Nat) (hj : lv[j]? = some (i, .ref x)) (k : WW p l e R s m args below meth c cl sl Q A D nL (pc + 2) lv (.ref x :: st) ws) : WW p l e R s m args below meth c cl sl Q A D nL pc lv st ws :=
  fun H locs ls hl hP hD hS => lv_aload C.1.1 C.1.2.1 hdg (lv_at hl j hj) (k H locs ls hl hP hD hS)
theorem ww_istore_n (C : Cx p m c cc nL s args own meth ret A D tys E) {k0 : Fin 4} {i : Nat} {x : Int32} {lv' : List (Nat × Value)} (hdg : decode cc pc = .ok (.istore_n k0, 1)) (hi : (k0 : Nat) = i) (hn : i < nL) (hl' : (i, Value.int x) :: lv.filter (fun q => !(q.1 == i) && !(q.1 + 1 == i && q.2.category == 2)) = lv') (k : WW p l e R s m args below meth c cl sl Q A D nL (pc + 1) lv' st ws) : WW p l e R s m args below meth c cl sl Q A D nL pc lv (.int x :: st) ws :=
  fun H locs ls hl hP hD hS => lv_istore_n C.1.1 C.1.2.1 hdg hi hl hn hl' (fun ls' h' => k H locs ls' h' hP hD hS)
theorem ww_istore (C : Cx p m c cc nL s args own meth ret A D tys E) {i : Nat} {x : Int32} {lv' : List (Nat × Value)} (hdg : decode cc pc = .ok (.istore i, 2)) (hn : i < nL) (hl' : (i, Value.int x) :: lv.filter (fun q => !(q.1 == i) && !(q.1 + 1 == i && q.2.category == 2)) = lv') (k : WW p l e R s m args below meth c cl sl Q A D nL (pc + 2) lv' st ws) : WW p l e R s m args below meth c cl sl Q A D nL pc lv (.int x :: st) ws :=
  fun H locs ls hl hP hD hS => lv_istore C.1.1 C.1.2.1 hdg hl hn hl' (fun ls' h' => k H locs ls' h' hP hD hS)
theorem ww_astore_n (C : Cx p m c cc nL s args own meth ret A D tys E) {k0 : Fin 4} {i : Nat} {x : Nat} {lv' : List (Nat × Value)} (hdg : decode cc pc = .ok (.astore_n k0, 1)) (hi : (k0 : Nat) = i) (hn : i < nL) (hl' : (i, Value.ref x) :: lv.filter (fun q => !(q.1 == i) && !(q.1 + 1 == i && q.2.category == 2)) = lv') (k : WW p l e R s m args below meth c cl sl Q A D nL (pc + 1) lv' st ws) : WW p l e R s m args below meth c cl sl Q A D nL pc lv (.ref x :: st) ws :=
  fun H locs ls hl hP hD hS => lv_astore_n C.1.1 C.1.2.1 hdg hi hl hn hl' (fun ls' h' => k H locs ls' h' hP hD hS)
theorem ww_astore (C : Cx p m c cc nL s args own meth ret A D tys E) {i : Nat} {x : Nat} {lv' : List (Nat × Value)} (hdg : decode cc pc = .ok (.astore i, 2)) (hn : i < nL) (hl' : (i, Value.ref x) :: lv.filter (fun q => !(q.1 == i) && !(q.1 + 1 == i && q.2.category == 2)) = lv') (k : WW p l e R s m args below meth c cl sl Q A D nL (pc + 2) lv' st ws) : WW p l e R s m args below meth c cl sl Q A D nL pc lv (.ref x :: st) ws :=
  fun H locs ls hl hP hD hS => lv_astore C.1.1 C.1.2.1 hdg hl hn hl' (fun ls' h' => k H locs ls' h' hP hD hS)
theorem ww_lstore_n (C : Cx p m c cc nL s args own meth ret A D tys E) {k0 : Fin 4} {i : Nat} {x : Int64} {lv' : List (Nat × Value)} (hdg : decode cc pc = .ok (.lstore_n k0, 1)) (hi : (k0 : Nat) = i) (hn : i + 1 < nL) (hl' : (i, Value.long x) :: lv.filter (fun q => !(q.1 == i) && (!(q.1 == i + 1) && !(q.1 + 1 == i && q.2.category == 2))) = lv') (k : WW p l e R s m args below meth c cl sl Q A D nL (pc + 1) lv' st ws) : WW p l e R s m args below meth c cl sl Q A D nL pc lv (.long x :: st) ws :=
  fun H locs ls hl hP hD hS => lv_lstore_n C.1.1 C.1.2.1 hdg hi hl hn hl' (fun ls' h' => k H locs ls' h' hP hD hS)
theorem ww_lstore (C : Cx p m c cc nL s args own meth ret A D tys E) {i : Nat} {x : Int64} {lv' : List (Nat × Value)} (hdg : decode cc pc = .ok (.lstore i, 2)) (hn : i + 1 < nL) (hl' : (i, Value.long x) :: lv.filter (fun q => !(q.1 == i) && (!(q.1 == i + 1) && !(q.1 + 1 == i && q.2.category == 2))) = lv') (k : WW p l e R s m args below meth c cl sl Q A D nL (pc + 2) lv' st ws) : WW p l e R s m args below meth c cl sl Q A D nL pc lv (.long x :: st) ws :=
  fun H locs ls hl hP hD hS => lv_lstore C.1.1 C.1.2.1 hdg hl hn hl' (fun ls' h' => k H locs ls' h' hP hD hS)
theorem ww_iinc (C : Cx p m c cc nL s args own meth ret A D tys E) {i j : Nat} {n : Int} {x v : Int32} {lv' : List (Nat × Value)} (hdg : decode cc pc = .ok (.iinc i n, 3)) (hj : lv[j]? = some (i, .int x)) (hv : x + Int32.ofInt n = v) (hn : i < nL) (hl' : (i, Value.int v) :: lv.filter (fun q => !(q.1 == i) && !(q.1 + 1 == i && q.2.category == 2)) = lv') (k : WW p l e R s m args below meth c cl sl Q A D nL (pc + 3) lv' st ws) : WW p l e R s m args below meth c cl sl Q A D nL pc lv st ws :=
  fun H locs ls hl hP hD hS => lv_iinc C.1.1 C.1.2.1 hdg hl hj hv hn hl' (fun ls' h' => k H locs ls' h' hP hD hS)
theorem ww_iadd (C : Cx p m c cc nL s args own meth ret A D tys E) {x y : Int32} (hdg : decode cc pc = .ok (.iadd, 1)) (k : WW p l e R s m args below meth c cl sl Q A D nL (pc + 1) lv (.int (x + y) :: st) ws) : WW p l e R s m args below meth c cl sl Q A D nL pc lv (.int y :: .int x :: st) ws :=
  fun H locs ls hl hP hD hS => lv_iadd C.1.1 C.1.2.1 hdg (k H locs ls hl hP hD hS)
theorem ww_isub (C : Cx p m c cc nL s args own meth ret A D tys E) {x y : Int32} (hdg : decode cc pc = .ok (.isub, 1)) (k : WW p l e R s m args below meth c cl sl Q A D nL (pc + 1) lv (.int (x - y) :: st) ws) : WW p l e R s m args below meth c cl sl Q A D nL pc lv (.int y :: .int x :: st) ws :=
  fun H locs ls hl hP hD hS => lv_isub C.1.1 C.1.2.1 hdg (k H locs ls hl hP hD hS)
theorem ww_imul (C : Cx p m c cc nL s args own meth ret A D tys E) {x y : Int32} (hdg : decode cc pc = .ok (.imul, 1)) (k : WW p l e R s m args below meth c cl sl Q A D nL (pc + 1) lv (.int (x * y) :: st) ws) : WW p l e R s m args below meth c cl sl Q A D nL pc lv (.int y :: .int x :: st) ws :=
  fun H locs ls hl hP hD hS => lv_imul C.1.1 C.1.2.1 hdg (k H locs ls hl hP hD hS)
theorem ww_iand (C : Cx p m c cc nL s args own meth ret A D tys E) {x y : Int32} (hdg : decode cc pc = .ok (.iand, 1)) (k : WW p l e R s m args below meth c cl sl Q A D nL (pc + 1) lv (.int (x &&& y) :: st) ws) : WW p l e R s m args below meth c cl sl Q A D nL pc lv (.int y :: .int x :: st) ws :=
  fun H locs ls hl hP hD hS => lv_iand C.1.1 C.1.2.1 hdg (k H locs ls hl hP hD hS)
theorem ww_ior (C : Cx p m c cc nL s args own meth ret A D tys E) {x y : Int32} (hdg : decode cc pc = .ok (.ior, 1)) (k : WW p l e R s m args below meth c cl sl Q A D nL (pc + 1) lv (.int (x ||| y) :: st) ws) : WW p l e R s m args below meth c cl sl Q A D nL pc lv (.int y :: .int x :: st) ws :=
  fun H locs ls hl hP hD hS => lv_ior C.1.1 C.1.2.1 hdg (k H locs ls hl hP hD hS)
theorem ww_ishl (C : Cx p m c cc nL s args own meth ret A D tys E) {x y : Int32} (hdg : decode cc pc = .ok (.ishl, 1)) (k : WW p l e R s m args below meth c cl sl Q A D nL (pc + 1) lv (.int (x <<< (y &&& 31)) :: st) ws) : WW p l e R s m args below meth c cl sl Q A D nL pc lv (.int y :: .int x :: st) ws :=
  fun H locs ls hl hP hD hS => lv_ishl C.1.1 C.1.2.1 hdg (k H locs ls hl hP hD hS)
theorem ww_ishr (C : Cx p m c cc nL s args own meth ret A D tys E) {x y : Int32} (hdg : decode cc pc = .ok (.ishr, 1)) (k : WW p l e R s m args below meth c cl sl Q A D nL (pc + 1) lv (.int (x >>> (y &&& 31)) :: st) ws) : WW p l e R s m args below meth c cl sl Q A D nL pc lv (.int y :: .int x :: st) ws :=
  fun H locs ls hl hP hD hS => lv_ishr C.1.1 C.1.2.1 hdg (k H locs ls hl hP hD hS)
theorem ww_iushr (C : Cx p m c cc nL s args own meth ret A D tys E) {x y : Int32} (hdg : decode cc pc = .ok (.iushr, 1)) (k : WW p l e R s m args below meth c cl sl Q A D nL (pc + 1) lv (.int (x.toUInt32 >>> (y.toUInt32 &&& Int32.toUInt32 31)).toInt32 :: st) ws) : WW p l e R s m args below meth c cl sl Q A D nL pc lv (.int y :: .int x :: st) ws :=
  fun H locs ls hl hP hD hS => lv_iushr C.1.1 C.1.2.1 hdg rfl (k H locs ls hl hP hD hS)
theorem ww_idiv (C : Cx p m c cc nL s args own meth ret A D tys E) {x y : Int32} (hdg : decode cc pc = .ok (.idiv, 1)) (hne : ¬ y = 0) (k : WW p l e R s m args below meth c cl sl Q A D nL (pc + 1) lv (.int (x / y) :: st) ws) : WW p l e R s m args below meth c cl sl Q A D nL pc lv (.int y :: .int x :: st) ws :=
  fun H locs ls hl hP hD hS => lv_idiv C.1.1 C.1.2.1 hdg hne (k H locs ls hl hP hD hS)
theorem ww_ineg (C : Cx p m c cc nL s args own meth ret A D tys E) {x : Int32} (hdg : decode cc pc = .ok (.ineg, 1)) (k : WW p l e R s m args below meth c cl sl Q A D nL (pc + 1) lv (.int (-x) :: st) ws) : WW p l e R s m args below meth c cl sl Q A D nL pc lv (.int x :: st) ws :=
  fun H locs ls hl hP hD hS => lv_ineg C.1.1 C.1.2.1 hdg (k H locs ls hl hP hD hS)
theorem ww_ladd (C : Cx p m c cc nL s args own meth ret A D tys E) {x y : Int64} (hdg : decode cc pc = .ok (.ladd, 1)) (k : WW p l e R s m args below meth c cl sl Q A D nL (pc + 1) lv (.long (x + y) :: st) ws) : WW p l e R s m args below meth c cl sl Q A D nL pc lv (.long y :: .long x :: st) ws :=
  fun H locs ls hl hP hD hS => lv_ladd C.1.1 C.1.2.1 hdg (k H locs ls hl hP hD hS)
theorem ww_lsub (C : Cx p m c cc nL s args own meth ret A D tys E) {x y : Int64} (hdg : decode cc pc = .ok (.lsub, 1)) (k : WW p l e R s m args below meth c cl sl Q A D nL (pc + 1) lv (.long (x - y) :: st) ws) : WW p l e R s m args below meth c cl sl Q A D nL pc lv (.long y :: .long x :: st) ws :=
  fun H locs ls hl hP hD hS => lv_lsub C.1.1 C.1.2.1 hdg (k H locs ls hl hP hD hS)
theorem ww_lmul (C : Cx p m c cc nL s args own meth ret A D tys E) {x y : Int64} (hdg : decode cc pc = .ok (.lmul, 1)) (k : WW p l e R s m args below meth c cl sl Q A D nL (pc + 1) lv (.long (x * y) :: st) ws) : WW p l e R s m args below meth c cl sl Q A D nL pc lv (.long y :: .long x :: st) ws :=
  fun H locs ls hl hP hD hS => lv_lmul C.1.1 C.1.2.1 hdg (k H locs ls hl hP hD hS)
theorem ww_ldiv (C : Cx p m c cc nL s args own meth ret A D tys E) {x y : Int64} (hdg : decode cc pc = .ok (.ldiv, 1)) (hne : ¬ y = 0) (k : WW p l e R s m args below meth c cl sl Q A D nL (pc + 1) lv (.long (x / y) :: st) ws) : WW p l e R s m args below meth c cl sl Q A D nL pc lv (.long y :: .long x :: st) ws :=
  fun H locs ls hl hP hD hS => lv_ldiv C.1.1 C.1.2.1 hdg hne (k H locs ls hl hP hD hS)
theorem ww_lcmp (C : Cx p m c cc nL s args own meth ret A D tys E) {x y : Int64} (hdg : decode cc pc = .ok (.lcmp, 1)) (k : WW p l e R s m args below meth c cl sl Q A D nL (pc + 1) lv (.int (lg_cmp x y) :: st) ws) : WW p l e R s m args below meth c cl sl Q A D nL pc lv (.long y :: .long x :: st) ws :=
  fun H locs ls hl hP hD hS => W.lcmp C.1.1 C.1.2.1 hdg (k H locs ls hl hP hD hS)
theorem ww_i2l (C : Cx p m c cc nL s args own meth ret A D tys E) {x : Int32} (hdg : decode cc pc = .ok (.i2l, 1)) (k : WW p l e R s m args below meth c cl sl Q A D nL (pc + 1) lv (.long x.toInt64 :: st) ws) : WW p l e R s m args below meth c cl sl Q A D nL pc lv (.int x :: st) ws :=
  fun H locs ls hl hP hD hS => lv_i2l C.1.1 C.1.2.1 hdg rfl (k H locs ls hl hP hD hS)
theorem ww_l2i (C : Cx p m c cc nL s args own meth ret A D tys E) {x : Int64} (hdg : decode cc pc = .ok (.l2i, 1)) (k : WW p l e R s m args below meth c cl sl Q A D nL (pc + 1) lv (.int x.toInt32 :: st) ws) : WW p l e R s m args below meth c cl sl Q A D nL pc lv (.long x :: st) ws :=
  fun H locs ls hl hP hD hS => lv_l2i C.1.1 C.1.2.1 hdg rfl (k H locs ls hl hP hD hS)
theorem ww_dup (C : Cx p m c cc nL s args own meth ret A D tys E) {v : Value} (hdg : decode cc pc = .ok (.dup, 1)) (hv : v.category = 1) (k : WW p l e R s m args below meth c cl sl Q A D nL (pc + 1) lv (v :: v :: st) ws) : WW p l e R s m args below meth c cl sl Q A D nL pc lv (v :: st) ws :=
  fun H locs ls hl hP hD hS => lv_dup C.1.1 C.1.2.1 hdg hv (k H locs ls hl hP hD hS)
theorem ww_dup2 (C : Cx p m c cc nL s args own meth ret A D tys E) {v w : Value} (hdg : decode cc pc = .ok (.dup2, 1)) (hv : v.category = 1) (hw : w.category = 1) (k : WW p l e R s m args below meth c cl sl Q A D nL (pc + 1) lv (v :: w :: v :: w :: st) ws) : WW p l e R s m args below meth c cl sl Q A D nL pc lv (v :: w :: st) ws :=
  fun H locs ls hl hP hD hS => lv_dup2_11 C.1.1 C.1.2.1 hdg hv hw (k H locs ls hl hP hD hS)
theorem ww_pop (C : Cx p m c cc nL s args own meth ret A D tys E) {v : Value} (hdg : decode cc pc = .ok (.pop, 1)) (hv : v.category = 1) (k : WW p l e R s m args below meth c cl sl Q A D nL (pc + 1) lv st ws) : WW p l e R s m args below meth c cl sl Q A D nL pc lv (v :: st) ws :=
  fun H locs ls hl hP hD hS => lv_pop C.1.1 C.1.2.1 hdg hv (k H locs ls hl hP hD hS)
theorem ww_goto (C : Cx p m c cc nL s args own meth ret A D tys E) {off : Int} {tgt : Nat} (hdg : decode cc pc = .ok (.goto off, 3)) (ht : (pc : Int) + off = (tgt : Int)) (k : WW p l e R s m args below meth c cl sl Q A D nL tgt lv st ws) : WW p l e R s m args below meth c cl sl Q A D nL pc lv st ws :=
  fun H locs ls hl hP hD hS => lv_goto C.1.1 C.1.2.1 hdg ht (k H locs ls hl hP hD hS)
theorem ww_if_eq (C : Cx p m c cc nL s args own meth ret A D tys E) {x : Int32} {off : Int} {tgt : Nat} (hdg : decode cc pc = .ok (.ifCond .eq off, 3)) (ht : (pc : Int) + off = (tgt : Int)) (kt : x = 0 → WW p l e R s m args below meth c cl sl Q A D nL tgt lv st ws) (kf : ¬ x = 0 → WW p l e R s m args below meth c cl sl Q A D nL (pc + 3) lv st ws) : WW p l e R s m args below meth c cl sl Q A D nL pc lv (.int x :: st) ws :=
  fun H locs ls hl hP hD hS => lv_if_eq C.1.1 C.1.2.1 hdg ht (fun h => kt h H locs ls hl hP hD hS) (fun h => kf h H locs ls hl hP hD hS)
theorem ww_icmp_eq (C : Cx p m c cc nL s args own meth ret A D tys E) {x y : Int32} {off : Int} {tgt : Nat} (hdg : decode cc pc = .ok (.if_icmp .eq off, 3)) (ht : (pc : Int) + off = (tgt : Int)) (kt : x = y → WW p l e R s m args below meth c cl sl Q A D nL tgt lv st ws) (kf : ¬ x = y → WW p l e R s m args below meth c cl sl Q A D nL (pc + 3) lv st ws) : WW p l e R s m args below meth c cl sl Q A D nL pc lv (.int y :: .int x :: st) ws :=
  fun H locs ls hl hP hD hS => lv_icmp_eq C.1.1 C.1.2.1 hdg ht (fun h => kt h H locs ls hl hP hD hS) (fun h => kf h H locs ls hl hP hD hS)
theorem ww_if_ne (C : Cx p m c cc nL s args own meth ret A D tys E) {x : Int32} {off : Int} {tgt : Nat} (hdg : decode cc pc = .ok (.ifCond .ne off, 3)) (ht : (pc : Int) + off = (tgt : Int)) (kt : ¬ x = 0 → WW p l e R s m args below meth c cl sl Q A D nL tgt lv st ws) (kf : x = 0 → WW p l e R s m args below meth c cl sl Q A D nL (pc + 3) lv st ws) : WW p l e R s m args below meth c cl sl Q A D nL pc lv (.int x :: st) ws :=
  fun H locs ls hl hP hD hS => lv_if_ne C.1.1 C.1.2.1 hdg ht (fun h => kt h H locs ls hl hP hD hS) (fun h => kf h H locs ls hl hP hD hS)
theorem ww_icmp_ne (C : Cx p m c cc nL s args own meth ret A D tys E) {x y : Int32} {off : Int} {tgt : Nat} (hdg : decode cc pc = .ok (.if_icmp .ne off, 3)) (ht : (pc : Int) + off = (tgt : Int)) (kt : ¬ x = y → WW p l e R s m args below meth c cl sl Q A D nL tgt lv st ws) (kf : x = y → WW p l e R s m args below meth c cl sl Q A D nL (pc + 3) lv st ws) : WW p l e R s m args below meth c cl sl Q A D nL pc lv (.int y :: .int x :: st) ws :=
  fun H locs ls hl hP hD hS => lv_icmp_ne C.1.1 C.1.2.1 hdg ht (fun h => kt h H locs ls hl hP hD hS) (fun h => kf h H locs ls hl hP hD hS)
theorem ww_if_lt (C : Cx p m c cc nL s args own meth ret A D tys E) {x : Int32} {off : Int} {tgt : Nat} (hdg : decode cc pc = .ok (.ifCond .lt off, 3)) (ht : (pc : Int) + off = (tgt : Int)) (kt : x < 0 → WW p l e R s m args below meth c cl sl Q A D nL tgt lv st ws) (kf : ¬ x < 0 → WW p l e R s m args below meth c cl sl Q A D nL (pc + 3) lv st ws) : WW p l e R s m args below meth c cl sl Q A D nL pc lv (.int x :: st) ws :=
  fun H locs ls hl hP hD hS => lv_if_lt C.1.1 C.1.2.1 hdg ht (fun h => kt h H locs ls hl hP hD hS) (fun h => kf h H locs ls hl hP hD hS)
theorem ww_icmp_lt (C : Cx p m c cc nL s args own meth ret A D tys E) {x y : Int32} {off : Int} {tgt : Nat} (hdg : decode cc pc = .ok (.if_icmp .lt off, 3)) (ht : (pc : Int) + off = (tgt : Int)) (kt : x < y → WW p l e R s m args below meth c cl sl Q A D nL tgt lv st ws) (kf : ¬ x < y → WW p l e R s m args below meth c cl sl Q A D nL (pc + 3) lv st ws) : WW p l e R s m args below meth c cl sl Q A D nL pc lv (.int y :: .int x :: st) ws :=
  fun H locs ls hl hP hD hS => lv_icmp_lt C.1.1 C.1.2.1 hdg ht (fun h => kt h H locs ls hl hP hD hS) (fun h => kf h H locs ls hl hP hD hS)
theorem ww_if_ge (C : Cx p m c cc nL s args own meth ret A D tys E) {x : Int32} {off : Int} {tgt : Nat} (hdg : decode cc pc = .ok (.ifCond .ge off, 3)) (ht : (pc : Int) + off = (tgt : Int)) (kt : 0 ≤ x → WW p l e R s m args below meth c cl sl Q A D nL tgt lv st ws) (kf : ¬ 0 ≤ x → WW p l e R s m args below meth c cl sl Q A D nL (pc + 3) lv st ws) : WW p l e R s m args below meth c cl sl Q A D nL pc lv (.int x :: st) ws :=
  fun H locs ls hl hP hD hS => lv_if_ge C.1.1 C.1.2.1 hdg ht (fun h => kt h H locs ls hl hP hD hS) (fun h => kf h H locs ls hl hP hD hS)
theorem ww_icmp_ge (C : Cx p m c cc nL s args own meth ret A D tys E) {x y : Int32} {off : Int} {tgt : Nat} (hdg : decode cc pc = .ok (.if_icmp .ge off, 3)) (ht : (pc : Int) + off = (tgt : Int)) (kt : y ≤ x → WW p l e R s m args below meth c cl sl Q A D nL tgt lv st ws) (kf : ¬ y ≤ x → WW p l e R s m args below meth c cl sl Q A D nL (pc + 3) lv st ws) : WW p l e R s m args below meth c cl sl Q A D nL pc lv (.int y :: .int x :: st) ws :=
  fun H locs ls hl hP hD hS => lv_icmp_ge C.1.1 C.1.2.1 hdg ht (fun h => kt h H locs ls hl hP hD hS) (fun h => kf h H locs ls hl hP hD hS)
theorem ww_if_gt (C : Cx p m c cc nL s args own meth ret A D tys E) {x : Int32} {off : Int} {tgt : Nat} (hdg : decode cc pc = .ok (.ifCond .gt off, 3)) (ht : (pc : Int) + off = (tgt : Int)) (kt : 0 < x → WW p l e R s m args below meth c cl sl Q A D nL tgt lv st ws) (kf : ¬ 0 < x → WW p l e R s m args below meth c cl sl Q A D nL (pc + 3) lv st ws) : WW p l e R s m args below meth c cl sl Q A D nL pc lv (.int x :: st) ws :=
  fun H locs ls hl hP hD hS => lv_if_gt C.1.1 C.1.2.1 hdg ht (fun h => kt h H locs ls hl hP hD hS) (fun h => kf h H locs ls hl hP hD hS)
theorem ww_icmp_gt (C : Cx p m c cc nL s args own meth ret A D tys E) {x y : Int32} {off : Int} {tgt : Nat} (hdg : decode cc pc = .ok (.if_icmp .gt off, 3)) (ht : (pc : Int) + off = (tgt : Int)) (kt : y < x → WW p l e R s m args below meth c cl sl Q A D nL tgt lv st ws) (kf : ¬ y < x → WW p l e R s m args below meth c cl sl Q A D nL (pc + 3) lv st ws) : WW p l e R s m args below meth c cl sl Q A D nL pc lv (.int y :: .int x :: st) ws :=
  fun H locs ls hl hP hD hS => lv_icmp_gt C.1.1 C.1.2.1 hdg ht (fun h => kt h H locs ls hl hP hD hS) (fun h => kf h H locs ls hl hP hD hS)
theorem ww_if_le (C : Cx p m c cc nL s args own meth ret A D tys E) {x : Int32} {off : Int} {tgt : Nat} (hdg : decode cc pc = .ok (.ifCond .le off, 3)) (ht : (pc : Int) + off = (tgt : Int)) (kt : x ≤ 0 → WW p l e R s m args below meth c cl sl Q A D nL tgt lv st ws) (kf : ¬ x ≤ 0 → WW p l e R s m args below meth c cl sl Q A D nL (pc + 3) lv st ws) : WW p l e R s m args below meth c cl sl Q A D nL pc lv (.int x :: st) ws :=
  fun H locs ls hl hP hD hS => lv_if_le C.1.1 C.1.2.1 hdg ht (fun h => kt h H locs ls hl hP hD hS) (fun h => kf h H locs ls hl hP hD hS)
theorem ww_icmp_le (C : Cx p m c cc nL s args own meth ret A D tys E) {x y : Int32} {off : Int} {tgt : Nat} (hdg : decode cc pc = .ok (.if_icmp .le off, 3)) (ht : (pc : Int) + off = (tgt : Int)) (kt : x ≤ y → WW p l e R s m args below meth c cl sl Q A D nL tgt lv st ws) (kf : ¬ x ≤ y → WW p l e R s m args below meth c cl sl Q A D nL (pc + 3) lv st ws) : WW p l e R s m args below meth c cl sl Q A D nL pc lv (.int y :: .int x :: st) ws :=
  fun H locs ls hl hP hD hS => lv_icmp_le C.1.1 C.1.2.1 hdg ht (fun h => kt h H locs ls hl hP hD hS) (fun h => kf h H locs ls hl hP hD hS)
theorem ww_tableIn (C : Cx p m c cc nL s args own meth ret A D tys E) {dflt lo hi : Int} {offs : Array Int} {len : Nat} {x : Int32} {off : Int} {tgt : Nat} (hdg : decode cc pc = .ok (.tableswitch dflt lo hi offs, len)) (h1 : ¬ x.toInt < lo) (h2 : ¬ hi < x.toInt) (ho : offs[(x.toInt - lo).toNat]? = some off) (ht : (pc : Int) + off = (tgt : Int)) (k : WW p l e R s m args below meth c cl sl Q A D nL tgt lv st ws) : WW p l e R s m args below meth c cl sl Q A D nL pc lv (.int x :: st) ws :=
  fun H locs ls hl hP hD hS => lv_tableIn C.1.1 C.1.2.1 hdg h1 h2 ho ht (k H locs ls hl hP hD hS)
theorem ww_tableOut (C : Cx p m c cc nL s args own meth ret A D tys E) {dflt lo hi : Int} {offs : Array Int} {len : Nat} {x : Int32} {tgt : Nat} (hdg : decode cc pc = .ok (.tableswitch dflt lo hi offs, len)) (h : x.toInt < lo ∨ hi < x.toInt) (ht : (pc : Int) + dflt = (tgt : Int)) (k : WW p l e R s m args below meth c cl sl Q A D nL tgt lv st ws) : WW p l e R s m args below meth c cl sl Q A D nL pc lv (.int x :: st) ws :=
  fun H locs ls hl hP hD hS => lv_tableOut C.1.1 C.1.2.1 hdg h ht (k H locs ls hl hP hD hS)
theorem ww_nI {x : Int32} (k : ∀ y : Int32, y = x → WW p l e R s m args below meth c cl sl Q A D nL pc lv (.int y :: st) ws) : WW p l e R s m args below meth c cl sl Q A D nL pc lv (.int x :: st) ws := k x rfl
theorem ww_nL {x : Int64} (k : ∀ y : Int64, y = x → WW p l e R s m args below meth c cl sl Q A D nL pc lv (.long y :: st) ws) : WW p l e R s m args below meth c cl sl Q A D nL pc lv (.long x :: st) ws := k x rfl
theorem ww_sub (js : List Nat) {lv' : List (Nat × Value)} (h : lv_pick lv js = lv') (k : WW p l e R s m args below meth c cl sl Q A D nL pc lv' st ws) : WW p l e R s m args below meth c cl sl Q A D nL pc lv st ws :=
  fun H locs ls hl hP hD hS => k H locs ls (lv_sub hl js h) hP hD hS
theorem ww_perm (is : List Nat) {ws' : va_W} (h1 : is.filterMap (fun i => ws[i]?) = ws') (h2 : va_nd is = true) (h3 : is.map (fun i => ws[i]?) = ws'.map some) (k : WW p l e R s m args below meth c cl sl Q A D nL pc lv st ws') : WW p l e R s m args below meth c cl sl Q A D nL pc lv st ws :=
  fun H locs ls hl hP hD hS => k H locs ls hl (hP.sub is h1) (hD.sub is h2 h3) hS
theorem ww_get (C : Cx p m c cc nL s args own meth ret A D tys E) {Cn : String} {T : u_T} {N ci : Nat} (hin : ∀ w ∈ u_ws Cn T N, w ∈ TB) (hc : vwCl[ci]? = some (Cn, T, N)) (f : Nat) (hk : f < N) {index : Nat} (hlink : Cond.fieldLink own index (T f).1 (T f).2.1 (T f).2.2.1 ∈ TB) {v : Value} {a : Nat} (hf : FG ws a ci f v) (hdg : decode cc pc = .ok (.getfield index, 3)) (k : WW p l e R s m args below meth c cl sl Q A D nL (pc + 3) lv (v :: st) ws) : WW p l e R s m args below meth c cl sl Q A D nL pc lv (.ref a :: st) ws := by
  obtain ⟨q0, fs, he, hv⟩ := hf
  exact fun H locs ls hl hP hD hS => va_get (D := D) (ci := ci) (v := v) (C := Cn) (T := T) (N := N) C.1.1 C.1.2.1 C.1.2.2.2.2 hin C.1.2.2.2.1 C.2.2.2.1 hP q0 he hc f hk (C.1.2.2.2.2 _ hlink) (fun _ h9 => h9) hv hdg (k H locs ls hl hP hD hS)
theorem ww_put (C : Cx p m c cc nL s args own meth ret A D tys E) {Cn : String} {T : u_T} {N ci : Nat} (hin : ∀ w ∈ u_ws Cn T N, w ∈ TB) (hc : vwCl[ci]? = some (Cn, T, N)) (ty0 : Nat → FieldType) (hty : ∀ k, k < N → parseFieldDescriptor (T k).2.2.1 = some (ty0 k)) (hnm : ∀ a, a < N → ∀ b, b < N → a ≠ b → (T a).2.1 ≠ (T b).2.1) (f : Nat) (hk : f < N) {index : Nat} (hlink : Cond.fieldLink own index (T f).1 (T f).2.1 (T f).2.2.1 ∈ TB) (hfin : (T f).2.2.2 = false) {v : Value} (hn : narrow (ty0 f) v = v) (hfit : fits (ty0 f) v = true) {a : Nat} {ws' : va_W} (hf : FS ws a ci f v ws') (hdg : decode cc pc = .ok (.putfield index, 3)) (k : WW p l e R s m args below meth c cl sl Q A D nL (pc + 3) lv st ws') : WW p l e R s m args below meth c cl sl Q A D nL pc lv (v :: .ref a :: st) ws := by
  obtain ⟨q0, fs, he, hl0, hset⟩ := hf
  subst hset
  exact fun H locs ls hl hP hD hS => va_put (D := D) (ci := ci) (v := v) (ty := ty0 f) (C := Cn) (T := T) (N := N) C.1.1 C.1.2.1 C.1.2.2.2.2 hin ty0 hty hnm C.1.2.2.2.1 C.2.2.2.1 hP hD hS q0 he hc f hk (C.1.2.2.2.2 _ hlink) (fun _ h9 => h9) hfin (hty f hk) hn hfit hl0 hdg (fun H1 locs1 hP hD hS => k H1 locs1 ls hl hP hD hS)
theorem ww_iald (C : Cx p m c cc nL s args own meth ret A D tys E) (t0 : Nat) {cA : ClassId} {n : Nat} {f : Nat → Int32} {a : Nat} (ht : tys[t0]? = some (cA, .int)) (ha : AG ws a cA n f) {i : Int32} (hin : vp_in i n) (hdg : decode cc pc = .ok (.iaload, 1)) (k : WW p l e R s m args below meth c cl sl Q A D nL (pc + 1) lv (.int (f i.toNatClampNeg) :: st) ws) : WW p l e R s m args below meth c cl sl Q A D nL pc lv (.int i :: .ref a :: st) ws := by
  obtain ⟨q0, he⟩ := ha
  exact fun H locs ls hl hP hD hS => va_iald C.1.1 C.1.2.1 C.2.2.2.1 hP q0 t0 he ht hin hdg (k H locs ls hl hP hD hS)
theorem ww_zald (C : Cx p m c cc nL s args own meth ret A D tys E) (t0 : Nat) {cA : ClassId} {n : Nat} {f : Nat → Int32} {a : Nat} (ht : tys[t0]? = some (cA, .boolean)) (ha : AG ws a cA n f) {i : Int32} (hin : vp_in i n) (hdg : decode cc pc = .ok (.baload, 1)) (k : WW p l e R s m args below meth c cl sl Q A D nL (pc + 1) lv (.int (f i.toNatClampNeg) :: st) ws) : WW p l e R s m args below meth c cl sl Q A D nL pc lv (.int i :: .ref a :: st) ws := by
  obtain ⟨q0, he⟩ := ha
  exact fun H locs ls hl hP hD hS => va_zald C.1.1 C.1.2.1 C.2.2.2.1 hP q0 t0 he ht hin hdg (k H locs ls hl hP hD hS)
theorem ww_iast (C : Cx p m c cc nL s args own meth ret A D tys E) (t0 : Nat) {cA : ClassId} {n : Nat} {f : Nat → Int32} {a : Nat} (ht : tys[t0]? = some (cA, .int)) {i x : Int32} {ws' : va_W} (ha : AS ws a cA n f (upd f i.toNatClampNeg x) ws') (hin : vp_in i n) (hdg : decode cc pc = .ok (.iastore, 1)) (k : WW p l e R s m args below meth c cl sl Q A D nL (pc + 1) lv st ws') : WW p l e R s m args below meth c cl sl Q A D nL pc lv (.int x :: .int i :: .ref a :: st) ws := by
  obtain ⟨q0, he, hset⟩ := ha
  subst hset
  exact fun H locs ls hl hP hD hS => va_iast C.1.1 C.1.2.1 C.2.2.2.1 hP hD hS q0 t0 he ht hin hdg (fun H1 locs1 hP hD hS => k H1 locs1 ls hl hP hD hS)
theorem ww_zast (C : Cx p m c cc nL s args own meth ret A D tys E) (t0 : Nat) {cA : ClassId} {n : Nat} {f : Nat → Int32} {a : Nat} (ht : tys[t0]? = some (cA, .boolean)) {i x : Int32} {ws' : va_W} (ha : AS ws a cA n f (upd f i.toNatClampNeg (vp_nar .boolean x)) ws') (hin : vp_in i n) (hdg : decode cc pc = .ok (.bastore, 1)) (k : WW p l e R s m args below meth c cl sl Q A D nL (pc + 1) lv st ws') : WW p l e R s m args below meth c cl sl Q A D nL pc lv (.int x :: .int i :: .ref a :: st) ws := by
  obtain ⟨q0, he, hset⟩ := ha
  subst hset
  exact fun H locs ls hl hP hD hS => va_zast C.1.1 C.1.2.1 C.2.2.2.1 hP hD hS q0 t0 he ht hin hdg (fun H1 locs1 hP hD hS => k H1 locs1 ls hl hP hD hS)
theorem ww_alen (C : Cx p m c cc nL s args own meth ret A D tys E) (t0 : Nat) {cA : ClassId} {n : Nat} {f : Nat → Int32} {a : Nat} {ty : FieldType} (ht : tys[t0]? = some (cA, ty)) (ha : AG ws a cA n f) {v : Int32} (hv : Int32.ofNat n = v) (hdg : decode cc pc = .ok (.arraylength, 1)) (k : WW p l e R s m args below meth c cl sl Q A D nL (pc + 1) lv (.int v :: st) ws) : WW p l e R s m args below meth c cl sl Q A D nL pc lv (.ref a :: st) ws := by
  obtain ⟨q0, he⟩ := ha
  exact fun H locs ls hl hP hD hS => va_alen (x := (n, .inl f)) C.1.1 C.1.2.1 C.2.2.2.1 hP q0 t0 he ht hv hdg (k H locs ls hl hP hD hS)
theorem ww_mmax (C : Cx p m c cc nL s args own meth ret A D tys E) {x y : Int32} {index : Nat} (h1 : Cond.methodLink own index Lib.Math.max.name ∈ TB) (h2 : Cond.static Lib.Math.max.name ∈ TB) (h3 : Cond.initialized "java/lang/Math" ∈ TB) (h4 : Cond.code Lib.Math.max.name Lib.Math.max.code 2 (some .int) ∈ TB) (hR : 1 ≤ R.frames ∧ (st.map fun v => v.category).sum + 13 ≤ R.locals) (hcs : cl ≤ R.cells ∧ sl ≤ R.slots) (hdg : decode cc pc = .ok (.invokestatic index, 3)) (k : WW p l e R s m args below meth c cl sl Q A D nL (pc + 3) lv (.int (if x < y then y else x) :: st) ws) : WW p l e R s m args below meth c cl sl Q A D nL pc lv (.int y :: .int x :: st) ws :=
  fun H locs ls hl hP hD hS => va_mmax C.1.1 C.1.2.1 (C.1.2.2.1.trans hl.1.symm) C.1.2.2.2.1 (C.1.2.2.2.2 _ h1) (C.1.2.2.2.2 _ h2) (C.1.2.2.2.2 _ h3) (C.1.2.2.2.2 _ h4) hR.1 hR.2 hcs.1 hcs.2 hdg (k H locs ls hl hP hD hS)
theorem ww_mmin (C : Cx p m c cc nL s args own meth ret A D tys E) {x y : Int32} {index : Nat} (h1 : Cond.methodLink own index Lib.Math.min.name ∈ TB) (h2 : Cond.static Lib.Math.min.name ∈ TB) (h3 : Cond.initialized "java/lang/Math" ∈ TB) (h4 : Cond.code Lib.Math.min.name Lib.Math.min.code 2 (some .int) ∈ TB) (hR : 1 ≤ R.frames ∧ (st.map fun v => v.category).sum + 13 ≤ R.locals) (hcs : cl ≤ R.cells ∧ sl ≤ R.slots) (hdg : decode cc pc = .ok (.invokestatic index, 3)) (k : WW p l e R s m args below meth c cl sl Q A D nL (pc + 3) lv (.int (if y < x then y else x) :: st) ws) : WW p l e R s m args below meth c cl sl Q A D nL pc lv (.int y :: .int x :: st) ws :=
  fun H locs ls hl hP hD hS => va_mmin C.1.1 C.1.2.1 (C.1.2.2.1.trans hl.1.symm) C.1.2.2.2.1 (C.1.2.2.2.2 _ h1) (C.1.2.2.2.2 _ h2) (C.1.2.2.2.2 _ h3) (C.1.2.2.2.2 _ h4) hR.1 hR.2 hcs.1 hcs.2 hdg (k H locs ls hl hP hD hS)
theorem ww_mabs (C : Cx p m c cc nL s args own meth ret A D tys E) {x : Int32} {index : Nat} (h1 : Cond.methodLink own index Lib.Math.abs.name ∈ TB) (h2 : Cond.static Lib.Math.abs.name ∈ TB) (h3 : Cond.initialized "java/lang/Math" ∈ TB) (h4 : Cond.code Lib.Math.abs.name Lib.Math.abs.code 1 (some .int) ∈ TB) (hR : 1 ≤ R.frames ∧ (st.map fun v => v.category).sum + 13 ≤ R.locals) (hcs : cl ≤ R.cells ∧ sl ≤ R.slots) (hdg : decode cc pc = .ok (.invokestatic index, 3)) (k : WW p l e R s m args below meth c cl sl Q A D nL (pc + 3) lv (.int (if 0 ≤ x then x else 0 - x) :: st) ws) : WW p l e R s m args below meth c cl sl Q A D nL pc lv (.int x :: st) ws :=
  fun H locs ls hl hP hD hS => va_mabs C.1.1 C.1.2.1 (C.1.2.2.1.trans hl.1.symm) C.1.2.2.2.1 (C.1.2.2.2.2 _ h1) (C.1.2.2.2.2 _ h2) (C.1.2.2.2.2 _ h3) (C.1.2.2.2.2 _ h4) hR.1 hR.2 hcs.1 hcs.2 hdg (k H locs ls hl hP hD hS)
end WWs
section WWr
variable {p : Program} {l : Launch} {e : Env} {R : Room} {s : State} {m : MethodId} {args : Array Value} {below : List Frame} {meth : Method} {c : Code} {A : Nat → Prop} {D : va_G} {cl sl : Nat}
variable {cc : ByteArray} {nL : Nat} {own : String} {ret : Option FieldType} {tys : List (ClassId × FieldType)} {E : (Nat → Prop) → State → Prop} {pc : Nat} {lv : List (Nat × Value)} {S : Type} {wo : S → va_W}
/-- the ends -/
theorem ww_iret (C : Cx p m c cc nL s args own meth (some .int) A D tys E) {post : Int32 → S → Prop} {v : Int32} {u : S} (hp : post v u) (hdg : decode cc pc = .ok (.ireturn, 1)) : WW p l e R s m args below meth c cl sl (MQ below (QI D A wo post) args s cl sl A) A D nL pc lv [.int v] (wo u) :=
  fun H locs ls hl hP hD hS => W.iret (v := v) C.1.1 C.1.2.1 C.2.1 (fun t ht hW => ⟨⟨v, u, rfl, hp, by rw [ht]; exact hP, hD⟩, hS.F ht⟩) hS.2.2 hdg C.2.2.1
theorem ww_zret (C : Cx p m c cc nL s args own meth (some .boolean) A D tys E) {post : Int32 → S → Prop} {v : Int32} {u : S} (hn : nb v) (hp : post v u) (hdg : decode cc pc = .ok (.ireturn, 1)) : WW p l e R s m args below meth c cl sl (MQ below (QI D A wo post) args s cl sl A) A D nL pc lv [.int v] (wo u) :=
  fun H locs ls hl hP hD hS => W.zret (v := v) C.1.1 C.1.2.1 C.2.1 hn (fun t ht hW => ⟨⟨v, u, rfl, hp, by rw [ht]; exact hP, hD⟩, hS.F ht⟩) hS.2.2 hdg C.2.2.1
theorem ww_vret (C : Cx p m c cc nL s args own meth none A D tys E) {post : S → Prop} {u : S} (hp : post u) (hdg : decode cc pc = .ok (.return_, 1)) : WW p l e R s m args below meth c cl sl (MQ below (QV D A wo post) args s cl sl A) A D nL pc lv [] (wo u) :=
  fun H locs ls hl hP hD hS => W.vret C.1.1 C.1.2.1 C.2.1 (fun t ht hW => ⟨⟨u, rfl, hp, by rw [ht]; exact hP, hD⟩, hS.F ht⟩) hS.2.2 hdg C.2.2.1
end WWr

theorem MI_of {S : Type} {l : Launch} {D : va_G} {tys : List (ClassId × FieldType)} {E : (Nat → Prop) → State → Prop} {y : MethodName} {cc : ByteArray} {maxL : Nat} {ret : Option FieldType} {own : String} {rm : Room} {as : List Value} {ws : va_W} {wo : S → va_W} {post : Int32 → S → Prop} {lv0 : List (Nat × Value)}
    (hy : plainName y.cls = true) (hown : y.cls = own) (hlen : (lg_sl as).length ≤ maxL) (hlv : lv_args 0 as = lv0)
    (body : ∀ (p : Program) (e : Env) (s : State) (m : MethodId) (args : Array Value) (below : List Frame) (meth : Method) (c : Code) (A : Nat → Prop), Cx p m c cc maxL s args own meth ret A D tys E →
      WW p l e rm s m args below meth c 0 0 (MQ below (QI D A wo post) args s 0 0 A) A D maxL 0 lv0 [] ws) : MI l D tys E y (Cond.code y cc maxL ret) rm as ws wo post := by
  intro sz
  refine Met.ofW (cc := cc) (maxL := maxL) (ret := ret) hy rfl ?_
  intro p e s m args below meth c s₁ B hml hv
  obtain ⟨rfl, hsz, hP, hK, hN, hD0⟩ := hv
  subst hsz
  have hts : ∀ w ∈ TB, w.before as.toArray s = true := fun w h => atoms_spec (ws := Cond.code y cc maxL ret :: TB) B.pre w (List.mem_cons_of_mem _ h)
  have hown : s.vm.findClass own = some m.cls := hown ▸ findClass_of_methodNamed B.named
  have hD := hD0.self (sz := s.heap.size)
  have hl := lv_entry as (n := maxL) hlen
  rw [lg_entry_eq]
  rw [hlv] at hl
  exact body p e s m as.toArray below meth c (va_A ws s.heap.size) ⟨⟨B.exec, B.bytes, hml, hown, hts⟩, B.returns, B.notSynchronized, hK, hN, fun q h => Or.inr h⟩ s.heap [] _ hl hP hD va_S.rf
theorem MV_of {mc ms : Nat} {S : Type} {l : Launch} {D : va_G} {tys : List (ClassId × FieldType)} {E : (Nat → Prop) → State → Prop} {y : MethodName} {cc : ByteArray} {maxL : Nat} {ret : Option FieldType} {own : String} {rm : Room} {as : List Value} {ws : va_W} {wo : S → va_W} {post : S → Prop} {lv0 : List (Nat × Value)}
    (hy : plainName y.cls = true) (hown : y.cls = own) (hlen : (lg_sl as).length ≤ maxL) (hlv : lv_args 0 as = lv0)
    (body : ∀ (p : Program) (e : Env) (s : State) (m : MethodId) (args : Array Value) (below : List Frame) (meth : Method) (c : Code) (A : Nat → Prop), Cx p m c cc maxL s args own meth ret A D tys E →
      WW p l e rm s m args below meth c 0 0 (MQ below (QV D A wo post) args s mc ms A) A D maxL 0 lv0 [] ws) : MV l D tys E y (Cond.code y cc maxL ret) rm as ws wo post mc ms := by
  intro sz
  refine Met.ofW (cc := cc) (maxL := maxL) (ret := ret) hy rfl ?_
  intro p e s m args below meth c s₁ B hml hv
  obtain ⟨rfl, hsz, hP, hK, hN, hD0⟩ := hv
  subst hsz
  have hts : ∀ w ∈ TB, w.before as.toArray s = true := fun w h => atoms_spec (ws := Cond.code y cc maxL ret :: TB) B.pre w (List.mem_cons_of_mem _ h)
  have hown : s.vm.findClass own = some m.cls := hown ▸ findClass_of_methodNamed B.named
  have hD := hD0.self (sz := s.heap.size)
  have hl := lv_entry as (n := maxL) hlen
  rw [lg_entry_eq]
  rw [hlv] at hl
  exact body p e s m as.toArray below meth c (va_A ws s.heap.size) ⟨⟨B.exec, B.bytes, hml, hown, hts⟩, B.returns, B.notSynchronized, hK, hN, fun q h => Or.inr h⟩ s.heap [] _ hl hP hD va_S.rf
section WWc
variable {p : Program} {l : Launch} {e : Env} {R : Room} {s : State} {m : MethodId} {args : Array Value} {below : List Frame} {meth : Method} {c : Code} {Q : State → Prop} {A : Nat → Prop} {D : va_G} {cl sl : Nat}
variable {cc : ByteArray} {nL : Nat} {own : String} {ret : Option FieldType} {tys : List (ClassId × FieldType)} {E : (Nat → Prop) → State → Prop} {pc : Nat} {lv : List (Nat × Value)} {st : List Value} {ws : va_W} {S : Type} {wo : S → va_W}
variable {y : MethodName} {bytes : ByteArray} {maxL index n : Nat} {ret2 : Option FieldType} {rm : Room} {As rest : List Value} {b mc ms : Nat} {Cn host : String} {T : u_T} {N ci : Nat}
/-- the cells of a callee, behind the call -/
theorem ww_pre (C : Cx p m c cc nL s args own meth ret A D tys E) (hE : EOk E) {H : Heap} {locs : List Loc} (hP : va_P D vwCl ws H) (hD : va_D A ws) (hS : va_S A s.heap H locs) (hF : ∀ q, va_A ws H.size q → A q) (as : List Value) : PreS s H (PX D tys E as H.size ws) as :=
  ⟨PX_blind hE, fun U hU hW => ⟨rfl, by rw [hU], by rw [hU]; exact hP, va_K.moved hW.alike C.2.2.2.1, hE.2 A _ s U locs C.2.2.2.2.1 hW (by rw [hU]; exact hS) hF, hD.weaken (fun _ _ _ _ => trivial)⟩⟩
theorem ww_fr (C : Cx p m c cc nL s args own meth ret A D tys E) {H : Heap} {locs : List Loc} (hD : va_D A ws) (hS : va_S A s.heap H locs) : ∀ q, va_A ws H.size q → A q := by
  intro q h
  rcases h with ⟨k, e, h⟩ | h
  · exact hD.2 k (q, e) h
  · exact C.2.2.2.2.2 q (Nat.le_trans hS.1 h)

theorem ww_callVi (C : Cx p m c cc nL s args own meth ret A D tys E) (hE : EOk E) {post : Int32 → S → Prop} (hM : MI l D tys E y (Cond.code y bytes maxL ret2) rm (.ref b :: As) ws wo post) (h1 : Cond.methodLink own index y ∈ TB) (h2 : Cond.instanceMethod y ∈ TB) (h3 : Cond.selects Cn y y ∈ TB) (h4 : Cond.initialized Cn ∈ TB) (h5 : Cond.code y bytes maxL ret2 ∈ TB) (hrc : rm.cells = 0) (hrs : rm.slots = 0) (hd : y.cls = Cn ∧ y.cls ≠ "java/lang/invoke/MethodHandle" ∧ y.cls ≠ "java/lang/invoke/VarHandle" ∧ (parseMethodDescriptor y.desc).map (fun d => d.parameters.length) = some n) (hR : rm.frames + 1 ≤ R.frames ∧ 8 + (maxL + 11) + rm.locals ≤ R.locals) {fs0 : Nat} {v0 : Value} (hc : vwCl[ci]? = some (Cn, T, N)) (hrv : FG ws b ci fs0 v0) (hn : As.length = n) (hst : st = As.reverse ++ .ref b :: rest) (hcat : (rest.map fun v => v.category).sum ≤ 8) (hdg : decode cc pc = .ok (.invokevirtual index, 3)) (hcs : cl + 0 ≤ R.cells ∧ sl + 0 ≤ R.slots) 
    (k : ∀ (r : Int32) (u : S), post r u → WW p l e R s m args below meth c cl sl Q A D nL (pc + 3) lv (.int r :: rest) (wo u)) : WW p l e R s m args below meth c cl sl Q A D nL pc lv st ws := by
  subst hst
  intro H locs ls hl hP hD hS
  have hF := ww_fr C hD hS
  obtain ⟨q0, fs, he, -⟩ := hrv
  have hpp := ww_pre C hE hP hD hS hF (.ref b :: As)
  refine va_calli (va_runV (As := As) (rest := rest) C.1 (hM H.size) (cwV n C.1.2.2.2.2 (gdV h1 h2 h3 h4 h5) rfl hrc hrs hd hR) ⟨hpp.1, va_recv C.2.2.2.1 hP hc he, hpp.2⟩ rfl hn hl.1 rfl (lv_room hcat) hdg hcs) hS (fun q _ h => hF q h) hF ?_
  intro r u t H1 locs1 ht hvm hp hB hz hk hS1
  exact k r u hp H1 locs1 ls hl (ht ▸ hB.1) (hB.2.weaken (fun _ q _ h => hF q.1 h)) hS1
theorem ww_callVv (C : Cx p m c cc nL s args own meth ret A D tys E) (hE : EOk E) {post : S → Prop} (hM : MV l D tys E y (Cond.code y bytes maxL ret2) rm (.ref b :: As) ws wo post mc ms) (h1 : Cond.methodLink own index y ∈ TB) (h2 : Cond.instanceMethod y ∈ TB) (h3 : Cond.selects Cn y y ∈ TB) (h4 : Cond.initialized Cn ∈ TB) (h5 : Cond.code y bytes maxL ret2 ∈ TB) (hrc : rm.cells = mc) (hrs : rm.slots = ms) (hd : y.cls = Cn ∧ y.cls ≠ "java/lang/invoke/MethodHandle" ∧ y.cls ≠ "java/lang/invoke/VarHandle" ∧ (parseMethodDescriptor y.desc).map (fun d => d.parameters.length) = some n) (hR : rm.frames + 1 ≤ R.frames ∧ 8 + (maxL + 11) + rm.locals ≤ R.locals) {fs0 : Nat} {v0 : Value} (hc : vwCl[ci]? = some (Cn, T, N)) (hrv : FG ws b ci fs0 v0) (hn : As.length = n) (hst : st = As.reverse ++ .ref b :: rest) (hcat : (rest.map fun v => v.category).sum ≤ 8) (hdg : decode cc pc = .ok (.invokevirtual index, 3)) (hcs : cl + mc ≤ R.cells ∧ sl + ms ≤ R.slots) 
    (k : ∀ (u : S), post u → WW p l e R s m args below meth c (cl + mc) (sl + ms) Q A D nL (pc + 3) lv (rest) (wo u)) : WW p l e R s m args below meth c cl sl Q A D nL pc lv st ws := by
  subst hst
  intro H locs ls hl hP hD hS
  have hF := ww_fr C hD hS
  obtain ⟨q0, fs, he, -⟩ := hrv
  have hpp := ww_pre C hE hP hD hS hF (.ref b :: As)
  refine va_callv (va_runV (As := As) (rest := rest) C.1 (hM H.size) (cwV n C.1.2.2.2.2 (gdV h1 h2 h3 h4 h5) rfl hrc hrs hd hR) ⟨hpp.1, va_recv C.2.2.2.1 hP hc he, hpp.2⟩ rfl hn hl.1 rfl (lv_room hcat) hdg hcs) hS (fun q _ h => hF q h) hF ?_
  intro u t H1 locs1 ht hvm hp hB hz hk hS1
  exact k u hp H1 locs1 ls hl (ht ▸ hB.1) (hB.2.weaken (fun _ q _ h => hF q.1 h)) hS1
theorem ww_callSi (C : Cx p m c cc nL s args own meth ret A D tys E) (hE : EOk E) {post : Int32 → S → Prop} (hM : MI l D tys E y (Cond.code y bytes maxL ret2) rm As ws wo post) (h1 : Cond.methodLink own index y ∈ TB) (h2 : Cond.static y ∈ TB) (h3 : Cond.initialized y.cls ∈ TB) (h5 : Cond.code y bytes maxL ret2 ∈ TB) (hrc : rm.cells = 0) (hrs : rm.slots = 0) (hd : y.cls ≠ "java/lang/invoke/MethodHandle" ∧ y.cls ≠ "java/lang/invoke/VarHandle" ∧ (parseMethodDescriptor y.desc).map (fun d => d.parameters.length) = some n) (hR : rm.frames + 1 ≤ R.frames ∧ 8 + (maxL + 11) + rm.locals ≤ R.locals) (hn : As.length = n) (hst : st = As.reverse ++ rest) (hcat : (rest.map fun v => v.category).sum ≤ 8) (hdg : decode cc pc = .ok (.invokestatic index, 3)) (hcs : cl + 0 ≤ R.cells ∧ sl + 0 ≤ R.slots) 
    (k : ∀ (r : Int32) (u : S), post r u → WW p l e R s m args below meth c cl sl Q A D nL (pc + 3) lv (.int r :: rest) (wo u)) : WW p l e R s m args below meth c cl sl Q A D nL pc lv st ws := by
  subst hst
  intro H locs ls hl hP hD hS
  have hF := ww_fr C hD hS
  refine va_calli (va_runS (As := As) (rest := rest) C.1 (hM H.size) (va_cwS n C.1.2.2.2.2 (gdS h1 h2 h3 h5) rfl hrc hrs hd hR) (ww_pre C hE hP hD hS hF As) rfl hn hl.1 rfl (lv_room hcat) hdg hcs) hS (fun q _ h => hF q h) hF ?_
  intro r u t H1 locs1 ht hvm hp hB hz hk hS1
  exact k r u hp H1 locs1 ls hl (ht ▸ hB.1) (hB.2.weaken (fun _ q _ h => hF q.1 h)) hS1
theorem ww_callSv (C : Cx p m c cc nL s args own meth ret A D tys E) (hE : EOk E) {post : S → Prop} (hM : MV l D tys E y (Cond.code y bytes maxL ret2) rm As ws wo post mc ms) (h1 : Cond.methodLink own index y ∈ TB) (h2 : Cond.static y ∈ TB) (h3 : Cond.initialized y.cls ∈ TB) (h5 : Cond.code y bytes maxL ret2 ∈ TB) (hrc : rm.cells = mc) (hrs : rm.slots = ms) (hd : y.cls ≠ "java/lang/invoke/MethodHandle" ∧ y.cls ≠ "java/lang/invoke/VarHandle" ∧ (parseMethodDescriptor y.desc).map (fun d => d.parameters.length) = some n) (hR : rm.frames + 1 ≤ R.frames ∧ 8 + (maxL + 11) + rm.locals ≤ R.locals) (hn : As.length = n) (hst : st = As.reverse ++ rest) (hcat : (rest.map fun v => v.category).sum ≤ 8) (hdg : decode cc pc = .ok (.invokestatic index, 3)) (hcs : cl + mc ≤ R.cells ∧ sl + ms ≤ R.slots) 
    (k : ∀ (u : S), post u → WW p l e R s m args below meth c (cl + mc) (sl + ms) Q A D nL (pc + 3) lv (rest) (wo u)) : WW p l e R s m args below meth c cl sl Q A D nL pc lv st ws := by
  subst hst
  intro H locs ls hl hP hD hS
  have hF := ww_fr C hD hS
  refine va_callv (va_runS (As := As) (rest := rest) C.1 (hM H.size) (va_cwS n C.1.2.2.2.2 (gdS h1 h2 h3 h5) rfl hrc hrs hd hR) (ww_pre C hE hP hD hS hF As) rfl hn hl.1 rfl (lv_room hcat) hdg hcs) hS (fun q _ h => hF q h) hF ?_
  intro u t H1 locs1 ht hvm hp hB hz hk hS1
  exact k u hp H1 locs1 ls hl (ht ▸ hB.1) (hB.2.weaken (fun _ q _ h => hF q.1 h)) hS1
theorem ww_callVNi (C : Cx p m c cc nL s args own meth ret A D tys E) (hE : EOk E) {post : Int32 → S → Prop} (hM : MI l D tys E y (Cond.code y bytes maxL ret2) rm (.ref b :: As) ws wo post) (hl0 : va_Nw (.methodLinkNest own index y host) s) (hi0 : Cond.initialized y.cls ∈ TB) (hi1 : Cond.instanceMethod y ∈ TB) (hi2 : Cond.selects Cn y y ∈ TB) (h5 : Cond.code y bytes maxL ret2 ∈ TB) (hrc : rm.cells = 0) (hrs : rm.slots = 0) (hd : y.cls ≠ "java/lang/invoke/MethodHandle" ∧ y.cls ≠ "java/lang/invoke/VarHandle" ∧ (parseMethodDescriptor y.desc).map (fun d => d.parameters.length) = some n) (hR : rm.frames + 1 ≤ R.frames ∧ 8 + (maxL + 11) + rm.locals ≤ R.locals) {fs0 : Nat} {v0 : Value} (hc : vwCl[ci]? = some (Cn, T, N)) (hrv : FG ws b ci fs0 v0) (hn : As.length = n) (hst : st = As.reverse ++ .ref b :: rest) (hcat : (rest.map fun v => v.category).sum ≤ 8) (hdg : decode cc pc = .ok (.invokevirtual index, 3)) (hcs : cl + 0 ≤ R.cells ∧ sl + 0 ≤ R.slots) 
    (k : ∀ (r : Int32) (u : S), post r u → WW p l e R s m args below meth c cl sl Q A D nL (pc + 3) lv (.int r :: rest) (wo u)) : WW p l e R s m args below meth c cl sl Q A D nL pc lv st ws := by
  subst hst
  intro H locs ls hl hP hD hS
  have hF := ww_fr C hD hS
  obtain ⟨q0, fs, he, -⟩ := hrv
  have hpp := ww_pre C hE hP hD hS hF (.ref b :: As)
  refine va_calli (va_runVN (As := As) (rest := rest) C.1 (hM H.size) ⟨va_cnB n C.1.2.2.2.2 (gdC h5) rfl hrc hrs hl0 (C.1.2.2.2.2 _ hi0) hd hR, C.1.2.2.2.2 _ hi1, C.1.2.2.2.2 _ hi2⟩ ⟨hpp.1, va_recv C.2.2.2.1 hP hc he, hpp.2⟩ rfl hn hl.1 rfl (lv_room hcat) hdg hcs) hS (fun q _ h => hF q h) hF ?_
  intro r u t H1 locs1 ht hvm hp hB hz hk hS1
  exact k r u hp H1 locs1 ls hl (ht ▸ hB.1) (hB.2.weaken (fun _ q _ h => hF q.1 h)) hS1
theorem ww_callVNv (C : Cx p m c cc nL s args own meth ret A D tys E) (hE : EOk E) {post : S → Prop} (hM : MV l D tys E y (Cond.code y bytes maxL ret2) rm (.ref b :: As) ws wo post mc ms) (hl0 : va_Nw (.methodLinkNest own index y host) s) (hi0 : Cond.initialized y.cls ∈ TB) (hi1 : Cond.instanceMethod y ∈ TB) (hi2 : Cond.selects Cn y y ∈ TB) (h5 : Cond.code y bytes maxL ret2 ∈ TB) (hrc : rm.cells = mc) (hrs : rm.slots = ms) (hd : y.cls ≠ "java/lang/invoke/MethodHandle" ∧ y.cls ≠ "java/lang/invoke/VarHandle" ∧ (parseMethodDescriptor y.desc).map (fun d => d.parameters.length) = some n) (hR : rm.frames + 1 ≤ R.frames ∧ 8 + (maxL + 11) + rm.locals ≤ R.locals) {fs0 : Nat} {v0 : Value} (hc : vwCl[ci]? = some (Cn, T, N)) (hrv : FG ws b ci fs0 v0) (hn : As.length = n) (hst : st = As.reverse ++ .ref b :: rest) (hcat : (rest.map fun v => v.category).sum ≤ 8) (hdg : decode cc pc = .ok (.invokevirtual index, 3)) (hcs : cl + mc ≤ R.cells ∧ sl + ms ≤ R.slots) 
    (k : ∀ (u : S), post u → WW p l e R s m args below meth c (cl + mc) (sl + ms) Q A D nL (pc + 3) lv (rest) (wo u)) : WW p l e R s m args below meth c cl sl Q A D nL pc lv st ws := by
  subst hst
  intro H locs ls hl hP hD hS
  have hF := ww_fr C hD hS
  obtain ⟨q0, fs, he, -⟩ := hrv
  have hpp := ww_pre C hE hP hD hS hF (.ref b :: As)
  refine va_callv (va_runVN (As := As) (rest := rest) C.1 (hM H.size) ⟨va_cnB n C.1.2.2.2.2 (gdC h5) rfl hrc hrs hl0 (C.1.2.2.2.2 _ hi0) hd hR, C.1.2.2.2.2 _ hi1, C.1.2.2.2.2 _ hi2⟩ ⟨hpp.1, va_recv C.2.2.2.1 hP hc he, hpp.2⟩ rfl hn hl.1 rfl (lv_room hcat) hdg hcs) hS (fun q _ h => hF q h) hF ?_
  intro u t H1 locs1 ht hvm hp hB hz hk hS1
  exact k u hp H1 locs1 ls hl (ht ▸ hB.1) (hB.2.weaken (fun _ q _ h => hF q.1 h)) hS1
theorem ww_callSNi (C : Cx p m c cc nL s args own meth ret A D tys E) (hE : EOk E) {post : Int32 → S → Prop} (hM : MI l D tys E y (Cond.code y bytes maxL ret2) rm As ws wo post) (hl0 : va_Nw (.methodLinkNest own index y host) s) (hi0 : Cond.initialized y.cls ∈ TB) (hi1 : Cond.static y ∈ TB) (h5 : Cond.code y bytes maxL ret2 ∈ TB) (hrc : rm.cells = 0) (hrs : rm.slots = 0) (hd : y.cls ≠ "java/lang/invoke/MethodHandle" ∧ y.cls ≠ "java/lang/invoke/VarHandle" ∧ (parseMethodDescriptor y.desc).map (fun d => d.parameters.length) = some n) (hR : rm.frames + 1 ≤ R.frames ∧ 8 + (maxL + 11) + rm.locals ≤ R.locals) (hn : As.length = n) (hst : st = As.reverse ++ rest) (hcat : (rest.map fun v => v.category).sum ≤ 8) (hdg : decode cc pc = .ok (.invokestatic index, 3)) (hcs : cl + 0 ≤ R.cells ∧ sl + 0 ≤ R.slots) 
    (k : ∀ (r : Int32) (u : S), post r u → WW p l e R s m args below meth c cl sl Q A D nL (pc + 3) lv (.int r :: rest) (wo u)) : WW p l e R s m args below meth c cl sl Q A D nL pc lv st ws := by
  subst hst
  intro H locs ls hl hP hD hS
  have hF := ww_fr C hD hS
  refine va_calli (va_runSN (As := As) (rest := rest) C.1 (hM H.size) ⟨va_cnB n C.1.2.2.2.2 (gdC h5) rfl hrc hrs hl0 (C.1.2.2.2.2 _ hi0) hd hR, C.1.2.2.2.2 _ hi1, trivial⟩ (ww_pre C hE hP hD hS hF As) rfl hn hl.1 rfl (lv_room hcat) hdg hcs) hS (fun q _ h => hF q h) hF ?_
  intro r u t H1 locs1 ht hvm hp hB hz hk hS1
  exact k r u hp H1 locs1 ls hl (ht ▸ hB.1) (hB.2.weaken (fun _ q _ h => hF q.1 h)) hS1
theorem ww_callSNv (C : Cx p m c cc nL s args own meth ret A D tys E) (hE : EOk E) {post : S → Prop} (hM : MV l D tys E y (Cond.code y bytes maxL ret2) rm As ws wo post mc ms) (hl0 : va_Nw (.methodLinkNest own index y host) s) (hi0 : Cond.initialized y.cls ∈ TB) (hi1 : Cond.static y ∈ TB) (h5 : Cond.code y bytes maxL ret2 ∈ TB) (hrc : rm.cells = mc) (hrs : rm.slots = ms) (hd : y.cls ≠ "java/lang/invoke/MethodHandle" ∧ y.cls ≠ "java/lang/invoke/VarHandle" ∧ (parseMethodDescriptor y.desc).map (fun d => d.parameters.length) = some n) (hR : rm.frames + 1 ≤ R.frames ∧ 8 + (maxL + 11) + rm.locals ≤ R.locals) (hn : As.length = n) (hst : st = As.reverse ++ rest) (hcat : (rest.map fun v => v.category).sum ≤ 8) (hdg : decode cc pc = .ok (.invokestatic index, 3)) (hcs : cl + mc ≤ R.cells ∧ sl + ms ≤ R.slots) 
    (k : ∀ (u : S), post u → WW p l e R s m args below meth c (cl + mc) (sl + ms) Q A D nL (pc + 3) lv (rest) (wo u)) : WW p l e R s m args below meth c cl sl Q A D nL pc lv st ws := by
  subst hst
  intro H locs ls hl hP hD hS
  have hF := ww_fr C hD hS
  refine va_callv (va_runSN (As := As) (rest := rest) C.1 (hM H.size) ⟨va_cnB n C.1.2.2.2.2 (gdC h5) rfl hrc hrs hl0 (C.1.2.2.2.2 _ hi0) hd hR, C.1.2.2.2.2 _ hi1, trivial⟩ (ww_pre C hE hP hD hS hF As) rfl hn hl.1 rfl (lv_room hcat) hdg hcs) hS (fun q _ h => hF q h) hF ?_
  intro u t H1 locs1 ht hvm hp hB hz hk hS1
  exact k u hp H1 locs1 ls hl (ht ▸ hB.1) (hB.2.weaken (fun _ q _ h => hF q.1 h)) hS1
/-- a world beside another: a call that takes the one leaves the other -/
theorem fr_apart {A0 : Nat → Prop} {D : va_G} {wr wc : va_W} {H : Heap} (hP : va_P D vwCl (wr ++ wc) H) (hD : va_D A0 (wr ++ wc)) : ∀ (k : Nat) (q : Nat × va_E), wr[k]? = some q → q.1 < H.size ∧ ¬ va_A wc H.size q.1 := by
  intro k q hq
  have hl : k < wr.length := (List.getElem?_eq_some_iff.mp hq).1
  have hq' : (wr ++ wc)[k]? = some q := by rw [List.getElem?_append_left hl]; exact hq
  have hlt := (hP k q hq').lt
  refine ⟨hlt, fun h => ?_⟩
  rcases h with ⟨k2, e, h⟩ | h
  · have h2 : (wr ++ wc)[wr.length + k2]? = some (q.1, e) := by
      rw [List.getElem?_append_right (by omega), Nat.add_sub_cancel_left]; exact h
    have := hD.1 k (wr.length + k2) q (q.1, e) hq' h2 rfl
    omega
  · omega
theorem fr_R {A0 : Nat → Prop} {D : va_G} {wr wc w1 : va_W} {H H1 : Heap} (hP : va_P D vwCl (wr ++ wc) H) (hD : va_D A0 (wr ++ wc)) (hk : ∀ q : Nat, q < H.size → ¬ va_A wc H.size q → H1[q]? = H[q]?) (hF : ∀ q, va_A wc H.size q → A0 q) (hP1 : va_P D vwCl w1 H1) (hD1 : va_D (va_A wc H.size) w1) : va_P D vwCl (wr ++ w1) H1 ∧ va_D A0 (wr ++ w1) := by
  have ap := fr_apart hP hD
  have up : ∀ (k : Nat) (q : Nat × va_E), wr[k]? = some q → (wr ++ wc)[k]? = some q := fun k q hq => by
    rw [List.getElem?_append_left (List.getElem?_eq_some_iff.mp hq).1]; exact hq
  refine ⟨va_P.app (fun k q hq => (hP k q (up k q hq)).kept (hk q.1 (ap k q hq).1 (ap k q hq).2)) hP1, va_D.app ⟨fun i j x y hi hj hxy => hD.1 i j x y (up i x hi) (up j y hj) hxy, fun k q hq => hD.2 k q (up k q hq)⟩ (hD1.weaken (fun _ q _ h => hF q.1 h)) (fun i j x y hx hy hxy => ?_)⟩
  exact (ap i x hx).2 (by rw [hxy]; exact hD1.2 j y hy)
theorem fr_sw {D : va_G} {w1 w2 : va_W} {H : Heap} (h : va_P D vwCl (w1 ++ w2) H) : va_P D vwCl (w2 ++ w1) H := by
  refine va_P.app (fun k q hq => h (w1.length + k) q ?_) (fun k q hq => h k q ?_)
  · rw [List.getElem?_append_right (by omega), Nat.add_sub_cancel_left]; exact hq
  · rw [List.getElem?_append_left (List.getElem?_eq_some_iff.mp hq).1]; exact hq
theorem fr_swD {A : Nat → Prop} {w1 w2 : va_W} (h : va_D A (w1 ++ w2)) : va_D A (w2 ++ w1) := by
  have l : ∀ (k : Nat) (q : Nat × va_E), w1[k]? = some q → (w1 ++ w2)[k]? = some q := fun k q hq => by
    rw [List.getElem?_append_left (List.getElem?_eq_some_iff.mp hq).1]; exact hq
  have r : ∀ (k : Nat) (q : Nat × va_E), w2[k]? = some q → (w1 ++ w2)[w1.length + k]? = some q := fun k q hq => by
    rw [List.getElem?_append_right (by omega), Nat.add_sub_cancel_left]; exact hq
  refine va_D.app ⟨fun i j x y hi hj hxy => ?_, fun k q hq => h.2 _ q (r k q hq)⟩ ⟨fun i j x y hi hj hxy => h.1 i j x y (l i x hi) (l j y hj) hxy, fun k q hq => h.2 k q (l k q hq)⟩ (fun i j x y hx hy hxy => ?_)
  · have := h.1 _ _ x y (r i x hi) (r j y hj) hxy
    omega
  · have h1 := h.1 _ _ x y (r i x hx) (l j y hy) hxy
    have h2 : j < w1.length := (List.getElem?_eq_some_iff.mp hy).1
    omega
theorem fr_right {D : va_G} {A : Nat → Prop} {wr wc : va_W} {H : Heap} (hP : va_P D vwCl (wr ++ wc) H) (hD : va_D A (wr ++ wc)) : va_P D vwCl wc H ∧ va_D A wc := by
  have r : ∀ (k : Nat) (q : Nat × va_E), wc[k]? = some q → (wr ++ wc)[wr.length + k]? = some q := fun k q hq => by
    rw [List.getElem?_append_right (by omega), Nat.add_sub_cancel_left]; exact hq
  refine ⟨fun k q hq => hP _ q (r k q hq), fun i j x y hi hj hxy => ?_, fun k q hq => hD.2 _ q (r k q hq)⟩
  have := hD.1 _ _ x y (r i x hi) (r j y hj) hxy
  omega
/-- what a callee's world needs of what goes along -/
def Along (A : Nat → Prop) (s : State) (E2 : (Nat → Prop) → State → Prop) : Prop := EOk E2 ∧ ∀ (B : Nat → Prop) (U : State) (locs : List Loc), s.WarmedH U.vm → va_S A s.heap U.heap locs → (∀ q, B q → A q) → E2 B U
theorem Along.of {A : Nat → Prop} {s : State} {E2 : (Nat → Prop) → State → Prop} (h : EOk E2) (h2 : E2 A s) : Along A s E2 := ⟨h, fun B U locs hW hS hB => h.2 A B s U locs h2 hW hS hB⟩
theorem ww_preF (C : Cx p m c cc nL s args own meth ret A D tys E) {E2 : (Nat → Prop) → State → Prop} (hE : Along A s E2) {wc : va_W} {H : Heap} {locs : List Loc} (hP : va_P D vwCl wc H) (hD : va_D A wc) (hS : va_S A s.heap H locs) (hF : ∀ q, va_A wc H.size q → A q) (as : List Value) : PreS s H (PX D tys E2 as H.size wc) as :=
  ⟨PX_blind hE.1, fun U hU hW => ⟨rfl, by rw [hU], by rw [hU]; exact hP, va_K.moved hW.alike C.2.2.2.1, hE.2 _ U locs hW (by rw [hU]; exact hS) hF, hD.weaken (fun _ _ _ _ => trivial)⟩⟩
/-- a constructor's call: its world stands behind the caller's -/
theorem ww_callI (C : Cx p m c cc nL s args own meth ret A D tys E) {E2 : (Nat → Prop) → State → Prop} (hE : Along A s E2) {wr wc : va_W} {post : S → Prop} (hM : MV l D tys E2 y (Cond.code y bytes maxL none) rm (.ref b :: As) wc wo post mc ms) (h1 : Cond.methodLink own index y ∈ TB) (h2 : Cond.instanceMethod y ∈ TB) (h4 : Cond.initialized y.cls ∈ TB) (h5 : Cond.code y bytes maxL none ∈ TB) (hrc : rm.cells = mc) (hrs : rm.slots = ms) (hy : y.name = "<init>") (hd : y.cls ≠ "java/lang/invoke/MethodHandle" ∧ y.cls ≠ "java/lang/invoke/VarHandle" ∧ (parseMethodDescriptor y.desc).map (fun d => d.parameters.length) = some n) (hR : rm.frames + 1 ≤ R.frames ∧ 8 + (maxL + 11) + rm.locals ≤ R.locals) (hn : As.length = n) (hst : st = As.reverse ++ .ref b :: rest) (hws : ws = wr ++ wc) (hcat : (rest.map fun v => v.category).sum ≤ 8) (hdg : decode cc pc = .ok (.invokespecial index, 3)) (hcs : cl + mc ≤ R.cells ∧ sl + ms ≤ R.slots)
    (k : ∀ u : S, post u → WW p l e R s m args below meth c (cl + mc) (sl + ms) Q A D nL (pc + 3) lv rest (wr ++ wo u)) : WW p l e R s m args below meth c cl sl Q A D nL pc lv st ws := by
  subst hst; subst hws
  intro H locs ls hl hP hD hS
  obtain ⟨hPc, hDc⟩ := fr_right hP hD
  have hF := ww_fr C hDc hS
  refine va_callv (va_runI (As := As) (rest := rest) C.1 (hM H.size) (cwI n C.1.2.2.2.2 (gdC h5) rfl hrc hrs (C.1.2.2.2.2 _ h4) (C.1.2.2.2.2 _ h1) (C.1.2.2.2.2 _ h2) hy hd hR) (ww_preF C hE hPc hDc hS hF (.ref b :: As)) rfl hn hl.1 rfl (lv_room hcat) hdg hcs) hS (fun q _ h => hF q h) hF ?_
  intro u t H1 locs1 ht hvm hp hB hz hk hS1
  obtain ⟨hP2, hD2⟩ := fr_R hP hD hk hF (ht ▸ hB.1) hB.2
  exact k u hp H1 locs1 ls hl hP2 hD2 hS1
theorem ww_callIN (C : Cx p m c cc nL s args own meth ret A D tys E) {E2 : (Nat → Prop) → State → Prop} (hE : Along A s E2) {wr wc : va_W} {post : S → Prop} (hM : MV l D tys E2 y (Cond.code y bytes maxL none) rm (.ref b :: As) wc wo post mc ms) (h1 : va_Nw (.methodLinkNest own index y host) s) (h2 : Cond.instanceMethod y ∈ TB) (h4 : Cond.initialized y.cls ∈ TB) (h5 : Cond.code y bytes maxL none ∈ TB) (hrc : rm.cells = mc) (hrs : rm.slots = ms) (hy : y.name = "<init>") (hd : y.cls ≠ "java/lang/invoke/MethodHandle" ∧ y.cls ≠ "java/lang/invoke/VarHandle" ∧ (parseMethodDescriptor y.desc).map (fun d => d.parameters.length) = some n) (hR : rm.frames + 1 ≤ R.frames ∧ 8 + (maxL + 11) + rm.locals ≤ R.locals) (hn : As.length = n) (hst : st = As.reverse ++ .ref b :: rest) (hws : ws = wr ++ wc) (hcat : (rest.map fun v => v.category).sum ≤ 8) (hdg : decode cc pc = .ok (.invokespecial index, 3)) (hcs : cl + mc ≤ R.cells ∧ sl + ms ≤ R.slots)
    (k : ∀ u : S, post u → WW p l e R s m args below meth c (cl + mc) (sl + ms) Q A D nL (pc + 3) lv rest (wr ++ wo u)) : WW p l e R s m args below meth c cl sl Q A D nL pc lv st ws := by
  subst hst; subst hws
  intro H locs ls hl hP hD hS
  obtain ⟨hPc, hDc⟩ := fr_right hP hD
  have hF := ww_fr C hDc hS
  refine va_callv (va_runIN (As := As) (rest := rest) C.1 (hM H.size) ⟨va_cnB n C.1.2.2.2.2 (gdC h5) rfl hrc hrs h1 (C.1.2.2.2.2 _ h4) hd hR, hy, C.1.2.2.2.2 _ h2⟩ (ww_preF C hE hPc hDc hS hF (.ref b :: As)) rfl hn hl.1 rfl (lv_room hcat) hdg hcs) hS (fun q _ h => hF q h) hF ?_
  intro u t H1 locs1 ht hvm hp hB hz hk hS1
  obtain ⟨hP2, hD2⟩ := fr_R hP hD hk hF (ht ▸ hB.1) hB.2
  exact k u hp H1 locs1 ls hl hP2 hD2 hS1
/-- a method's call whose world stands behind, or ahead of, another -/
theorem ww_callFR (C : Cx p m c cc nL s args own meth ret A D tys E) {E2 : (Nat → Prop) → State → Prop} (hE : Along A s E2) {wr wc : va_W} {post : Int32 → S → Prop} (hM : MI l D tys E2 y (Cond.code y bytes maxL ret2) rm (.ref b :: As) wc wo post) (h1 : Cond.methodLink own index y ∈ TB) (h2 : Cond.instanceMethod y ∈ TB) (h3 : Cond.selects Cn y y ∈ TB) (h4 : Cond.initialized Cn ∈ TB) (h5 : Cond.code y bytes maxL ret2 ∈ TB) (hrc : rm.cells = 0) (hrs : rm.slots = 0) (hd : y.cls = Cn ∧ y.cls ≠ "java/lang/invoke/MethodHandle" ∧ y.cls ≠ "java/lang/invoke/VarHandle" ∧ (parseMethodDescriptor y.desc).map (fun d => d.parameters.length) = some n) (hR : rm.frames + 1 ≤ R.frames ∧ 8 + (maxL + 11) + rm.locals ≤ R.locals) {fs0 : Nat} {v0 : Value} (hc : vwCl[ci]? = some (Cn, T, N)) (hrv : FG wc b ci fs0 v0) (hn : As.length = n) (hst : st = As.reverse ++ .ref b :: rest) (hws : ws = wr ++ wc) (hcat : (rest.map fun v => v.category).sum ≤ 8) (hdg : decode cc pc = .ok (.invokevirtual index, 3)) (hcs : cl + 0 ≤ R.cells ∧ sl + 0 ≤ R.slots)
    (k : ∀ (r : Int32) (u : S), post r u → WW p l e R s m args below meth c cl sl Q A D nL (pc + 3) lv (.int r :: rest) (wr ++ wo u)) : WW p l e R s m args below meth c cl sl Q A D nL pc lv st ws := by
  subst hst; subst hws
  intro H locs ls hl hP hD hS
  obtain ⟨hPc, hDc⟩ := fr_right hP hD
  have hF := ww_fr C hDc hS
  obtain ⟨q0, fs, he, -⟩ := hrv
  have hpp := ww_preF C hE hPc hDc hS hF (.ref b :: As)
  refine va_calli (va_runV (As := As) (rest := rest) C.1 (hM H.size) (cwV n C.1.2.2.2.2 (gdV h1 h2 h3 h4 h5) rfl hrc hrs hd hR) ⟨hpp.1, va_recv C.2.2.2.1 hPc hc he, hpp.2⟩ rfl hn hl.1 rfl (lv_room hcat) hdg hcs) hS (fun q _ h => hF q h) hF ?_
  intro r u t H1 locs1 ht hvm hp hB hz hk hS1
  obtain ⟨hP2, hD2⟩ := fr_R hP hD hk hF (ht ▸ hB.1) hB.2
  exact k r u hp H1 locs1 ls hl hP2 hD2 hS1
theorem ww_swap {w1 w2 : va_W} (k : WW p l e R s m args below meth c cl sl Q A D nL pc lv st (w2 ++ w1)) : WW p l e R s m args below meth c cl sl Q A D nL pc lv st (w1 ++ w2) :=
  fun H locs ls hl hP hD hS => k H locs ls hl (fr_sw hP) (fr_swD hD) hS
theorem ra_of {U : State} {cA : ClassId} {ty : FieldType} (hno : ∀ C0, ty ≠ .object C0) (h : va_RA U cA ty) : U.vm.findClass ("[" ++ ty.toString) = some cA := by
  cases ty <;> first | exact h | exact absurd rfl (hno _)
/-- new cells -/
theorem ww_new (C : Cx p m c cc nL s args own meth ret A D tys E) (hin : ∀ w ∈ u_ws Cn T N, w ∈ TB) (hc : vwCl[ci]? = some (Cn, T, N)) (ty0 : Nat → FieldType) (hty : ∀ k, k < N → parseFieldDescriptor (T k).2.2.1 = some (ty0 k)) {index : Nat} (h1 : Cond.classLink own index Cn ∈ TB) (h2 : Cond.instantiable Cn N ∈ TB) (h3 : Cond.initialized Cn ∈ TB) {fs : List Value} (hfs : ∀ j, j < N → defaultValue (ty0 j) = vp_V fs j) (hcs : cl + 1 ≤ R.cells ∧ sl + N ≤ R.slots) (hdg : decode cc pc = .ok (.new index, 3)) (k : ∀ q : Nat, WW p l e R s m args below meth c (cl + 1) (sl + N) Q A D nL (pc + 3) lv (.ref q :: st) (ws ++ [(q, .inr (ci, fs))])) : WW p l e R s m args below meth c cl sl Q A D nL pc lv st ws :=
  fun H locs ls hl hP hD hS => va_new (ci := ci) (fs := fs) (C := Cn) (T := T) (N := N) C.1.1 C.1.2.1 C.1.2.2.2.2 hin ty0 hty C.1.2.2.2.1 (C.1.2.2.2.2 _ h1) (C.1.2.2.2.2 _ h2) (C.1.2.2.2.2 _ h3) C.2.2.2.1 hP hD hS C.2.2.2.2.2 hc hfs hcs.1 hcs.2 hdg (fun q H1 hP hD hS => k q H1 locs ls hl hP hD hS)
theorem ww_newa (C : Cx p m c cc nL s args own meth ret A D tys E) {atype : ArrayType} {ty : FieldType} (hty : newarray.typeOf atype = ty) (ha0 : Cond.arrayClass ty ∈ TB) (t0 : Nat) {cA : ClassId} (ht : tys[t0]? = some (cA, ty)) (hno : ∀ C0, ty ≠ .object C0) {n0 : Int32} {N' : Nat} (ha : ∀ cA : ClassId, vp_cell cA (N', .inl (fun _ => 0)) = arrV cA N' (fun _ => defaultValue ty)) (hn : ¬ n0 < 0) (hN : n0.toNatClampNeg = N') (hbytes : N' * componentBytes ty ≤ 536870912) (hcs : cl + 1 ≤ R.cells ∧ sl + N' ≤ R.slots) (hdg : decode cc pc = .ok (.newarray atype, 2))
    (k : ∀ q : Nat, WW p l e R s m args below meth c (cl + 1) (sl + N') Q A D nL (pc + 2) lv (.ref q :: st) (ws ++ [(q, .inl (cA, N', .inl (fun _ => 0)))])) : WW p l e R s m args below meth c cl sl Q A D nL pc lv (.int n0 :: st) ws := by
  intro H locs ls hl hP hD hS
  refine va_newa C.1.1 C.1.2.1 (by rw [hty]; exact C.1.2.2.2.2 _ ha0) hty C.2.2.2.1 hP hD hS C.2.2.2.2.2 ha hn hN hbytes hcs.1 hcs.2 hdg (fun q cB H1 hK2 hP hD hS => ?_)
  have e1 : cB = cA := by
    have h1 := (hK2.2 tys.length (cB, ty) (by rw [List.getElem?_append_right (Nat.le_refl _), Nat.sub_self]; rfl)).2
    have h2 := (C.2.2.2.1.2 t0 (cA, ty) ht).2
    exact Option.some.inj ((ra_of hno h1).symm.trans (ra_of hno h2))
  subst e1
  exact k q H1 locs ls hl hP hD hS
theorem ww_objInit (C : Cx p m c cc nL s args own meth ret A D tys E) {index b : Nat} (h1 : Cond.methodLink own index objectInit ∈ TB) (h2 : Cond.instanceMethod objectInit ∈ TB) (h3 : Cond.code objectInit ⟨#[0xb1]⟩ 1 none ∈ TB) (hR : 1 ≤ R.frames ∧ (rest.map fun v => v.category).sum + 12 ≤ R.locals) (hdg : decode cc pc = .ok (.invokespecial index, 3)) (k : WW p l e R s m args below meth c cl sl Q A D nL (pc + 3) lv rest ws) : WW p l e R s m args below meth c cl sl Q A D nL pc lv (.ref b :: rest) ws :=
  fun H locs ls hl hP hD hS => W.objInit C.1.1 C.1.2.1 C.1.2.2.2.1 (C.1.2.2.2.2 _ h1) (C.1.2.2.2.2 _ h2) (C.1.2.2.2.2 _ h3) (g := F0 m pc ls (.ref b :: rest)) rfl (by rw [C.1.2.2.1]; exact hl.1) rfl hdg hR.1 (by show 2 * 0 + _ + 12 ≤ _; omega) (k H locs ls hl hP hD hS)
theorem ww_putF (C : Cx p m c cc nL s args own meth ret A D tys E) (hin2 : meth.name = "<init>") (hin : ∀ w ∈ u_ws Cn T N, w ∈ TB) (hc : vwCl[ci]? = some (Cn, T, N)) (ty0 : Nat → FieldType) (hty : ∀ k, k < N → parseFieldDescriptor (T k).2.2.1 = some (ty0 k)) (hnm : ∀ a, a < N → ∀ b, b < N → a ≠ b → (T a).2.1 ≠ (T b).2.1) (f : Nat) (hk : f < N) {index : Nat} (hlink : Cond.fieldLink own index (T f).1 (T f).2.1 (T f).2.2.1 ∈ TB) (hfin : (T f).2.2.2 = true) (hdecl : (T f).1 = own) {v : Value} (hn : narrow (ty0 f) v = v) (hfit : fits (ty0 f) v = true) {a : Nat} {ws' : va_W} (hf : FS ws a ci f v ws') (hdg : decode cc pc = .ok (.putfield index, 3)) (k : WW p l e R s m args below meth c cl sl Q A D nL (pc + 3) lv st ws') : WW p l e R s m args below meth c cl sl Q A D nL pc lv (v :: .ref a :: st) ws := by
  obtain ⟨q0, fs, he, hl0, hset⟩ := hf
  subst hset
  exact fun H locs ls hl hP hD hS => va_putF (D := D) (ci := ci) (v := v) (ty := ty0 f) (C := Cn) (T := T) (N := N) C.1.1 C.1.2.1 C.1.2.2.2.2 hin ty0 hty hnm C.1.2.2.2.1 C.2.2.2.1 hP hD hS q0 he hc f hk (C.1.2.2.2.2 _ hlink) (fun _ h9 => h9) hfin hin2 hdecl (hty f hk) hn hfit hl0 hdg (fun H1 locs1 hP hD hS => k H1 locs1 ls hl hP hD hS)
theorem ww_iastK (C : Cx p m c cc nL s args own meth ret A D tys E) (t0 : Nat) {cA : ClassId} {n0 kk : Nat} {f : Nat → Int32} {a : Nat} (ht : tys[t0]? = some (cA, .int)) {i x : Int32} {ws' : va_W} (hkk : i.toNatClampNeg = kk) (ha : AS ws a cA n0 f (upd f kk x) ws') (hin : vp_in i n0) (hdg : decode cc pc = .ok (.iastore, 1)) (k : WW p l e R s m args below meth c cl sl Q A D nL (pc + 1) lv st ws') : WW p l e R s m args below meth c cl sl Q A D nL pc lv (.int x :: .int i :: .ref a :: st) ws := by
  subst hkk
  exact ww_iast C t0 ht ha hin hdg k
theorem ww_widen {cl' sl' : Nat} (h1 : cl ≤ cl') (h2 : sl ≤ sl') (k : WW p l e R s m args below meth c cl' sl' Q A D nL pc lv st ws) : WW p l e R s m args below meth c cl sl Q A D nL pc lv st ws :=
  fun H locs ls hl hP hD hS => W.widen h1 h2 (k H locs ls hl hP hD hS)
theorem ww_ws {ws' : va_W} (h : ws = ws') (k : WW p l e R s m args below meth c cl sl Q A D nL pc lv st ws') : WW p l e R s m args below meth c cl sl Q A D nL pc lv st ws := h ▸ k

end WWc
theorem MN_of {mc ms : Nat} {S : Type} {l : Launch} {D : va_G} {tys : List (ClassId × FieldType)} {E : (Nat → Prop) → State → Prop} {y : MethodName} {cc : ByteArray} {maxL : Nat} {own : String} {rm : Room} {as : List Value} {ws : va_W} {wo : S → va_W} {post : S → Prop} {lv0 : List (Nat × Value)}
    (hy : plainName y.cls = true) (hown : y.cls = own) (hnm : y.name = "<init>") (hlen : (lg_sl as).length ≤ maxL) (hlv : lv_args 0 as = lv0)
    (body : ∀ (p : Program) (e : Env) (s : State) (m : MethodId) (args : Array Value) (below : List Frame) (meth : Method) (c : Code) (A : Nat → Prop), Cx p m c cc maxL s args own meth none A D tys E → meth.name = "<init>" →
      WW p l e rm s m args below meth c 0 0 (MQ below (QV D A wo post) args s mc ms A) A D maxL 0 lv0 [] ws) : MV l D tys E y (Cond.code y cc maxL none) rm as ws wo post mc ms := by
  intro sz
  refine Met.ofW (cc := cc) (maxL := maxL) (ret := none) hy rfl ?_
  intro p e s m args below meth c s₁ B hml hv
  obtain ⟨rfl, hsz, hP, hK, hN, hD0⟩ := hv
  subst hsz
  have hts : ∀ w ∈ TB, w.before as.toArray s = true := fun w h => atoms_spec (ws := Cond.code y cc maxL none :: TB) B.pre w (List.mem_cons_of_mem _ h)
  have hown : s.vm.findClass own = some m.cls := hown ▸ findClass_of_methodNamed B.named
  have hD := hD0.self (sz := s.heap.size)
  have hl := lv_entry as (n := maxL) hlen
  rw [lg_entry_eq]
  rw [hlv] at hl
  exact body p e s m as.toArray below meth c (va_A ws s.heap.size) ⟨⟨B.exec, B.bytes, hml, hown, hts⟩, B.returns, B.notSynchronized, hK, hN, fun q h => Or.inr h⟩ (hnm ▸ (name_of_methodNamed B.named B.method).1) s.heap [] _ hl hP hD va_S.rf
abbrev UU : Type := (Nat → Int32) × (Nat → Nat → Int32) × (Nat → Int64)
def sI (u : UU) (k : Nat) (v : Int32) : UU := (va_up u.1 k v, u.2)
def sA (u : UU) (k : Nat) (f : Nat → Int32) : UU := (u.1, va_up u.2.1 k f, u.2.2)
def sL (u : UU) (k : Nat) (v : Int64) : UU := (u.1, u.2.1, va_up u.2.2 k v)
theorem ww_nU {p : Program} {l : Launch} {e : Env} {R : Room} {s : State} {m : MethodId} {args : Array Value} {below : List Frame} {meth : Method} {c : Code} {Q : State → Prop} {A : Nat → Prop} {D : va_G} {cl sl nL pc : Nat} {lv : List (Nat × Value)} {st : List Value} (w : UU → va_W) {u0 : UU} (k : ∀ u : UU, u = u0 → WW p l e R s m args below meth c cl sl Q A D nL pc lv st (w u)) : WW p l e R s m args below meth c cl sl Q A D nL pc lv st (w u0) := k u0 rfl
theorem sw_out {x : Int32} {hi : Int} (h0 : x.toInt < 0 ∨ hi < x.toInt) : x.toInt < 0 ∨ hi < x.toInt := h0
theorem sw_ne {x : Int32} {k : Int} {n : Int32} (h : ¬ x = n) (hk : n.toInt = k) : ¬ x.toInt = k := fun q => h (Int32.toInt_inj.mp (by rw [hk]; exact q))

theorem ite_t {q : Prop} [Decidable q] {a b : Prop} (h : if q then a else b) (hq : q) : a := by rw [if_pos hq] at h; exact h
theorem ite_f {q : Prop} [Decidable q] {a b : Prop} (h : if q then a else b) (hq : ¬ q) : b := by rw [if_neg hq] at h; exact h

