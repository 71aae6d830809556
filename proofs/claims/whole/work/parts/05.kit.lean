/-! my own rows: options, loops, joins; worlds and contracts of this claim -/
-- choices
-- binds
-- loops
theorem mathRows9 : (Jvm.natives.all fun r => r.cls != "java/lang/Math" || r.desc != "(II)I") = true := by decide +kernel
theorem intRows9 : (Jvm.natives.all fun r => r.cls != "java/lang/Integer" || r.desc != "(I)I") = true := by decide +kernel
theorem mathPlain9 {x : MethodName} (hc : x.cls = "java/lang/Math") (hd : x.desc = "(II)I") : plainFor x = true := by
  unfold plainFor
  rw [Bool.or_eq_true]; right
  rw [Option.isNone_iff_eq_none, NativeRow.find?, List.find?_eq_none]
  intro r hr h
  have := List.all_eq_true.mp mathRows9 r hr
  simp only [Bool.and_eq_true, beq_iff_eq] at h
  rw [h.1.2, h.2, hc, hd] at this
  simp at this
theorem Met_ofWF {l : Launch} {y : MethodName} {ws ws' : List Cond} {rm : Room} {Pc : Array Value → State → Prop} {Qc : Array Value → State → Outcome → State → Prop} {mc ms : Nat} {free : Addr → Prop} {cc : ByteArray} {maxL : Nat} {ret : Option FieldType}
    (hy : plainFor y = true) (hw : ws = Cond.code y cc maxL ret :: ws')
    (body : ∀ p e s m args below meth c s₁, BodyLoose p l y (headSpec ws rm) cc maxL ret e s m args below meth c s₁ → c.maxLocals = maxL → Pc args s →
      W p l e (headSpec ws rm).room s m args below meth c s.heap [] 0 0 (MQ below Qc args s mc ms free) (entryFrame m args maxL)) : Met l y ws rm Pc Qc mc ms free := by
  refine MetFree.of_bodySF (code := cc) (maxLocals := maxL) (ret := ret) hy ?_ ?_
  · intro args s m h hn
    obtain ⟨meth, c, h1, h2, h3, h4, h5, h6, -, -⟩ := Cond.code_spec hn (atoms_spec (ws := ws) h _ (by rw [hw]; exact List.mem_cons_self))
    exact ⟨meth, c, h1, h2, h3, h4, h5, h6⟩
  · intro p e s m args below meth c s₁ B hml hP _
    have hh0 : s₁.heap = s.heap := by rw [B.state]; rfl
    obtain ⟨t, a1, o, b1, b2, b3⟩ := body p e s m args below meth c s₁ B hml hP s₁ hh0 (Stand.of_body B)
    exact ⟨t, o, a1, b1, b2, ⟨b3.1, b3.2⟩⟩
theorem sw_ne {x k : Int32} {a : Int} (h : ¬ x = k) (hk : k.toInt = a) : ¬ a = x.toInt := fun e => h (Int32.toInt_inj.mp (e.symm.trans hk.symm))
-- worlds
abbrev cls9 : List vw_C := [(RX0, TX0, 3), (RX1, TX1, 2), (RX2, TX2, 4), (RX3, TX3, 7), (RX4, TX4, 7), (RX5, TX5, 2), (RX6, TX6, 5), (RX7, TX7, 13), (RX8, TX8, 24)]
abbrev tys3 (cI cB cR : ClassId) : List (ClassId × FieldType) := [(cI, .int), (cB, .byte), (cR, .object "PopovRows$Rows")]
def nestL : List (String × Nat × MethodName × String) := [("PopovRows$History", 17, ⟨"PopovRows", "newState", "()LPopovRows$Rows;"⟩, "PopovRows"), ("PopovRows", 29, ⟨"PopovRows$Popov", "<init>", "()V"⟩, "PopovRows"), ("PopovRows$Popov", 25, ⟨"PopovRows$Step", "<init>", "()V"⟩, "PopovRows"), ("PopovRows$Step", 9, ⟨"PopovRows$Shape", "<init>", "()V"⟩, "PopovRows"), ("PopovRows$Popov", 32, ⟨"PopovRows$Shape", "<init>", "()V"⟩, "PopovRows"), ("PopovRows", 39, ⟨"PopovRows$Determinant", "<init>", "()V"⟩, "PopovRows"), ("PopovRows", 46, ⟨"PopovRows$Step", "<init>", "()V"⟩, "PopovRows"), ("PopovRows", 53, ⟨"PopovRows$Script", "<init>", "()V"⟩, "PopovRows"), ("PopovRows$Rows", 40, ⟨"PopovRows", "modulo", "(II)I"⟩, "PopovRows"), ("PopovRows$Rows", 72, ⟨"PopovRows", "powerAt", "(I)I"⟩, "PopovRows"), ("PopovRows$Rows", 75, ⟨"PopovRows", "columnAt", "(I)I"⟩, "PopovRows"), ("PopovRows$Shape", 35, ⟨"PopovRows", "columnAt", "(I)I"⟩, "PopovRows"), ("PopovRows$Step", 43, ⟨"PopovRows", "inverse", "(II)I"⟩, "PopovRows"), ("PopovRows$Step", 49, ⟨"PopovRows", "modulo", "(II)I"⟩, "PopovRows"), ("PopovRows$Step", 58, ⟨"PopovRows", "powerAt", "(I)I"⟩, "PopovRows"), ("PopovRows$Popov", 51, ⟨"PopovRows", "isInSet", "(II)Z"⟩, "PopovRows"), ("PopovRows$Popov", 108, ⟨"PopovRows", "inverse", "(II)I"⟩, "PopovRows"), ("PopovRows$Shape", 38, ⟨"PopovRows", "powerAt", "(I)I"⟩, "PopovRows"), ("PopovRows$Popov", 131, ⟨"PopovRows", "powerAt", "(I)I"⟩, "PopovRows"), ("PopovRows$Popov", 82, ⟨"PopovRows", "modulo", "(II)I"⟩, "PopovRows"), ("PopovRows$Determinant", 45, ⟨"PopovRows", "isInSet", "(II)Z"⟩, "PopovRows"), ("PopovRows$Determinant", 35, ⟨"PopovRows", "modulo", "(II)I"⟩, "PopovRows"), ("PopovRows$Script", 66, ⟨"PopovRows", "isWithin", "(III)Z"⟩, "PopovRows"), ("PopovRows$Script", 49, ⟨"PopovRows", "isPrime", "(I)Z"⟩, "PopovRows")]
def qG (D : va_G) (cI cB cR : ClassId) (U : State) : Prop := va_K D cls9 (tys3 cI cB cR) U ∧ ∀ q ∈ nestL, va_Nw (.methodLinkNest q.1 q.2.1 q.2.2.1 q.2.2.2) U
theorem qG_warm {D : va_G} {cI cB cR : ClassId} {s U : State} (hW : s.WarmedH U.vm) (h : qG D cI cB cR s) : qG D cI cB cR U := ⟨va_K.moved hW.alike h.1, fun q hq => va_Nw.warmM hW (h.2 q hq)⟩
def qP (D : va_G) (cI cB cR : ClassId) (av : List Value) (ws : va_W) (sz : Nat) : Array Value → State → Prop := va_Pc av (fun U => U.heap.size = sz ∧ va_P D cls9 ws U.heap ∧ qG D cI cB cR U ∧ va_D (fun _ => True) ws)
theorem qP_blind (D : va_G) (cI cB cR : ClassId) (av : List Value) (ws : va_W) (sz : Nat) : FrameBlind (qP D cI cB cR av ws sz) := fun a U g mk h => ⟨h.1, h.2.1, h.2.2.1, ⟨va_K.moved (u := U) (U := U.calling g mk a) (Vm.Alike.refl U.vm) h.2.2.2.1.1, fun q hq => va_Nw.same (u := U) (U := U.calling g mk a) rfl rfl (h.2.2.2.1.2 q hq)⟩, h.2.2.2.2⟩
theorem qP_at {D : va_G} {cI cB cR : ClassId} {av : List Value} {ws : va_W} {s : State} {H : Heap} {A : Nat → Prop} (hG : qG D cI cB cR s) (hP : va_P D cls9 ws H) (hD : va_D A ws) : ∀ U : State, U.heap = H → s.WarmedH U.vm → qP D cI cB cR av ws H.size av.toArray U := fun U hU hW => ⟨rfl, by rw [hU], by rw [hU]; exact hP, qG_warm hW hG, hD.weaken (fun _ _ _ _ => trivial)⟩
def qB (D : va_G) (w0 w1 : va_W) (sz : Nat) : Unit → State → Prop := fun _ t => va_P D cls9 w1 t.heap ∧ va_D (va_A w0 sz) w1
def qI (D : va_G) (r0 : Int32) (w0 w1 : va_W) (sz : Nat) := va_Qi (S := Unit) (fun r _ => r = r0) (qB D w0 w1 sz) (va_A w0 sz)
def qZ (D : va_G) (r0 : Int32) (w0 w1 : va_W) (sz : Nat) := va_Qi (S := Unit) (fun r _ => r = r0 ∧ (r0 = 0 ∨ r0 = 1)) (qB D w0 w1 sz) (va_A w0 sz)
def qL (D : va_G) (r0 : Int64) (w0 w1 : va_W) (sz : Nat) := va_Ql (S := Unit) (fun r _ => r = r0) (qB D w0 w1 sz) (va_A w0 sz)
def qV (D : va_G) (w0 w1 : va_W) (sz : Nat) := va_Qv (S := Unit) (fun _ => True) (qB D w0 w1 sz) (va_A w0 sz)
theorem narZ {v : Int32} (h : v = 0 ∨ v = 1) : narrow .boolean (.int v) = .int v := by rcases h with rfl | rfl <;> rfl
theorem lv_asi {p : Program} {l : Launch} {e : Env} {R : Room} {s : State} {m : MethodId} {args : Array Value} {below : List Frame} {meth : Method} {c : Code} {H : Heap} {locs : List Loc} {cells slots : Nat} {Q : State → Prop} {pc : Nat} {ls : Array Slot} {rest : List Value} {x y : Int32} (h : x = y) (k : W p l e R s m args below meth c H locs cells slots Q (F0 m pc ls (.int y :: rest))) : W p l e R s m args below meth c H locs cells slots Q (F0 m pc ls (.int x :: rest)) := h ▸ k
-- a method's entry, by its kind of answer
theorem entI {l : Launch} {y : MethodName} {wsM ws' : List Cond} {rm : Room} {cc : ByteArray} {maxL : Nat} {D : va_G} {cI cB cR : ClassId} {av : List Value} {w0 w1 : va_W} {sz : Nat} {r0 : Int32} (hy : plainFor y = true) (hw : wsM = Cond.code y cc maxL (some .int) :: ws') (hlen : (lg_sl av).length ≤ maxL)
    (body : ∀ (p : Program) (e : Env) (s : State) (m : MethodId) (args : Array Value) (below : List Frame) (meth : Method) (c : Code) (Q : State → Prop) (A : Nat → Prop) (ls : Array Slot), CallFix p m c cc maxL s args wsM y.cls → qG D cI cB cR s → va_P D cls9 w0 s.heap → va_D A w0 → (∀ q, s.heap.size ≤ q → A q) → lv_has ls maxL (lv_args 0 av) →
      (∀ (H : Heap) (locs : List Loc) (ls : Array Slot) (pc : Nat) (v : Int32), v = r0 → decode cc pc = .ok (.ireturn, 1) → va_P D cls9 w1 H → va_D A w1 → va_S A s.heap H locs → W p l e rm s m args below meth c H locs 0 0 Q (F0 m pc ls [.int v])) →
      W p l e rm s m args below meth c s.heap [] 0 0 Q (F0 m 0 ls [])) : Met l y wsM rm (qP D cI cB cR av w0 sz) (qI D r0 w0 w1 sz) 0 0 (va_A w0 sz) := by
  refine Met_ofWF (cc := cc) (maxL := maxL) (ret := (some .int)) hy hw ?_
  intro p e s m args below meth c s₁ B hml hv
  obtain ⟨rfl, hsz, hP, hG, hD⟩ := hv
  have hlocks := B.notSynchronized
  subst hsz
  rw [lg_entry_eq]
  refine body p e s m _ below meth c _ (va_A w0 s.heap.size) _ ⟨B.exec, B.bytes, hml, findClass_of_methodNamed B.named, atoms_spec (ws := wsM) B.pre⟩ hG hP (hD.self (sz := s.heap.size)) (fun q h => Or.inr h) (lv_entry av hlen) ?_
  intro H locs ls pc v hv hd hP hD hS
  exact W.iret B.exec B.bytes B.returns (fun t ht hW => ⟨⟨v, (), rfl, hv, by rw [ht]; exact hP, hD⟩, hS.F ht⟩) hS.2.2 hd
theorem entZ {l : Launch} {y : MethodName} {wsM ws' : List Cond} {rm : Room} {cc : ByteArray} {maxL : Nat} {D : va_G} {cI cB cR : ClassId} {av : List Value} {w0 w1 : va_W} {sz : Nat} {r0 : Int32} (hy : plainFor y = true) (hw : wsM = Cond.code y cc maxL (some .boolean) :: ws') (hlen : (lg_sl av).length ≤ maxL)
    (body : ∀ (p : Program) (e : Env) (s : State) (m : MethodId) (args : Array Value) (below : List Frame) (meth : Method) (c : Code) (Q : State → Prop) (A : Nat → Prop) (ls : Array Slot), CallFix p m c cc maxL s args wsM y.cls → qG D cI cB cR s → va_P D cls9 w0 s.heap → va_D A w0 → (∀ q, s.heap.size ≤ q → A q) → lv_has ls maxL (lv_args 0 av) →
      (∀ (H : Heap) (locs : List Loc) (ls : Array Slot) (pc : Nat) (v : Int32), v = r0 → (v = 0 ∨ v = 1) → decode cc pc = .ok (.ireturn, 1) → va_P D cls9 w1 H → va_D A w1 → va_S A s.heap H locs → W p l e rm s m args below meth c H locs 0 0 Q (F0 m pc ls [.int v])) →
      W p l e rm s m args below meth c s.heap [] 0 0 Q (F0 m 0 ls [])) : Met l y wsM rm (qP D cI cB cR av w0 sz) (qZ D r0 w0 w1 sz) 0 0 (va_A w0 sz) := by
  refine Met_ofWF (cc := cc) (maxL := maxL) (ret := (some .boolean)) hy hw ?_
  intro p e s m args below meth c s₁ B hml hv
  obtain ⟨rfl, hsz, hP, hG, hD⟩ := hv
  have hlocks := B.notSynchronized
  subst hsz
  rw [lg_entry_eq]
  refine body p e s m _ below meth c _ (va_A w0 s.heap.size) _ ⟨B.exec, B.bytes, hml, findClass_of_methodNamed B.named, atoms_spec (ws := wsM) B.pre⟩ hG hP (hD.self (sz := s.heap.size)) (fun q h => Or.inr h) (lv_entry av hlen) ?_
  intro H locs ls pc v hv hz hd hP hD hS
  exact W.zret B.exec B.bytes B.returns (narZ hz) (fun t ht hW => ⟨⟨v, (), rfl, ⟨hv, by rw [← hv]; exact hz⟩, by rw [ht]; exact hP, hD⟩, hS.F ht⟩) hS.2.2 hd
theorem entL {l : Launch} {y : MethodName} {wsM ws' : List Cond} {rm : Room} {cc : ByteArray} {maxL : Nat} {D : va_G} {cI cB cR : ClassId} {av : List Value} {w0 w1 : va_W} {sz : Nat} {r0 : Int64} (hy : plainFor y = true) (hw : wsM = Cond.code y cc maxL (some .long) :: ws') (hlen : (lg_sl av).length ≤ maxL)
    (body : ∀ (p : Program) (e : Env) (s : State) (m : MethodId) (args : Array Value) (below : List Frame) (meth : Method) (c : Code) (Q : State → Prop) (A : Nat → Prop) (ls : Array Slot), CallFix p m c cc maxL s args wsM y.cls → qG D cI cB cR s → va_P D cls9 w0 s.heap → va_D A w0 → (∀ q, s.heap.size ≤ q → A q) → lv_has ls maxL (lv_args 0 av) →
      (∀ (H : Heap) (locs : List Loc) (ls : Array Slot) (pc : Nat) (v : Int64), v = r0 → decode cc pc = .ok (.lreturn, 1) → va_P D cls9 w1 H → va_D A w1 → va_S A s.heap H locs → W p l e rm s m args below meth c H locs 0 0 Q (F0 m pc ls [.long v])) →
      W p l e rm s m args below meth c s.heap [] 0 0 Q (F0 m 0 ls [])) : Met l y wsM rm (qP D cI cB cR av w0 sz) (qL D r0 w0 w1 sz) 0 0 (va_A w0 sz) := by
  refine Met_ofWF (cc := cc) (maxL := maxL) (ret := (some .long)) hy hw ?_
  intro p e s m args below meth c s₁ B hml hv
  obtain ⟨rfl, hsz, hP, hG, hD⟩ := hv
  have hlocks := B.notSynchronized
  subst hsz
  rw [lg_entry_eq]
  refine body p e s m _ below meth c _ (va_A w0 s.heap.size) _ ⟨B.exec, B.bytes, hml, findClass_of_methodNamed B.named, atoms_spec (ws := wsM) B.pre⟩ hG hP (hD.self (sz := s.heap.size)) (fun q h => Or.inr h) (lv_entry av hlen) ?_
  intro H locs ls pc v hv hd hP hD hS
  exact W.lret B.exec B.bytes B.returns (fun t ht hW => ⟨⟨v, (), rfl, hv, by rw [ht]; exact hP, hD⟩, hS.F ht⟩) hS.2.2 hd
theorem entV {l : Launch} {y : MethodName} {wsM ws' : List Cond} {rm : Room} {cc : ByteArray} {maxL : Nat} {D : va_G} {cI cB cR : ClassId} {av : List Value} {w0 w1 : va_W} {sz : Nat} (hy : plainFor y = true) (hw : wsM = Cond.code y cc maxL none :: ws') (hlen : (lg_sl av).length ≤ maxL)
    (body : ∀ (p : Program) (e : Env) (s : State) (m : MethodId) (args : Array Value) (below : List Frame) (meth : Method) (c : Code) (Q : State → Prop) (A : Nat → Prop) (ls : Array Slot), CallFix p m c cc maxL s args wsM y.cls → qG D cI cB cR s → va_P D cls9 w0 s.heap → va_D A w0 → (∀ q, s.heap.size ≤ q → A q) → lv_has ls maxL (lv_args 0 av) →
      (∀ (H : Heap) (locs : List Loc) (ls : Array Slot) (pc : Nat) , decode cc pc = .ok (.return_, 1) → va_P D cls9 w1 H → va_D A w1 → va_S A s.heap H locs → W p l e rm s m args below meth c H locs 0 0 Q (F0 m pc ls [])) →
      W p l e rm s m args below meth c s.heap [] 0 0 Q (F0 m 0 ls [])) : Met l y wsM rm (qP D cI cB cR av w0 sz) (qV D w0 w1 sz) 0 0 (va_A w0 sz) := by
  refine Met_ofWF (cc := cc) (maxL := maxL) (ret := none) hy hw ?_
  intro p e s m args below meth c s₁ B hml hv
  obtain ⟨rfl, hsz, hP, hG, hD⟩ := hv
  have hlocks := B.notSynchronized
  subst hsz
  rw [lg_entry_eq]
  refine body p e s m _ below meth c _ (va_A w0 s.heap.size) _ ⟨B.exec, B.bytes, hml, findClass_of_methodNamed B.named, atoms_spec (ws := wsM) B.pre⟩ hG hP (hD.self (sz := s.heap.size)) (fun q h => Or.inr h) (lv_entry av hlen) ?_
  intro H locs ls pc hd hP hD hS
  exact W.vret B.exec B.bytes B.returns (fun t ht hW => ⟨⟨(), rfl, trivial, by rw [ht]; exact hP, hD⟩, hS.F ht⟩) hS.2.2 hd
-- calls
section CALLS
variable {p : Program} {l : Launch} {e : Env} {R : Room} {s : State} {m : MethodId} {args : Array Value} {below : List Frame} {meth : Method} {c : Code} {H : Heap} {locs : List Loc} {Q : State → Prop} {cc : ByteArray} {pc : Nat} {ls : Array Slot} {st0 rest : List Value} {D : va_G} {A : Nat → Prop} {ws wc w1 wr ws2 : va_W} {H0 : Heap} {cI cB cR : ClassId} {a : Array Value}
theorem gnone (hk : ∀ q : Nat, q < H.size → ¬ va_A [] H.size q → s.heap[q]? = H[q]?) (hP : va_P D cls9 ws H) : va_P D cls9 ws s.heap := hP.kept (fun k q hq => hk q.1 (hP k q hq).lt (fun h => by
  rcases h with ⟨k2, e, h⟩ | h
  · simp at h
  · exact absurd (hP k q hq).lt (Nat.not_lt.mpr h)))
theorem gnone' {H1 : Heap} (hk : ∀ q : Nat, q < H.size → ¬ va_A [] H.size q → H1[q]? = H[q]?) (hP : va_P D cls9 ws H) : va_P D cls9 ws H1 := hP.kept (fun k q hq => hk q.1 (hP k q hq).lt (fun h => by
  rcases h with ⟨k2, e, h⟩ | h
  · simp at h
  · exact absurd (hP k q hq).lt (Nat.not_lt.mpr h)))
theorem gfree0 (hS : va_S A H0 H locs) (hA : ∀ q, H0.size ≤ q → A q) : ∀ q, va_A [] H.size q → A q := fun q h => by
  rcases h with ⟨k2, e, h⟩ | h
  · simp at h
  · exact hA q (Nat.le_trans hS.1 h)
theorem gfreeA (hD : va_D A ws) (hS : va_S A H0 H locs) (hA : ∀ q, H0.size ≤ q → A q) : ∀ q, va_A ws H.size q → A q := fun q h => by
  rcases h with ⟨k2, e, h⟩ | h
  · exact hD.2 k2 _ h
  · exact hA q (Nat.le_trans hS.1 h)
theorem hPsub (hP : va_P D cls9 ws H) (isC : List Nat) (hC : isC.map (fun i => ws[i]?) = wc.map some) : va_P D cls9 wc H := by
  intro k q hk
  have h1 : (isC.map (fun i => ws[i]?))[k]? = some (some q) := by rw [hC, List.getElem?_map, hk]; rfl
  rw [List.getElem?_map] at h1
  cases hi : isC[k]? with
  | none => rw [hi] at h1; cases h1
  | some i => rw [hi] at h1; exact hP i q (Option.some.inj h1)
theorem callI0 {r0 : Int32} (hr : va_Run p l e R s m args below meth c H locs 0 0 0 0 (F0 m pc ls st0) rest (qI D r0 [] w1 H.size a) (va_A [] H.size)) (hP : va_P D cls9 ws H) (hS : va_S A H0 H locs) (hA : ∀ q, H0.size ≤ q → A q) (kk : ∀ (H1 : Heap) (locs1 : List Loc), va_P D cls9 ws H1 → va_S A H0 H1 locs1 → W p l e R s m args below meth c H1 locs1 0 0 Q (F0 m (pc + 3) ls (.int r0 :: rest))) : W p l e R s m args below meth c H locs 0 0 Q (F0 m pc ls st0) := by
  refine va_calli hr hS (fun q _ h => gfree0 hS hA q h) (gfree0 hS hA) (fun r u t H1 locs1 ht hvm hw hB hz hk hS1 => ?_)
  subst hw
  exact kk H1 locs1 (gnone' hk hP) hS1
theorem callIA {r0 : Int32} (hr : va_Run p l e R s m args below meth c H locs 0 0 0 0 (F0 m pc ls st0) rest (qI D r0 ws w1 H.size a) (va_A ws H.size)) (hD : va_D A ws) (hS : va_S A H0 H locs) (hA : ∀ q, H0.size ≤ q → A q) (kk : ∀ (H1 : Heap) (locs1 : List Loc), va_P D cls9 w1 H1 → va_D A w1 → va_S A H0 H1 locs1 → W p l e R s m args below meth c H1 locs1 0 0 Q (F0 m (pc + 3) ls (.int r0 :: rest))) : W p l e R s m args below meth c H locs 0 0 Q (F0 m pc ls st0) := by
  refine va_calli hr hS (fun q _ h => gfreeA hD hS hA q h) (gfreeA hD hS hA) (fun r u t H1 locs1 ht hvm hw hB hz hk hS1 => ?_)
  subst hw
  obtain ⟨hP1, hD1⟩ := hB
  rw [ht] at hP1
  exact kk H1 locs1 hP1 (hD1.weaken (fun k q _ h => gfreeA hD hS hA q.1 h)) hS1
theorem callIP {r0 : Int32} (hr : va_Run p l e R s m args below meth c H locs 0 0 0 0 (F0 m pc ls st0) rest (qI D r0 wc w1 H.size a) (va_A wc H.size)) (hP : va_P D cls9 ws H) (hD : va_D A ws) (hS : va_S A H0 H locs) (hA : ∀ q, H0.size ≤ q → A q) (isC isR isN : List Nat) (hC : isC.map (fun i => ws[i]?) = wc.map some) (hR : isR.map (fun i => ws[i]?) = wr.map some) (hn : va_nd isR = true) (hdis : ∀ i ∈ isR, i ∉ isC) (hN : isN.map (fun i => (wr ++ w1)[i]?) = ws2.map some) (hnN : va_nd isN = true) (kk : ∀ (H1 : Heap) (locs1 : List Loc), va_P D cls9 ws2 H1 → va_D A ws2 → va_S A H0 H1 locs1 → W p l e R s m args below meth c H1 locs1 0 0 Q (F0 m (pc + 3) ls (.int r0 :: rest))) : W p l e R s m args below meth c H locs 0 0 Q (F0 m pc ls st0) := by
  have hF := va_free (wc := wc) hD hS hA isC hC
  refine va_calli hr hS (fun q _ h => hF q h) hF (fun r u t H1 locs1 ht hvm hw hB hz hk hS1 => ?_)
  subst hw
  obtain ⟨hP1, hD1⟩ := hB
  rw [ht] at hP1
  obtain ⟨hP2, hD2⟩ := va_join (wr := wr) (w1 := w1) hP hD isC isR hC hR hn hdis hk hF hP1 hD1
  exact kk H1 locs1 (hPsub hP2 isN hN) (hD2.sub isN hnN hN) hS1
theorem callZ0 {r0 : Int32} (hr : va_Run p l e R s m args below meth c H locs 0 0 0 0 (F0 m pc ls st0) rest (qZ D r0 [] w1 H.size a) (va_A [] H.size)) (hP : va_P D cls9 ws H) (hS : va_S A H0 H locs) (hA : ∀ q, H0.size ≤ q → A q) (kk : ∀ (H1 : Heap) (locs1 : List Loc), (r0 = 0 ∨ r0 = 1) → va_P D cls9 ws H1 → va_S A H0 H1 locs1 → W p l e R s m args below meth c H1 locs1 0 0 Q (F0 m (pc + 3) ls (.int r0 :: rest))) : W p l e R s m args below meth c H locs 0 0 Q (F0 m pc ls st0) := by
  refine va_calli hr hS (fun q _ h => gfree0 hS hA q h) (gfree0 hS hA) (fun r u t H1 locs1 ht hvm hw hB hz hk hS1 => ?_)
  obtain ⟨rfl, hz01⟩ := hw
  exact kk H1 locs1 hz01 (gnone' hk hP) hS1
theorem callZA {r0 : Int32} (hr : va_Run p l e R s m args below meth c H locs 0 0 0 0 (F0 m pc ls st0) rest (qZ D r0 ws w1 H.size a) (va_A ws H.size)) (hD : va_D A ws) (hS : va_S A H0 H locs) (hA : ∀ q, H0.size ≤ q → A q) (kk : ∀ (H1 : Heap) (locs1 : List Loc), (r0 = 0 ∨ r0 = 1) → va_P D cls9 w1 H1 → va_D A w1 → va_S A H0 H1 locs1 → W p l e R s m args below meth c H1 locs1 0 0 Q (F0 m (pc + 3) ls (.int r0 :: rest))) : W p l e R s m args below meth c H locs 0 0 Q (F0 m pc ls st0) := by
  refine va_calli hr hS (fun q _ h => gfreeA hD hS hA q h) (gfreeA hD hS hA) (fun r u t H1 locs1 ht hvm hw hB hz hk hS1 => ?_)
  obtain ⟨rfl, hz01⟩ := hw
  obtain ⟨hP1, hD1⟩ := hB
  rw [ht] at hP1
  exact kk H1 locs1 hz01 hP1 (hD1.weaken (fun k q _ h => gfreeA hD hS hA q.1 h)) hS1
theorem callZP {r0 : Int32} (hr : va_Run p l e R s m args below meth c H locs 0 0 0 0 (F0 m pc ls st0) rest (qZ D r0 wc w1 H.size a) (va_A wc H.size)) (hP : va_P D cls9 ws H) (hD : va_D A ws) (hS : va_S A H0 H locs) (hA : ∀ q, H0.size ≤ q → A q) (isC isR isN : List Nat) (hC : isC.map (fun i => ws[i]?) = wc.map some) (hR : isR.map (fun i => ws[i]?) = wr.map some) (hn : va_nd isR = true) (hdis : ∀ i ∈ isR, i ∉ isC) (hN : isN.map (fun i => (wr ++ w1)[i]?) = ws2.map some) (hnN : va_nd isN = true) (kk : ∀ (H1 : Heap) (locs1 : List Loc), (r0 = 0 ∨ r0 = 1) → va_P D cls9 ws2 H1 → va_D A ws2 → va_S A H0 H1 locs1 → W p l e R s m args below meth c H1 locs1 0 0 Q (F0 m (pc + 3) ls (.int r0 :: rest))) : W p l e R s m args below meth c H locs 0 0 Q (F0 m pc ls st0) := by
  have hF := va_free (wc := wc) hD hS hA isC hC
  refine va_calli hr hS (fun q _ h => hF q h) hF (fun r u t H1 locs1 ht hvm hw hB hz hk hS1 => ?_)
  obtain ⟨rfl, hz01⟩ := hw
  obtain ⟨hP1, hD1⟩ := hB
  rw [ht] at hP1
  obtain ⟨hP2, hD2⟩ := va_join (wr := wr) (w1 := w1) hP hD isC isR hC hR hn hdis hk hF hP1 hD1
  exact kk H1 locs1 hz01 (hPsub hP2 isN hN) (hD2.sub isN hnN hN) hS1
theorem callL0 {r0 : Int64} (hr : va_Run p l e R s m args below meth c H locs 0 0 0 0 (F0 m pc ls st0) rest (qL D r0 [] w1 H.size a) (va_A [] H.size)) (hP : va_P D cls9 ws H) (hS : va_S A H0 H locs) (hA : ∀ q, H0.size ≤ q → A q) (kk : ∀ (H1 : Heap) (locs1 : List Loc), va_P D cls9 ws H1 → va_S A H0 H1 locs1 → W p l e R s m args below meth c H1 locs1 0 0 Q (F0 m (pc + 3) ls (.long r0 :: rest))) : W p l e R s m args below meth c H locs 0 0 Q (F0 m pc ls st0) := by
  refine va_calll hr hS (fun q _ h => gfree0 hS hA q h) (gfree0 hS hA) (fun r u t H1 locs1 ht hvm hw hB hz hk hS1 => ?_)
  subst hw
  exact kk H1 locs1 (gnone' hk hP) hS1
theorem callLA {r0 : Int64} (hr : va_Run p l e R s m args below meth c H locs 0 0 0 0 (F0 m pc ls st0) rest (qL D r0 ws w1 H.size a) (va_A ws H.size)) (hD : va_D A ws) (hS : va_S A H0 H locs) (hA : ∀ q, H0.size ≤ q → A q) (kk : ∀ (H1 : Heap) (locs1 : List Loc), va_P D cls9 w1 H1 → va_D A w1 → va_S A H0 H1 locs1 → W p l e R s m args below meth c H1 locs1 0 0 Q (F0 m (pc + 3) ls (.long r0 :: rest))) : W p l e R s m args below meth c H locs 0 0 Q (F0 m pc ls st0) := by
  refine va_calll hr hS (fun q _ h => gfreeA hD hS hA q h) (gfreeA hD hS hA) (fun r u t H1 locs1 ht hvm hw hB hz hk hS1 => ?_)
  subst hw
  obtain ⟨hP1, hD1⟩ := hB
  rw [ht] at hP1
  exact kk H1 locs1 hP1 (hD1.weaken (fun k q _ h => gfreeA hD hS hA q.1 h)) hS1
theorem callLP {r0 : Int64} (hr : va_Run p l e R s m args below meth c H locs 0 0 0 0 (F0 m pc ls st0) rest (qL D r0 wc w1 H.size a) (va_A wc H.size)) (hP : va_P D cls9 ws H) (hD : va_D A ws) (hS : va_S A H0 H locs) (hA : ∀ q, H0.size ≤ q → A q) (isC isR isN : List Nat) (hC : isC.map (fun i => ws[i]?) = wc.map some) (hR : isR.map (fun i => ws[i]?) = wr.map some) (hn : va_nd isR = true) (hdis : ∀ i ∈ isR, i ∉ isC) (hN : isN.map (fun i => (wr ++ w1)[i]?) = ws2.map some) (hnN : va_nd isN = true) (kk : ∀ (H1 : Heap) (locs1 : List Loc), va_P D cls9 ws2 H1 → va_D A ws2 → va_S A H0 H1 locs1 → W p l e R s m args below meth c H1 locs1 0 0 Q (F0 m (pc + 3) ls (.long r0 :: rest))) : W p l e R s m args below meth c H locs 0 0 Q (F0 m pc ls st0) := by
  have hF := va_free (wc := wc) hD hS hA isC hC
  refine va_calll hr hS (fun q _ h => hF q h) hF (fun r u t H1 locs1 ht hvm hw hB hz hk hS1 => ?_)
  subst hw
  obtain ⟨hP1, hD1⟩ := hB
  rw [ht] at hP1
  obtain ⟨hP2, hD2⟩ := va_join (wr := wr) (w1 := w1) hP hD isC isR hC hR hn hdis hk hF hP1 hD1
  exact kk H1 locs1 (hPsub hP2 isN hN) (hD2.sub isN hnN hN) hS1
theorem callV0 (hr : va_Run p l e R s m args below meth c H locs 0 0 0 0 (F0 m pc ls st0) rest (qV D [] w1 H.size a) (va_A [] H.size)) (hP : va_P D cls9 ws H) (hS : va_S A H0 H locs) (hA : ∀ q, H0.size ≤ q → A q) (kk : ∀ (H1 : Heap) (locs1 : List Loc), va_P D cls9 ws H1 → va_S A H0 H1 locs1 → W p l e R s m args below meth c H1 locs1 0 0 Q (F0 m (pc + 3) ls rest)) : W p l e R s m args below meth c H locs 0 0 Q (F0 m pc ls st0) := by
  refine va_callv hr hS (fun q _ h => gfree0 hS hA q h) (gfree0 hS hA) (fun u t H1 locs1 ht hvm hw hB hz hk hS1 => ?_)
  exact kk H1 locs1 (gnone' hk hP) hS1
theorem callVA (hr : va_Run p l e R s m args below meth c H locs 0 0 0 0 (F0 m pc ls st0) rest (qV D ws w1 H.size a) (va_A ws H.size)) (hD : va_D A ws) (hS : va_S A H0 H locs) (hA : ∀ q, H0.size ≤ q → A q) (kk : ∀ (H1 : Heap) (locs1 : List Loc), va_P D cls9 w1 H1 → va_D A w1 → va_S A H0 H1 locs1 → W p l e R s m args below meth c H1 locs1 0 0 Q (F0 m (pc + 3) ls rest)) : W p l e R s m args below meth c H locs 0 0 Q (F0 m pc ls st0) := by
  refine va_callv hr hS (fun q _ h => gfreeA hD hS hA q h) (gfreeA hD hS hA) (fun u t H1 locs1 ht hvm hw hB hz hk hS1 => ?_)
  obtain ⟨hP1, hD1⟩ := hB
  rw [ht] at hP1
  exact kk H1 locs1 hP1 (hD1.weaken (fun k q _ h => gfreeA hD hS hA q.1 h)) hS1
theorem callVP (hr : va_Run p l e R s m args below meth c H locs 0 0 0 0 (F0 m pc ls st0) rest (qV D wc w1 H.size a) (va_A wc H.size)) (hP : va_P D cls9 ws H) (hD : va_D A ws) (hS : va_S A H0 H locs) (hA : ∀ q, H0.size ≤ q → A q) (isC isR isN : List Nat) (hC : isC.map (fun i => ws[i]?) = wc.map some) (hR : isR.map (fun i => ws[i]?) = wr.map some) (hn : va_nd isR = true) (hdis : ∀ i ∈ isR, i ∉ isC) (hN : isN.map (fun i => (wr ++ w1)[i]?) = ws2.map some) (hnN : va_nd isN = true) (kk : ∀ (H1 : Heap) (locs1 : List Loc), va_P D cls9 ws2 H1 → va_D A ws2 → va_S A H0 H1 locs1 → W p l e R s m args below meth c H1 locs1 0 0 Q (F0 m (pc + 3) ls rest)) : W p l e R s m args below meth c H locs 0 0 Q (F0 m pc ls st0) := by
  have hF := va_free (wc := wc) hD hS hA isC hC
  refine va_callv hr hS (fun q _ h => hF q h) hF (fun u t H1 locs1 ht hvm hw hB hz hk hS1 => ?_)
  obtain ⟨hP1, hD1⟩ := hB
  rw [ht] at hP1
  obtain ⟨hP2, hD2⟩ := va_join (wr := wr) (w1 := w1) hP hD isC isR hC hR hn hdis hk hF hP1 hD1
  exact kk H1 locs1 (hPsub hP2 isN hN) (hD2.sub isN hnN hN) hS1
variable {y : MethodName} {bytes : ByteArray} {maxL nL n index ci q0 : Nat} {ret : Option FieldType} {wsY : List Cond} {rm : Room} {Qc : Array Value → State → Outcome → State → Prop} {free : Addr → Prop} {Ts : List Cond} {own C host : String} {T : u_T} {N : Nat} {b : Addr} {As : List Value} {fs : List Value}
theorem gV (S : CallFix p m c cc nL s args Ts own) (hG : qG D cI cB cR s) (hP : va_P D cls9 wc H) (hD : va_D A wc) (q0 ci : Nat) (hq : wc[q0]? = some (b, .inr (ci, fs))) (hci : cls9[ci]? = some (C, T, N)) (hM : Met l y wsY rm (qP D cI cB cR (.ref b :: As) wc H.size) Qc 0 0 free) (cw : CallW R s args own C index y bytes maxL ret wsY rm 0 0 n) (hn : As.length = n) (hsize : ls.size = nL) (hst : st0 = As.reverse ++ .ref b :: rest) (hW : (rest.map fun v => v.category).sum ≤ 8) (hdg : decode cc pc = .ok (.invokevirtual index, 3)) : va_Run p l e R s m args below meth c H locs 0 0 0 0 (F0 m pc ls st0) rest (Qc (Value.ref b :: As).toArray) free :=
  va_runV S hM cw ⟨qP_blind _ _ _ _ _ _ _, va_recv hG.1 hP hci hq, qP_at hG hP hD⟩ rfl hn hsize hst (lv_room hW) hdg ⟨Nat.zero_le _, Nat.zero_le _⟩
theorem gS (S : CallFix p m c cc nL s args Ts own) (hG : qG D cI cB cR s) (hP : va_P D cls9 wc H) (hD : va_D A wc) (hM : Met l y wsY rm (qP D cI cB cR As wc H.size) Qc 0 0 free) (cw : CallB R s args own index y bytes maxL ret wsY rm 0 0 n ∧ (Cond.static y).before args s = true) (hn : As.length = n) (hsize : ls.size = nL) (hst : st0 = As.reverse ++ rest) (hW : (rest.map fun v => v.category).sum ≤ 8) (hdg : decode cc pc = .ok (.invokestatic index, 3)) : va_Run p l e R s m args below meth c H locs 0 0 0 0 (F0 m pc ls st0) rest (Qc As.toArray) free :=
  va_runS S hM cw ⟨qP_blind _ _ _ _ _ _ _, qP_at hG hP hD⟩ rfl hn hsize hst (lv_room hW) hdg ⟨Nat.zero_le _, Nat.zero_le _⟩
theorem gSN (S : CallFix p m c cc nL s args Ts own) (hG : qG D cI cB cR s) (hP : va_P D cls9 wc H) (hD : va_D A wc) (hM : Met l y wsY rm (qP D cI cB cR As wc H.size) Qc 0 0 free) (cw : va_CN R s args own index y host bytes maxL ret wsY rm 0 0 n) (hstat : (Cond.static y).before args s = true) (hn : As.length = n) (hsize : ls.size = nL) (hst : st0 = As.reverse ++ rest) (hW : (rest.map fun v => v.category).sum ≤ 8) (hdg : decode cc pc = .ok (.invokestatic index, 3)) : va_Run p l e R s m args below meth c H locs 0 0 0 0 (F0 m pc ls st0) rest (Qc As.toArray) free :=
  va_runSN S hM ⟨cw, hstat, trivial⟩ ⟨qP_blind _ _ _ _ _ _ _, qP_at hG hP hD⟩ rfl hn hsize hst (lv_room hW) hdg ⟨Nat.zero_le _, Nat.zero_le _⟩
theorem vaP0 : va_P D cls9 [] H := fun k q h => by simp at h
theorem vaD0 : va_D A [] := ⟨fun i j p q h => by simp at h, fun k q h => by simp at h⟩
end CALLS
-- the worlds of the classes
abbrev wM (cI : ClassId) (ad : Nat → Nat) (states whyKind whyOrder many wide textLong spot readColumns : Int32) (all past refused work kept chosen across sum one two base quotients text numbers entries before : Nat → Int32) : va_W := [(ad 0, .inr (8, [.ref (ad 1), .ref (ad 2), .int states, .ref (ad 3), .int whyKind, .int whyOrder, .ref (ad 4), .int many, .int wide, .ref (ad 5), .ref (ad 6), .ref (ad 7), .ref (ad 8), .ref (ad 9), .ref (ad 10), .ref (ad 11), .ref (ad 12), .ref (ad 13), .int textLong, .int spot, .ref (ad 14), .ref (ad 15), .int readColumns, .ref (ad 16)])), (ad 1, .inl (cI, 108, .inl all)), (ad 2, .inl (cI, 540, .inl past)), (ad 3, .inl (cI, 3, .inl refused)), (ad 4, .inl (cI, 144, .inl work)), (ad 5, .inl (cI, 144, .inl kept)), (ad 6, .inl (cI, 3, .inl chosen)), (ad 7, .inl (cI, 3, .inl across)), (ad 8, .inl (cI, 25, .inl sum)), (ad 9, .inl (cI, 25, .inl one)), (ad 10, .inl (cI, 25, .inl two)), (ad 11, .inl (cI, 25, .inl base)), (ad 12, .inl (cI, 25, .inl quotients)), (ad 13, .inl (cI, 150, .inl text)), (ad 14, .inl (cI, 4, .inl numbers)), (ad 15, .inl (cI, 21, .inl entries)), (ad 16, .inl (cI, 108, .inl before))]
abbrev wA (cI : ClassId) (h n : Nat) (f : Nat → Int32) : va_W := [(h, .inl (cI, n, .inl f))]
abbrev wR (cI : ClassId) (h n L : Nat) (room width powers p columns count : Int32) (num : Nat → Int32) : va_W := [(h, .inr (3, [.int room, .int width, .int powers, .ref n, .int p, .int columns, .int count])), (n, .inl (cI, L, .inl num))]
abbrev wSH (cI : ClassId) (h n : Nat) (count : Int32) (places : Nat → Int32) : va_W := [(h, .inr (5, [.ref n, .int count])), (n, .inl (cI, 5, .inl places))]
abbrev wST (cI : ClassId) (h h2 n : Nat) (target source number power count : Int32) (places : Nat → Int32) : va_W := (h, .inr (6, [.ref h2, .int target, .int source, .int number, .int power])) :: wSH cI h2 n count places
abbrev wDE (cI : ClassId) (h n ch : Nat) (chosenCount : Int32) (numbers chosen : Nat → Int32) : va_W := [(h, .inr (0, [.ref n, .ref ch, .int chosenCount])), (n, .inl (cI, 19, .inl numbers)), (ch, .inl (cI, 3, .inl chosen))]
abbrev wSC (cI cB : ClassId) (h b d n : Nat) (length place letter rowColumns : Int32) (bytes digits entries : Nat → Int32) : va_W := [(h, .inr (4, [.ref b, .ref d, .ref n, .int length, .int place, .int letter, .int rowColumns])), (b, .inl (cB, 150, .inl bytes)), (d, .inl (cI, 4, .inl digits)), (n, .inl (cI, 21, .inl entries))]
