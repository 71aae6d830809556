/-! making: constructors -/
def lst (L : List Nat) : Nat → Nat := fun i => L.getD i 0
def qPc (D : va_G) (cI cB cR : ClassId) (av : List Value) (ws : va_W) (sz : Nat) : Array Value → State → Prop := va_Pc av (fun U => (U.heap.size = sz ∧ va_P D cls9 ws U.heap ∧ qG D cI cB cR U ∧ va_D (fun _ => True) ws) ∧ va_AO "PopovRows$Rows" U)
theorem qPc_blind (D : va_G) (cI cB cR : ClassId) (av : List Value) (ws : va_W) (sz : Nat) : FrameBlind (qPc D cI cB cR av ws sz) := fun a U g mk h => ⟨h.1, ⟨h.2.1.1, h.2.1.2.1, ⟨va_K.moved (u := U) (U := U.calling g mk a) (Vm.Alike.refl U.vm) h.2.1.2.2.1.1, fun q hq => va_Nw.same (u := U) (U := U.calling g mk a) rfl rfl (h.2.1.2.2.1.2 q hq)⟩, h.2.1.2.2.2⟩, va_AO.moved (u := U) (U := U.calling g mk a) (Vm.Alike.refl U.vm) h.2.2⟩
theorem qPc_at {D : va_G} {cI cB cR : ClassId} {av : List Value} {ws : va_W} {s : State} {H : Heap} {A : Nat → Prop} (hG : qG D cI cB cR s) (hO : va_AO "PopovRows$Rows" s) (hP : va_P D cls9 ws H) (hD : va_D A ws) : ∀ U : State, U.heap = H → s.WarmedH U.vm → qPc D cI cB cR av ws H.size av.toArray U := fun U hU hW => ⟨rfl, ⟨by rw [hU], by rw [hU]; exact hP, qG_warm hW hG, hD.weaken (fun _ _ _ _ => trivial)⟩, hO.moved hW.alike⟩
def qVC (D : va_G) (P : (Nat → Nat) → Prop) (w0 : va_W) (w1 : (Nat → Nat) → va_W) (sz : Nat) := va_Qv (S := Nat → Nat) P (qBX D w0 w1 sz) (va_A w0 sz)
def qRC (D : va_G) (w0 : va_W) (w1 : (Nat → Nat) → va_W) (sz : Nat) := va_Qr (S := Nat → Nat) (fun _ => True) (fun u a t => a = u 0 ∧ qBX D w0 w1 sz u t) (va_A w0 sz)
theorem cA_int {D : va_G} {cI cB cR cA : ClassId} {U : State} (h : va_K D cls9 (tys3 cI cB cR ++ [(cA, .int)]) U) : cA = cI := by
  have h0 := (h.2 0 _ rfl).2
  have h3 := (h.2 3 _ rfl).2
  exact (Option.some.inj (h0.symm.trans h3)).symm
theorem cA_byte {D : va_G} {cI cB cR cA : ClassId} {U : State} (h : va_K D cls9 (tys3 cI cB cR ++ [(cA, .byte)]) U) : cA = cB := by
  have h0 := (h.2 1 _ rfl).2
  have h3 := (h.2 3 _ rfl).2
  exact (Option.some.inj (h0.symm.trans h3)).symm
theorem cA_rows {D : va_G} {cI cB cR cA : ClassId} {U : State} (h : va_K D cls9 (tys3 cI cB cR ++ [(cA, .object "PopovRows$Rows")]) U) : cA = cR := by
  obtain ⟨_, _, _, _, _, h0⟩ := (h.2 2 _ rfl).2
  obtain ⟨_, _, _, _, _, h3⟩ := (h.2 3 _ rfl).2
  exact (Option.some.inj (h0.symm.trans h3)).symm
theorem entC {l : Launch} {y : MethodName} {wsM ws' : List Cond} {rm : Room} {cc : ByteArray} {maxL mc ms : Nat} {D : va_G} {cI cB cR : ClassId} {av : List Value} {P : (Nat → Nat) → Prop} {w0 : va_W} {w1 : (Nat → Nat) → va_W} {sz : Nat} (hy : plainFor y = true) (hw : wsM = Cond.code y cc maxL none :: ws') (hlen : (lg_sl av).length ≤ maxL) (hyn : y.name = "<init>")
    (body : ∀ (p : Program) (e : Env) (s : State) (m : MethodId) (args : Array Value) (below : List Frame) (meth : Method) (c : Code) (Q : State → Prop) (A : Nat → Prop) (ls : Array Slot), CallFix p m c cc maxL s args wsM y.cls → qG D cI cB cR s → va_AO "PopovRows$Rows" s → va_P D cls9 w0 s.heap → va_D A w0 → (∀ q, s.heap.size ≤ q → A q) → lv_has ls maxL (lv_args 0 av) → meth.name = "<init>" →
      (∀ (u : Nat → Nat) (H : Heap) (locs : List Loc) (ls : Array Slot) (pc : Nat), P u → decode cc pc = .ok (.return_, 1) → va_P D cls9 (w1 u) H → va_D A (w1 u) → va_S A s.heap H locs → W p l e rm s m args below meth c H locs mc ms Q (F0 m pc ls [])) →
      W p l e rm s m args below meth c s.heap [] 0 0 Q (F0 m 0 ls [])) : Met l y wsM rm (qPc D cI cB cR av w0 sz) (qVC D P w0 w1 sz) mc ms (va_A w0 sz) := by
  refine Met_ofWF (cc := cc) (maxL := maxL) (ret := none) hy hw ?_
  intro p e s m args below meth c s₁ B hml hv
  obtain ⟨rfl, ⟨hsz, hP, hG, hD⟩, hO⟩ := hv
  have hlocks := B.notSynchronized
  subst hsz
  rw [lg_entry_eq]
  refine body p e s m _ below meth c _ (va_A w0 s.heap.size) _ ⟨B.exec, B.bytes, hml, findClass_of_methodNamed B.named, atoms_spec (ws := wsM) B.pre⟩ hG hO hP (hD.self (sz := s.heap.size)) (fun q h => Or.inr h) (lv_entry av hlen) ((name_of_methodNamed B.named B.method).1.trans hyn) ?_
  intro u H locs ls pc hp hd hP hD hS
  exact W.vret B.exec B.bytes B.returns (fun t ht hW => ⟨⟨u, rfl, hp, by rw [ht]; exact hP, hD⟩, hS.F ht⟩) hS.2.2 hd
theorem entR {l : Launch} {y : MethodName} {wsM ws' : List Cond} {rm : Room} {cc : ByteArray} {maxL mc ms : Nat} {nm : String} {D : va_G} {cI cB cR : ClassId} {av : List Value} {w0 : va_W} {w1 : (Nat → Nat) → va_W} {sz : Nat} (hy : plainFor y = true) (hw : wsM = Cond.code y cc maxL (some (.object nm)) :: ws') (hlen : (lg_sl av).length ≤ maxL)
    (body : ∀ (p : Program) (e : Env) (s : State) (m : MethodId) (args : Array Value) (below : List Frame) (meth : Method) (c : Code) (Q : State → Prop) (A : Nat → Prop) (ls : Array Slot), CallFix p m c cc maxL s args wsM y.cls → qG D cI cB cR s → va_AO "PopovRows$Rows" s → va_P D cls9 w0 s.heap → va_D A w0 → (∀ q, s.heap.size ≤ q → A q) → lv_has ls maxL (lv_args 0 av) →
      (∀ (u : Nat → Nat) (a : Nat) (H : Heap) (locs : List Loc) (ls : Array Slot) (pc : Nat), a = u 0 → decode cc pc = .ok (.areturn, 1) → va_P D cls9 (w1 u) H → va_D A (w1 u) → va_S A s.heap H locs → W p l e rm s m args below meth c H locs mc ms Q (F0 m pc ls [.ref a])) →
      W p l e rm s m args below meth c s.heap [] 0 0 Q (F0 m 0 ls [])) : Met l y wsM rm (qPc D cI cB cR av w0 sz) (qRC D w0 w1 sz) mc ms (va_A w0 sz) := by
  refine Met_ofWF (cc := cc) (maxL := maxL) (ret := some (.object nm)) hy hw ?_
  intro p e s m args below meth c s₁ B hml hv
  obtain ⟨rfl, ⟨hsz, hP, hG, hD⟩, hO⟩ := hv
  have hlocks := B.notSynchronized
  subst hsz
  rw [lg_entry_eq]
  refine body p e s m _ below meth c _ (va_A w0 s.heap.size) _ ⟨B.exec, B.bytes, hml, findClass_of_methodNamed B.named, atoms_spec (ws := wsM) B.pre⟩ hG hO hP (hD.self (sz := s.heap.size)) (fun q h => Or.inr h) (lv_entry av hlen) ?_
  intro u a H locs ls pc ha hd hP hD hS
  exact W.aret B.exec B.bytes B.returns (Or.inl ⟨nm, rfl⟩) (Or.inr ⟨a, rfl⟩) (fun t ht hW => ⟨⟨u, a, rfl, trivial, ha, by rw [ht]; exact hP, hD⟩, hS.F ht⟩) hS.2.2 hd
section CALLC
variable {p : Program} {l : Launch} {e : Env} {R : Room} {s : State} {m : MethodId} {args : Array Value} {below : List Frame} {meth : Method} {c : Code} {H : Heap} {locs : List Loc} {Q : State → Prop} {cc : ByteArray} {pc : Nat} {ls : Array Slot} {st0 rest : List Value} {D : va_G} {A : Nat → Prop} {ws wc wr : va_W} {w1 : (Nat → Nat) → va_W} {H0 : Heap} {cI cB cR : ClassId} {a : Array Value} {cells slots mc ms : Nat} {P : (Nat → Nat) → Prop}
theorem callVC (hr : va_Run p l e R s m args below meth c H locs cells slots mc ms (F0 m pc ls st0) rest (qVC D P wc w1 H.size a) (va_A wc H.size)) (hP : va_P D cls9 ws H) (hD : va_D A ws) (hS : va_S A H0 H locs) (hA : ∀ q, H0.size ≤ q → A q) (isC isR : List Nat) (hC : isC.map (fun i => ws[i]?) = wc.map some) (hR : isR.map (fun i => ws[i]?) = wr.map some) (hn : va_nd isR = true) (hdis : ∀ i ∈ isR, i ∉ isC) (kk : ∀ (u : Nat → Nat) (H1 : Heap) (locs1 : List Loc), P u → va_P D cls9 (wr ++ w1 u) H1 → va_D A (wr ++ w1 u) → va_S A H0 H1 locs1 → W p l e R s m args below meth c H1 locs1 (cells + mc) (slots + ms) Q (F0 m (pc + 3) ls rest)) : W p l e R s m args below meth c H locs cells slots Q (F0 m pc ls st0) := by
  have hF := va_free (wc := wc) hD hS hA isC hC
  refine va_callv hr hS (fun q _ h => hF q h) hF (fun u t H1 locs1 ht hvm hw hB hz hk hS1 => ?_)
  obtain ⟨hP1, hD1⟩ := hB
  rw [ht] at hP1
  obtain ⟨hP2, hD2⟩ := va_join (wr := wr) (w1 := w1 u) hP hD isC isR hC hR hn hdis hk hF hP1 hD1
  exact kk u H1 locs1 hw hP2 hD2 hS1
theorem callRC (hr : va_Run p l e R s m args below meth c H locs cells slots mc ms (F0 m pc ls st0) rest (qRC D [] w1 H.size a) (va_A [] H.size)) (hP : va_P D cls9 ws H) (hD : va_D A ws) (hS : va_S A H0 H locs) (hA : ∀ q, H0.size ≤ q → A q) (isR : List Nat) (hR : isR.map (fun i => ws[i]?) = ws.map some) (hn : va_nd isR = true) (kk : ∀ (u : Nat → Nat) (H1 : Heap) (locs1 : List Loc), va_P D cls9 (ws ++ w1 u) H1 → va_D A (ws ++ w1 u) → va_S A H0 H1 locs1 → W p l e R s m args below meth c H1 locs1 (cells + mc) (slots + ms) Q (F0 m (pc + 3) ls (.ref (u 0) :: rest))) : W p l e R s m args below meth c H locs cells slots Q (F0 m pc ls st0) := by
  have hF := gfree0 (H := H) hS hA
  refine va_callr hr hS (fun q _ h => hF q h) hF (fun u ra t H1 locs1 ht hvm hw hB hz hk hS1 => ?_)
  obtain ⟨rfl, hP1, hD1⟩ := hB
  rw [ht] at hP1
  obtain ⟨hP2, hD2⟩ := va_join (wr := ws) (wc := []) (w1 := w1 u) hP hD [] isR rfl hR hn (fun _ _ => List.not_mem_nil) hk hF hP1 hD1
  exact kk u H1 locs1 hP2 hD2 hS1
variable {y : MethodName} {bytes : ByteArray} {maxL nL n index : Nat} {ret : Option FieldType} {wsY : List Cond} {rm : Room} {Qc : Array Value → State → Outcome → State → Prop} {free : Addr → Prop} {Ts : List Cond} {own host : String} {b : Addr} {As : List Value}
theorem gI (S : CallFix p m c cc nL s args Ts own) (hG : qG D cI cB cR s) (hO : va_AO "PopovRows$Rows" s) (hP : va_P D cls9 wc H) (hD : va_D A wc) (hM : Met l y wsY rm (qPc D cI cB cR (.ref b :: As) wc H.size) Qc mc ms free) (cw : CallB R s args own index y bytes maxL none wsY rm mc ms n ∧ y.name = "<init>" ∧ (Cond.instanceMethod y).before args s = true) (hn : As.length = n) (hsize : ls.size = nL) (hst : st0 = As.reverse ++ .ref b :: rest) (hW : (rest.map fun v => v.category).sum ≤ 8) (hdg : decode cc pc = .ok (.invokespecial index, 3)) (hf : cells + mc ≤ R.cells ∧ slots + ms ≤ R.slots) : va_Run p l e R s m args below meth c H locs cells slots mc ms (F0 m pc ls st0) rest (Qc (Value.ref b :: As).toArray) free :=
  va_runI S hM cw ⟨qPc_blind _ _ _ _ _ _ _, qPc_at hG hO hP hD⟩ rfl hn hsize hst (lv_room hW) hdg hf
theorem gIN (S : CallFix p m c cc nL s args Ts own) (hG : qG D cI cB cR s) (hO : va_AO "PopovRows$Rows" s) (hP : va_P D cls9 wc H) (hD : va_D A wc) (hM : Met l y wsY rm (qPc D cI cB cR (.ref b :: As) wc H.size) Qc mc ms free) (cw : va_CN R s args own index y host bytes maxL none wsY rm mc ms n ∧ y.name = "<init>" ∧ (Cond.instanceMethod y).before args s = true) (hn : As.length = n) (hsize : ls.size = nL) (hst : st0 = As.reverse ++ .ref b :: rest) (hW : (rest.map fun v => v.category).sum ≤ 8) (hdg : decode cc pc = .ok (.invokespecial index, 3)) (hf : cells + mc ≤ R.cells ∧ slots + ms ≤ R.slots) : va_Run p l e R s m args below meth c H locs cells slots mc ms (F0 m pc ls st0) rest (Qc (Value.ref b :: As).toArray) free :=
  va_runIN S hM cw ⟨qPc_blind _ _ _ _ _ _ _, qPc_at hG hO hP hD⟩ rfl hn hsize hst (lv_room hW) hdg hf
theorem gSc (S : CallFix p m c cc nL s args Ts own) (hG : qG D cI cB cR s) (hO : va_AO "PopovRows$Rows" s) (hP : va_P D cls9 wc H) (hD : va_D A wc) (hM : Met l y wsY rm (qPc D cI cB cR As wc H.size) Qc mc ms free) (cw : CallB R s args own index y bytes maxL ret wsY rm mc ms n ∧ (Cond.static y).before args s = true) (hn : As.length = n) (hsize : ls.size = nL) (hst : st0 = As.reverse ++ rest) (hW : (rest.map fun v => v.category).sum ≤ 8) (hdg : decode cc pc = .ok (.invokestatic index, 3)) (hf : cells + mc ≤ R.cells ∧ slots + ms ≤ R.slots) : va_Run p l e R s m args below meth c H locs cells slots mc ms (F0 m pc ls st0) rest (Qc As.toArray) free :=
  va_runS S hM cw ⟨qPc_blind _ _ _ _ _ _ _, qPc_at hG hO hP hD⟩ rfl hn hsize hst (lv_room hW) hdg hf
theorem gSNc (S : CallFix p m c cc nL s args Ts own) (hG : qG D cI cB cR s) (hO : va_AO "PopovRows$Rows" s) (hP : va_P D cls9 wc H) (hD : va_D A wc) (hM : Met l y wsY rm (qPc D cI cB cR As wc H.size) Qc mc ms free) (cw : va_CN R s args own index y host bytes maxL ret wsY rm mc ms n) (hstat : (Cond.static y).before args s = true) (hn : As.length = n) (hsize : ls.size = nL) (hst : st0 = As.reverse ++ rest) (hW : (rest.map fun v => v.category).sum ≤ 8) (hdg : decode cc pc = .ok (.invokestatic index, 3)) (hf : cells + mc ≤ R.cells ∧ slots + ms ≤ R.slots) : va_Run p l e R s m args below meth c H locs cells slots mc ms (F0 m pc ls st0) rest (Qc As.toArray) free :=
  va_runSN S hM ⟨cw, hstat, trivial⟩ ⟨qPc_blind _ _ _ _ _ _ _, qPc_at hG hO hP hD⟩ rfl hn hsize hst (lv_room hW) hdg hf
end CALLC
def kq1 (a : Nat) : Nat → Option Nat := fun k => match k with | 0 => some a | _ => none
theorem kq_0 (a : Nat) : va_up (fun _ => none) (0 : Int32).toNatClampNeg (some a) = kq1 a := by
  funext j
  show (if j = 0 then some a else (fun _ => none) j) = _
  match j with
  | 0 => rfl
  | j + 1 => rw [if_neg (by omega)]; rfl
def kq2 (a b : Nat) : Nat → Option Nat := fun k => match k with | 0 => some a | 1 => some b | _ => none
theorem kq_1 (a b : Nat) : va_up (kq1 a) (1 : Int32).toNatClampNeg (some b) = kq2 a b := by
  funext j
  show (if j = 1 then some b else (kq1 a) j) = _
  match j with
  | 0 => rfl
  | 1 => rfl
  | j + 2 => rw [if_neg (by omega)]; rfl
def kq3 (a b c : Nat) : Nat → Option Nat := fun k => match k with | 0 => some a | 1 => some b | 2 => some c | _ => none
theorem kq_2 (a b c : Nat) : va_up (kq2 a b) (2 : Int32).toNatClampNeg (some c) = kq3 a b c := by
  funext j
  show (if j = 2 then some c else (kq2 a b) j) = _
  match j with
  | 0 => rfl
  | 1 => rfl
  | 2 => rfl
  | j + 3 => rw [if_neg (by omega)]; rfl
def kq4 (a b c d : Nat) : Nat → Option Nat := fun k => match k with | 0 => some a | 1 => some b | 2 => some c | 3 => some d | _ => none
theorem kq_3 (a b c d : Nat) : va_up (kq3 a b c) (3 : Int32).toNatClampNeg (some d) = kq4 a b c d := by
  funext j
  show (if j = 3 then some d else (kq3 a b c) j) = _
  match j with
  | 0 => rfl
  | 1 => rfl
  | 2 => rfl
  | 3 => rfl
  | j + 4 => rw [if_neg (by omega)]; rfl
def kq5 (a b c d e : Nat) : Nat → Option Nat := kf5 a b c d e
theorem kq_4 (a b c d e : Nat) : va_up (kq4 a b c d) (4 : Int32).toNatClampNeg (some e) = kq5 a b c d e := by
  funext j
  show (if j = 4 then some e else (kq4 a b c d) j) = _
  match j with
  | 0 => rfl
  | 1 => rfl
  | 2 => rfl
  | 3 => rfl
  | 4 => rfl
  | j + 5 => rw [if_neg (by omega)]; rfl
