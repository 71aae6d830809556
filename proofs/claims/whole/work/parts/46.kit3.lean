/-! the static array of the orders -/
def zO (t : Nat) (A : Nat → Prop) (U : State) (H : Heap) : Prop := va_Z "PopovRows$Determinant" "ORDERS" "[I" (.ref t) A U H ∧ va_T .int t 18 (fun j => .int (ORD j)) A U H
def qPz (D : va_G) (cI cB cR : ClassId) (av : List Value) (ws : va_W) (sz : Nat) (t : Nat) : Array Value → State → Prop := va_Pc av (fun U => (U.heap.size = sz ∧ va_P D cls9 ws U.heap ∧ qG D cI cB cR U ∧ va_D (fun _ => True) ws) ∧ zO t (va_A ws sz) U U.heap)
theorem qPz_blind (D : va_G) (cI cB cR : ClassId) (av : List Value) (ws : va_W) (sz t : Nat) : FrameBlind (qPz D cI cB cR av ws sz t) := fun a U g mk h => ⟨h.1, ⟨h.2.1.1, h.2.1.2.1, ⟨va_K.moved (u := U) (U := U.calling g mk a) (Vm.Alike.refl U.vm) h.2.1.2.2.1.1, fun q hq => va_Nw.same (u := U) (U := U.calling g mk a) rfl rfl (h.2.1.2.2.1.2 q hq)⟩, h.2.1.2.2.2⟩, va_Z.moved (u := U) (U := U.calling g mk a) (Vm.Alike.refl U.vm) h.2.2.1, va_T.moved (u := U) (U := U.calling g mk a) (Vm.Alike.refl U.vm) h.2.2.2⟩
theorem zO_kept {t : Nat} {A : Nat → Prop} {s : State} {H : Heap} {locs : List Loc} (hz : zO t A s s.heap) (hS : va_S A s.heap H locs) : zO t A s H := ⟨hz.1.kept hS.2.1, hz.2.kept hS.2.1⟩
theorem qPz_at {D : va_G} {cI cB cR : ClassId} {av : List Value} {ws : va_W} {s : State} {H : Heap} {A : Nat → Prop} {t : Nat} (hG : qG D cI cB cR s) (hP : va_P D cls9 ws H) (hD : va_D A ws) (hz : zO t A s H) (hF : ∀ q, va_A ws H.size q → A q) : ∀ U : State, U.heap = H → s.WarmedH U.vm → qPz D cI cB cR av ws H.size t av.toArray U := fun U hU hW => ⟨rfl, ⟨by rw [hU], by rw [hU]; exact hP, qG_warm hW hG, hD.weaken (fun _ _ _ _ => trivial)⟩, by rw [hU]; exact (va_Z.moved hW.alike hz.1).narrow hF, by rw [hU]; exact (va_T.moved hW.alike hz.2).narrow hF⟩
theorem entIz {l : Launch} {y : MethodName} {wsM ws' : List Cond} {rm : Room} {cc : ByteArray} {maxL : Nat} {D : va_G} {cI cB cR : ClassId} {av : List Value} {w0 w1 : va_W} {sz ot : Nat} {r0 : Int32} (hy : plainFor y = true) (hw : wsM = Cond.code y cc maxL (some .int) :: ws') (hlen : (lg_sl av).length ≤ maxL)
    (body : ∀ (p : Program) (e : Env) (s : State) (m : MethodId) (args : Array Value) (below : List Frame) (meth : Method) (c : Code) (Q : State → Prop) (A : Nat → Prop) (ls : Array Slot), CallFix p m c cc maxL s args wsM y.cls → qG D cI cB cR s → va_P D cls9 w0 s.heap → va_D A w0 → (∀ q, s.heap.size ≤ q → A q) → lv_has ls maxL (lv_args 0 av) → zO ot A s s.heap →
      (∀ (H : Heap) (locs : List Loc) (ls : Array Slot) (pc : Nat) (v : Int32), v = r0 → decode cc pc = .ok (.ireturn, 1) → va_P D cls9 w1 H → va_D A w1 → va_S A s.heap H locs → W p l e rm s m args below meth c H locs 0 0 Q (F0 m pc ls [.int v])) →
      W p l e rm s m args below meth c s.heap [] 0 0 Q (F0 m 0 ls [])) : Met l y wsM rm (qPz D cI cB cR av w0 sz ot) (qI D r0 w0 w1 sz) 0 0 (va_A w0 sz) := by
  refine Met_ofWF (cc := cc) (maxL := maxL) (ret := (some .int)) hy hw ?_
  intro p e s m args below meth c s₁ B hml hv
  obtain ⟨rfl, ⟨hsz, hP, hG, hD⟩, hzo⟩ := hv
  have hlocks := B.notSynchronized
  subst hsz
  rw [lg_entry_eq]
  refine body p e s m _ below meth c _ (va_A w0 s.heap.size) _ ⟨B.exec, B.bytes, hml, findClass_of_methodNamed B.named, atoms_spec (ws := wsM) B.pre⟩ hG hP (hD.self (sz := s.heap.size)) (fun q h => Or.inr h) (lv_entry av hlen) hzo ?_
  intro H locs ls pc v hv hd hP hD hS
  exact W.iret B.exec B.bytes B.returns (fun t ht hW => ⟨⟨v, (), rfl, hv, by rw [ht]; exact hP, hD⟩, hS.F ht⟩) hS.2.2 hd
theorem entVz {l : Launch} {y : MethodName} {wsM ws' : List Cond} {rm : Room} {cc : ByteArray} {maxL : Nat} {D : va_G} {cI cB cR : ClassId} {av : List Value} {w0 w1 : va_W} {sz ot : Nat} (hy : plainFor y = true) (hw : wsM = Cond.code y cc maxL none :: ws') (hlen : (lg_sl av).length ≤ maxL)
    (body : ∀ (p : Program) (e : Env) (s : State) (m : MethodId) (args : Array Value) (below : List Frame) (meth : Method) (c : Code) (Q : State → Prop) (A : Nat → Prop) (ls : Array Slot), CallFix p m c cc maxL s args wsM y.cls → qG D cI cB cR s → va_P D cls9 w0 s.heap → va_D A w0 → (∀ q, s.heap.size ≤ q → A q) → lv_has ls maxL (lv_args 0 av) → zO ot A s s.heap →
      (∀ (H : Heap) (locs : List Loc) (ls : Array Slot) (pc : Nat) , decode cc pc = .ok (.return_, 1) → va_P D cls9 w1 H → va_D A w1 → va_S A s.heap H locs → W p l e rm s m args below meth c H locs 0 0 Q (F0 m pc ls [])) →
      W p l e rm s m args below meth c s.heap [] 0 0 Q (F0 m 0 ls [])) : Met l y wsM rm (qPz D cI cB cR av w0 sz ot) (qV D w0 w1 sz) 0 0 (va_A w0 sz) := by
  refine Met_ofWF (cc := cc) (maxL := maxL) (ret := none) hy hw ?_
  intro p e s m args below meth c s₁ B hml hv
  obtain ⟨rfl, ⟨hsz, hP, hG, hD⟩, hzo⟩ := hv
  have hlocks := B.notSynchronized
  subst hsz
  rw [lg_entry_eq]
  refine body p e s m _ below meth c _ (va_A w0 s.heap.size) _ ⟨B.exec, B.bytes, hml, findClass_of_methodNamed B.named, atoms_spec (ws := wsM) B.pre⟩ hG hP (hD.self (sz := s.heap.size)) (fun q h => Or.inr h) (lv_entry av hlen) hzo ?_
  intro H locs ls pc hd hP hD hS
  exact W.vret B.exec B.bytes B.returns (fun t ht hW => ⟨⟨(), rfl, trivial, by rw [ht]; exact hP, hD⟩, hS.F ht⟩) hS.2.2 hd
section CALLZ
variable {p : Program} {l : Launch} {e : Env} {R : Room} {s : State} {m : MethodId} {args : Array Value} {below : List Frame} {meth : Method} {c : Code} {H : Heap} {locs : List Loc} {Q : State → Prop} {cc : ByteArray} {pc : Nat} {ls : Array Slot} {st0 rest : List Value} {D : va_G} {A : Nat → Prop} {ws wc : va_W} {cI cB cR : ClassId}
variable {y : MethodName} {bytes : ByteArray} {maxL nL n index : Nat} {ret : Option FieldType} {wsY : List Cond} {rm : Room} {Qc : Array Value → State → Outcome → State → Prop} {free : Addr → Prop} {Ts : List Cond} {own C : String} {T : u_T} {N : Nat} {b ot : Addr} {As : List Value} {fs : List Value}
theorem gVz (S : CallFix p m c cc nL s args Ts own) (hG : qG D cI cB cR s) (hP : va_P D cls9 wc H) (hD : va_D A wc) (hz : zO ot A s H) (hF : ∀ q, va_A wc H.size q → A q) (q0 ci : Nat) (hq : wc[q0]? = some (b, .inr (ci, fs))) (hci : cls9[ci]? = some (C, T, N)) (hM : Met l y wsY rm (qPz D cI cB cR (.ref b :: As) wc H.size ot) Qc 0 0 free) (cw : CallW R s args own C index y bytes maxL ret wsY rm 0 0 n) (hn : As.length = n) (hsize : ls.size = nL) (hst : st0 = As.reverse ++ .ref b :: rest) (hW : (rest.map fun v => v.category).sum ≤ 8) (hdg : decode cc pc = .ok (.invokevirtual index, 3)) : va_Run p l e R s m args below meth c H locs 0 0 0 0 (F0 m pc ls st0) rest (Qc (Value.ref b :: As).toArray) free :=
  va_runV S hM cw ⟨qPz_blind _ _ _ _ _ _ _ _, va_recv hG.1 hP hci hq, qPz_at hG hP hD hz hF⟩ rfl hn hsize hst (lv_room hW) hdg ⟨Nat.zero_le _, Nat.zero_le _⟩
theorem gfreeP {A0 : Nat → Prop} {H0 : Heap} (hD : va_D A0 ws) (hS : va_S A0 H0 H locs) (hA : ∀ q, H0.size ≤ q → A0 q) (isC : List Nat) (hC : isC.map (fun i => ws[i]?) = wc.map some) : ∀ q, va_A wc H.size q → A0 q := va_free hD hS hA isC hC
end CALLZ
