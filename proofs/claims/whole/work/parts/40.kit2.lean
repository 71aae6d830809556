def kf5 (a b c d e : Nat) : Nat → Option Nat := fun k => match k with | 0 => some a | 1 => some b | 2 => some c | 3 => some d | 4 => some e | _ => none
theorem kf5_u0 (a b c d e x : Nat) : va_up (kf5 a b c d e) (0 : Int32).toNatClampNeg (some x) = kf5 x b c d e := by
  funext j
  show (if j = 0 then some x else kf5 a b c d e j) = _
  match j with
  | 0 => rfl
  | 1 => rfl
  | 2 => rfl
  | 3 => rfl
  | 4 => rfl
  | j + 5 => rw [if_neg (by omega)]; rfl
theorem kf5_u1 (a b c d e x : Nat) : va_up (kf5 a b c d e) (1 : Int32).toNatClampNeg (some x) = kf5 a x c d e := by
  funext j
  show (if j = 1 then some x else kf5 a b c d e j) = _
  match j with
  | 0 => rfl
  | 1 => rfl
  | 2 => rfl
  | 3 => rfl
  | 4 => rfl
  | j + 5 => rw [if_neg (by omega)]; rfl
theorem kf5_u2 (a b c d e x : Nat) : va_up (kf5 a b c d e) (2 : Int32).toNatClampNeg (some x) = kf5 a b x d e := by
  funext j
  show (if j = 2 then some x else kf5 a b c d e j) = _
  match j with
  | 0 => rfl
  | 1 => rfl
  | 2 => rfl
  | 3 => rfl
  | 4 => rfl
  | j + 5 => rw [if_neg (by omega)]; rfl
theorem kf5_u3 (a b c d e x : Nat) : va_up (kf5 a b c d e) (3 : Int32).toNatClampNeg (some x) = kf5 a b c x e := by
  funext j
  show (if j = 3 then some x else kf5 a b c d e j) = _
  match j with
  | 0 => rfl
  | 1 => rfl
  | 2 => rfl
  | 3 => rfl
  | 4 => rfl
  | j + 5 => rw [if_neg (by omega)]; rfl
theorem kf5_u4 (a b c d e x : Nat) : va_up (kf5 a b c d e) (4 : Int32).toNatClampNeg (some x) = kf5 a b c d x := by
  funext j
  show (if j = 4 then some x else kf5 a b c d e j) = _
  match j with
  | 0 => rfl
  | 1 => rfl
  | 2 => rfl
  | 3 => rfl
  | 4 => rfl
  | j + 5 => rw [if_neg (by omega)]; rfl
def rot5 (kd : Nat → Nat) : Nat → Nat := fun i => kd ((i + 2) % 10)
theorem lv_asv {p : Program} {l : Launch} {e : Env} {R : Room} {s : State} {m : MethodId} {args : Array Value} {below : List Frame} {meth : Method} {c : Code} {H : Heap} {locs : List Loc} {cells slots : Nat} {Q : State → Prop} {pc : Nat} {ls : Array Slot} {rest : List Value} {x y : Value} (h : x = y) (k : W p l e R s m args below meth c H locs cells slots Q (F0 m pc ls (y :: rest))) : W p l e R s m args below meth c H locs cells slots Q (F0 m pc ls (x :: rest)) := h ▸ k
theorem in5_4 {x : Int32} (h : vp_in x 5) (h0 : ¬ x = 0) (h1 : ¬ x = 1) (h2 : ¬ x = 2) (h3 : ¬ x = 3) : x = 4 := by
  obtain ⟨j, hj, rfl⟩ := vp_in_of h (by decide)
  match j, hj with
  | 0, _ => exact absurd rfl h0
  | 1, _ => exact absurd rfl h1
  | 2, _ => exact absurd rfl h2
  | 3, _ => exact absurd rfl h3
  | 4, _ => rfl
def qBX (D : va_G) (w0 : va_W) (w1 : (Nat → Nat) → va_W) (sz : Nat) : (Nat → Nat) → State → Prop := fun u t => va_P D cls9 (w1 u) t.heap ∧ va_D (va_A w0 sz) (w1 u)
def qIX (D : va_G) (r0 : Int32) (w0 : va_W) (w1 : (Nat → Nat) → va_W) (sz : Nat) := va_Qi (S := Nat → Nat) (fun r _ => r = r0) (qBX D w0 w1 sz) (va_A w0 sz)
def qVX (D : va_G) (w0 : va_W) (w1 : (Nat → Nat) → va_W) (sz : Nat) := va_Qv (S := Nat → Nat) (fun _ => True) (qBX D w0 w1 sz) (va_A w0 sz)
theorem entIX {l : Launch} {y : MethodName} {wsM ws' : List Cond} {rm : Room} {cc : ByteArray} {maxL : Nat} {D : va_G} {cI cB cR : ClassId} {av : List Value} {w0 : va_W} {w1 : (Nat → Nat) → va_W} {sz : Nat} {r0 : Int32} (hy : plainFor y = true) (hw : wsM = Cond.code y cc maxL (some .int) :: ws') (hlen : (lg_sl av).length ≤ maxL)
    (body : ∀ (p : Program) (e : Env) (s : State) (m : MethodId) (args : Array Value) (below : List Frame) (meth : Method) (c : Code) (Q : State → Prop) (A : Nat → Prop) (ls : Array Slot), CallFix p m c cc maxL s args wsM y.cls → qG D cI cB cR s → va_P D cls9 w0 s.heap → va_D A w0 → (∀ q, s.heap.size ≤ q → A q) → lv_has ls maxL (lv_args 0 av) →
      (∀ (u : Nat → Nat) (H : Heap) (locs : List Loc) (ls : Array Slot) (pc : Nat) (v : Int32), v = r0 → decode cc pc = .ok (.ireturn, 1) → va_P D cls9 (w1 u) H → va_D A (w1 u) → va_S A s.heap H locs → W p l e rm s m args below meth c H locs 0 0 Q (F0 m pc ls [.int v])) →
      W p l e rm s m args below meth c s.heap [] 0 0 Q (F0 m 0 ls [])) : Met l y wsM rm (qP D cI cB cR av w0 sz) (qIX D r0 w0 w1 sz) 0 0 (va_A w0 sz) := by
  refine Met_ofWF (cc := cc) (maxL := maxL) (ret := (some .int)) hy hw ?_
  intro p e s m args below meth c s₁ B hml hv
  obtain ⟨rfl, hsz, hP, hG, hD⟩ := hv
  have hlocks := B.notSynchronized
  subst hsz
  rw [lg_entry_eq]
  refine body p e s m _ below meth c _ (va_A w0 s.heap.size) _ ⟨B.exec, B.bytes, hml, findClass_of_methodNamed B.named, atoms_spec (ws := wsM) B.pre⟩ hG hP (hD.self (sz := s.heap.size)) (fun q h => Or.inr h) (lv_entry av hlen) ?_
  intro u H locs ls pc v hv hd hP hD hS
  exact W.iret B.exec B.bytes B.returns (fun t ht hW => ⟨⟨v, u, rfl, hv, by rw [ht]; exact hP, hD⟩, hS.F ht⟩) hS.2.2 hd
theorem entVX {l : Launch} {y : MethodName} {wsM ws' : List Cond} {rm : Room} {cc : ByteArray} {maxL : Nat} {D : va_G} {cI cB cR : ClassId} {av : List Value} {w0 : va_W} {w1 : (Nat → Nat) → va_W} {sz : Nat} (hy : plainFor y = true) (hw : wsM = Cond.code y cc maxL none :: ws') (hlen : (lg_sl av).length ≤ maxL)
    (body : ∀ (p : Program) (e : Env) (s : State) (m : MethodId) (args : Array Value) (below : List Frame) (meth : Method) (c : Code) (Q : State → Prop) (A : Nat → Prop) (ls : Array Slot), CallFix p m c cc maxL s args wsM y.cls → qG D cI cB cR s → va_P D cls9 w0 s.heap → va_D A w0 → (∀ q, s.heap.size ≤ q → A q) → lv_has ls maxL (lv_args 0 av) →
      (∀ (u : Nat → Nat) (H : Heap) (locs : List Loc) (ls : Array Slot) (pc : Nat) , decode cc pc = .ok (.return_, 1) → va_P D cls9 (w1 u) H → va_D A (w1 u) → va_S A s.heap H locs → W p l e rm s m args below meth c H locs 0 0 Q (F0 m pc ls [])) →
      W p l e rm s m args below meth c s.heap [] 0 0 Q (F0 m 0 ls [])) : Met l y wsM rm (qP D cI cB cR av w0 sz) (qVX D w0 w1 sz) 0 0 (va_A w0 sz) := by
  refine Met_ofWF (cc := cc) (maxL := maxL) (ret := none) hy hw ?_
  intro p e s m args below meth c s₁ B hml hv
  obtain ⟨rfl, hsz, hP, hG, hD⟩ := hv
  have hlocks := B.notSynchronized
  subst hsz
  rw [lg_entry_eq]
  refine body p e s m _ below meth c _ (va_A w0 s.heap.size) _ ⟨B.exec, B.bytes, hml, findClass_of_methodNamed B.named, atoms_spec (ws := wsM) B.pre⟩ hG hP (hD.self (sz := s.heap.size)) (fun q h => Or.inr h) (lv_entry av hlen) ?_
  intro u H locs ls pc hd hP hD hS
  exact W.vret B.exec B.bytes B.returns (fun t ht hW => ⟨⟨u, rfl, trivial, by rw [ht]; exact hP, hD⟩, hS.F ht⟩) hS.2.2 hd
section CALLX
variable {p : Program} {l : Launch} {e : Env} {R : Room} {s : State} {m : MethodId} {args : Array Value} {below : List Frame} {meth : Method} {c : Code} {H : Heap} {locs : List Loc} {Q : State → Prop} {cc : ByteArray} {pc : Nat} {ls : Array Slot} {st0 rest : List Value} {D : va_G} {A : Nat → Prop} {ws wc wr : va_W} {w1 ws2 : (Nat → Nat) → va_W} {H0 : Heap} {cI cB cR : ClassId} {a : Array Value}
theorem callIAX {r0 : Int32} (hr : va_Run p l e R s m args below meth c H locs 0 0 0 0 (F0 m pc ls st0) rest (qIX D r0 ws w1 H.size a) (va_A ws H.size)) (hD : va_D A ws) (hS : va_S A H0 H locs) (hA : ∀ q, H0.size ≤ q → A q) (kk : ∀ (u : Nat → Nat) (H1 : Heap) (locs1 : List Loc), va_P D cls9 (w1 u) H1 → va_D A (w1 u) → va_S A H0 H1 locs1 → W p l e R s m args below meth c H1 locs1 0 0 Q (F0 m (pc + 3) ls (.int r0 :: rest))) : W p l e R s m args below meth c H locs 0 0 Q (F0 m pc ls st0) := by
  refine va_calli hr hS (fun q _ h => gfreeA hD hS hA q h) (gfreeA hD hS hA) (fun r u t H1 locs1 ht hvm hw hB hz hk hS1 => ?_)
  subst hw
  obtain ⟨hP1, hD1⟩ := hB
  rw [ht] at hP1
  exact kk u H1 locs1 hP1 (hD1.weaken (fun k q _ h => gfreeA hD hS hA q.1 h)) hS1
theorem callIPX {r0 : Int32} (hr : va_Run p l e R s m args below meth c H locs 0 0 0 0 (F0 m pc ls st0) rest (qIX D r0 wc w1 H.size a) (va_A wc H.size)) (hP : va_P D cls9 ws H) (hD : va_D A ws) (hS : va_S A H0 H locs) (hA : ∀ q, H0.size ≤ q → A q) (isC isR isN : List Nat) (hC : isC.map (fun i => ws[i]?) = wc.map some) (hR : isR.map (fun i => ws[i]?) = wr.map some) (hn : va_nd isR = true) (hdis : ∀ i ∈ isR, i ∉ isC) (hN : ∀ u, isN.map (fun i => (wr ++ w1 u)[i]?) = (ws2 u).map some) (hnN : va_nd isN = true) (kk : ∀ (u : Nat → Nat) (H1 : Heap) (locs1 : List Loc), va_P D cls9 (ws2 u) H1 → va_D A (ws2 u) → va_S A H0 H1 locs1 → W p l e R s m args below meth c H1 locs1 0 0 Q (F0 m (pc + 3) ls (.int r0 :: rest))) : W p l e R s m args below meth c H locs 0 0 Q (F0 m pc ls st0) := by
  have hF := va_free (wc := wc) hD hS hA isC hC
  refine va_calli hr hS (fun q _ h => hF q h) hF (fun r u t H1 locs1 ht hvm hw hB hz hk hS1 => ?_)
  subst hw
  obtain ⟨hP1, hD1⟩ := hB
  rw [ht] at hP1
  obtain ⟨hP2, hD2⟩ := va_join (wr := wr) (w1 := w1 u) hP hD isC isR hC hR hn hdis hk hF hP1 hD1
  exact kk u H1 locs1 (hPsub hP2 isN (hN u)) (hD2.sub isN hnN (hN u)) hS1
theorem callVAX (hr : va_Run p l e R s m args below meth c H locs 0 0 0 0 (F0 m pc ls st0) rest (qVX D ws w1 H.size a) (va_A ws H.size)) (hD : va_D A ws) (hS : va_S A H0 H locs) (hA : ∀ q, H0.size ≤ q → A q) (kk : ∀ (u : Nat → Nat) (H1 : Heap) (locs1 : List Loc), va_P D cls9 (w1 u) H1 → va_D A (w1 u) → va_S A H0 H1 locs1 → W p l e R s m args below meth c H1 locs1 0 0 Q (F0 m (pc + 3) ls rest)) : W p l e R s m args below meth c H locs 0 0 Q (F0 m pc ls st0) := by
  refine va_callv hr hS (fun q _ h => gfreeA hD hS hA q h) (gfreeA hD hS hA) (fun u t H1 locs1 ht hvm hw hB hz hk hS1 => ?_)
  obtain ⟨hP1, hD1⟩ := hB
  rw [ht] at hP1
  exact kk u H1 locs1 hP1 (hD1.weaken (fun k q _ h => gfreeA hD hS hA q.1 h)) hS1
theorem callVPX (hr : va_Run p l e R s m args below meth c H locs 0 0 0 0 (F0 m pc ls st0) rest (qVX D wc w1 H.size a) (va_A wc H.size)) (hP : va_P D cls9 ws H) (hD : va_D A ws) (hS : va_S A H0 H locs) (hA : ∀ q, H0.size ≤ q → A q) (isC isR isN : List Nat) (hC : isC.map (fun i => ws[i]?) = wc.map some) (hR : isR.map (fun i => ws[i]?) = wr.map some) (hn : va_nd isR = true) (hdis : ∀ i ∈ isR, i ∉ isC) (hN : ∀ u, isN.map (fun i => (wr ++ w1 u)[i]?) = (ws2 u).map some) (hnN : va_nd isN = true) (kk : ∀ (u : Nat → Nat) (H1 : Heap) (locs1 : List Loc), va_P D cls9 (ws2 u) H1 → va_D A (ws2 u) → va_S A H0 H1 locs1 → W p l e R s m args below meth c H1 locs1 0 0 Q (F0 m (pc + 3) ls rest)) : W p l e R s m args below meth c H locs 0 0 Q (F0 m pc ls st0) := by
  have hF := va_free (wc := wc) hD hS hA isC hC
  refine va_callv hr hS (fun q _ h => hF q h) hF (fun u t H1 locs1 ht hvm hw hB hz hk hS1 => ?_)
  obtain ⟨hP1, hD1⟩ := hB
  rw [ht] at hP1
  obtain ⟨hP2, hD2⟩ := va_join (wr := wr) (w1 := w1 u) hP hD isC isR hC hR hn hdis hk hF hP1 hD1
  exact kk u H1 locs1 (hPsub hP2 isN (hN u)) (hD2.sub isN hnN (hN u)) hS1
end CALLX
abbrev wHI (cI cR : ClassId) (ah ak : Nat) (kd : Nat → Nat) (count : Int32) (g0pp g0columns g0count : Int32) (g0num : Nat → Int32) (g1pp g1columns g1count : Int32) (g1num : Nat → Int32) (g2pp g2columns g2count : Int32) (g2num : Nat → Int32) (g3pp g3columns g3count : Int32) (g3num : Nat → Int32) (g4pp g4columns g4count : Int32) (g4num : Nat → Int32) : va_W := (ah, .inr (1, [.ref ak, .int count])) :: (ak, .inl (cR, 5, .inr (.inr (.inr (.inr (kf5 (kd 0) (kd 2) (kd 4) (kd 6) (kd 8))))))) :: ((wR cI (kd 0) (kd 1) 105 5 3 7 g0pp g0columns g0count g0num) ++ (wR cI (kd 2) (kd 3) 105 5 3 7 g1pp g1columns g1count g1num) ++ (wR cI (kd 4) (kd 5) 105 5 3 7 g2pp g2columns g2count g2num) ++ (wR cI (kd 6) (kd 7) 105 5 3 7 g3pp g3columns g3count g3num) ++ (wR cI (kd 8) (kd 9) 105 5 3 7 g4pp g4columns g4count g4num))
abbrev wPR (cI cB cR : ClassId) (ad kd : Nat → Nat) (badCalls : Int32) (noCalls : Int32) (fullCalls : Int32) (stopError : Int32) (stopIndex : Int32) (npp : Int32) (ncolumns : Int32) (ncount : Int32) (nnum : Nat → Int32) (bpp : Int32) (bcolumns : Int32) (bcount : Int32) (bnum : Nat → Int32) (gcount : Int32) (gg0pp : Int32) (gg0columns : Int32) (gg0count : Int32) (gg0num : Nat → Int32) (gg1pp : Int32) (gg1columns : Int32) (gg1count : Int32) (gg1num : Nat → Int32) (gg2pp : Int32) (gg2columns : Int32) (gg2count : Int32) (gg2num : Nat → Int32) (gg3pp : Int32) (gg3columns : Int32) (gg3count : Int32) (gg3num : Nat → Int32) (gg4pp : Int32) (gg4columns : Int32) (gg4count : Int32) (gg4num : Nat → Int32) (vlpp : Int32) (vlcolumns : Int32) (vlcount : Int32) (vlnum : Nat → Int32) (vfpp : Int32) (vfcolumns : Int32) (vfcount : Int32) (vfnum : Nat → Int32) (vstarget : Int32) (vssource : Int32) (vsnumber : Int32) (vspower : Int32) (vszcount : Int32) (vszplaces : Nat → Int32) (vycount : Int32) (vyplaces : Nat → Int32) (wlpp : Int32) (wlcolumns : Int32) (wlcount : Int32) (wlnum : Nat → Int32) (wfpp : Int32) (wfcolumns : Int32) (wfcount : Int32) (wfnum : Nat → Int32) (wstarget : Int32) (wssource : Int32) (wsnumber : Int32) (wspower : Int32) (wszcount : Int32) (wszplaces : Nat → Int32) (wycount : Int32) (wyplaces : Nat → Int32) (dchosenCount : Int32) (dnumbers : Nat → Int32) (dchosen : Nat → Int32) (starget : Int32) (ssource : Int32) (snumber : Int32) (spower : Int32) (szcount : Int32) (szplaces : Nat → Int32) (clength : Int32) (cplace : Int32) (cletter : Int32) (crowColumns : Int32) (cbytes : Nat → Int32) (cdigits : Nat → Int32) (centries : Nat → Int32) : va_W := (ad 0, .inr (7, [.ref (ad 1), .ref (ad 3), .ref (ad 5), .ref (ad 7), .ref (ad 17), .ref (ad 27), .ref (ad 30), .ref (ad 33), .int badCalls, .int noCalls, .int fullCalls, .int stopError, .int stopIndex])) :: ((wR cI (ad 1) (ad 2) 105 (5 : Int32) (3 : Int32) (7 : Int32) npp ncolumns ncount nnum) ++ (wR cI (ad 3) (ad 4) 105 (5 : Int32) (3 : Int32) (7 : Int32) bpp bcolumns bcount bnum) ++ (wHI cI cR (ad 5) (ad 6) kd gcount gg0pp gg0columns gg0count gg0num gg1pp gg1columns gg1count gg1num gg2pp gg2columns gg2count gg2num gg3pp gg3columns gg3count gg3num gg4pp gg4columns gg4count gg4num) ++ ((ad 7, .inr (2, [.ref (ad 8), .ref (ad 10), .ref (ad 12), .ref (ad 15)])) :: ((wR cI (ad 8) (ad 9) 1000 (5 : Int32) (8 : Int32) (25 : Int32) vlpp vlcolumns vlcount vlnum) ++ (wR cI (ad 10) (ad 11) 200 (1 : Int32) (8 : Int32) (25 : Int32) vfpp vfcolumns vfcount vfnum) ++ (wST cI (ad 12) (ad 13) (ad 14) vstarget vssource vsnumber vspower vszcount vszplaces) ++ (wSH cI (ad 15) (ad 16) vycount vyplaces))) ++ ((ad 17, .inr (2, [.ref (ad 18), .ref (ad 20), .ref (ad 22), .ref (ad 25)])) :: ((wR cI (ad 18) (ad 19) 1000 (5 : Int32) (8 : Int32) (25 : Int32) wlpp wlcolumns wlcount wlnum) ++ (wR cI (ad 20) (ad 21) 200 (1 : Int32) (8 : Int32) (25 : Int32) wfpp wfcolumns wfcount wfnum) ++ (wST cI (ad 22) (ad 23) (ad 24) wstarget wssource wsnumber wspower wszcount wszplaces) ++ (wSH cI (ad 25) (ad 26) wycount wyplaces))) ++ (wDE cI (ad 27) (ad 28) (ad 29) dchosenCount dnumbers dchosen) ++ (wST cI (ad 30) (ad 31) (ad 32) starget ssource snumber spower szcount szplaces) ++ (wSC cI cB (ad 33) (ad 34) (ad 35) (ad 36) clength cplace cletter crowColumns cbytes cdigits centries))
