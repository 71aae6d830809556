/-! a world of two halves, the first one's method called -/
theorem rgA (a b : va_W) : (List.range a.length).map (fun i => (a ++ b)[i]?) = a.map some := by
  apply List.ext_getElem
  · simp
  · intro i h1 h2
    have hi : i < a.length := by simpa using h1
    simp [List.getElem?_append_left hi, hi]
theorem rgB (a b : va_W) : (List.range' a.length b.length).map (fun i => (a ++ b)[i]?) = b.map some := by
  apply List.ext_getElem
  · simp
  · intro i h1 h2
    have hi : i < b.length := by simpa using h1
    simp [List.getElem?_append_right, hi]
theorem rgN : ∀ (n k : Nat), va_nd (List.range' k n) = true
  | 0, _ => rfl
  | n + 1, k => by
    rw [List.range'_succ]
    simp only [va_nd, rgN n (k + 1), Bool.and_true, decide_eq_true_eq]
    intro h
    have := List.mem_range'_1.mp h
    omega
theorem rgN0 (n : Nat) : va_nd (List.range n) = true := by rw [List.range_eq_range']; exact rgN n 0
theorem rgD (a b : va_W) : ∀ i ∈ List.range' a.length b.length, i ∉ List.range a.length := by
  intro i h1 h2
  have := List.mem_range'_1.mp h1
  have := List.mem_range.mp h2
  omega
section CALLA
variable {p : Program} {l : Launch} {e : Env} {R : Room} {s : State} {m : MethodId} {args : Array Value} {below : List Frame} {meth : Method} {c : Code} {H : Heap} {locs : List Loc} {Q : State → Prop} {cc : ByteArray} {pc : Nat} {ls : Array Slot} {st0 rest : List Value} {D : va_G} {A : Nat → Prop} {wc wr w1 : va_W} {w1u : (Nat → Nat) → va_W} {H0 : Heap} {a : Array Value}
theorem gapL (hP : va_P D cls9 (wc ++ wr) H) : va_P D cls9 wc H := hPsub hP (List.range wc.length) (rgA wc wr)
theorem gapDL (hD : va_D A (wc ++ wr)) : va_D A wc := hD.sub (List.range wc.length) (rgN0 _) (rgA wc wr)
theorem cqIA {cells slots : Nat} {r0 : Int32} (hr : va_Run p l e R s m args below meth c H locs cells slots 0 0 (F0 m pc ls st0) rest (qI D r0 wc w1 H.size a) (va_A wc H.size)) (hP : va_P D cls9 (wc ++ wr) H) (hD : va_D A (wc ++ wr)) (hS : va_S A H0 H locs) (hA : ∀ q, H0.size ≤ q → A q) (kk : ∀ (H1 : Heap) (locs1 : List Loc), va_P D cls9 (wr ++ w1) H1 → va_D A (wr ++ w1) → va_S A H0 H1 locs1 → W p l e R s m args below meth c H1 locs1 cells slots Q (F0 m (pc + 3) ls (.int r0 :: rest))) : W p l e R s m args below meth c H locs cells slots Q (F0 m pc ls st0) := by
  have hF := va_free (wc := wc) hD hS hA _ (rgA wc wr)
  refine va_calli hr hS (fun q _ h => hF q h) hF (fun r u t H1 locs1 ht hvm hw hB hz hk hS1 => ?_)
  subst hw
  obtain ⟨hP1, hD1⟩ := hB
  rw [ht] at hP1
  obtain ⟨hP2, hD2⟩ := va_join (wr := wr) (w1 := w1) hP hD _ _ (rgA wc wr) (rgB wc wr) (rgN _ _) (rgD wc wr) hk hF hP1 hD1
  exact kk H1 locs1 hP2 hD2 hS1
theorem cqLA {cells slots : Nat} {r0 : Int64} (hr : va_Run p l e R s m args below meth c H locs cells slots 0 0 (F0 m pc ls st0) rest (qL D r0 wc w1 H.size a) (va_A wc H.size)) (hP : va_P D cls9 (wc ++ wr) H) (hD : va_D A (wc ++ wr)) (hS : va_S A H0 H locs) (hA : ∀ q, H0.size ≤ q → A q) (kk : ∀ (H1 : Heap) (locs1 : List Loc), va_P D cls9 (wr ++ w1) H1 → va_D A (wr ++ w1) → va_S A H0 H1 locs1 → W p l e R s m args below meth c H1 locs1 cells slots Q (F0 m (pc + 3) ls (.long r0 :: rest))) : W p l e R s m args below meth c H locs cells slots Q (F0 m pc ls st0) := by
  have hF := va_free (wc := wc) hD hS hA _ (rgA wc wr)
  refine va_calll hr hS (fun q _ h => hF q h) hF (fun r u t H1 locs1 ht hvm hw hB hz hk hS1 => ?_)
  subst hw
  obtain ⟨hP1, hD1⟩ := hB
  rw [ht] at hP1
  obtain ⟨hP2, hD2⟩ := va_join (wr := wr) (w1 := w1) hP hD _ _ (rgA wc wr) (rgB wc wr) (rgN _ _) (rgD wc wr) hk hF hP1 hD1
  exact kk H1 locs1 hP2 hD2 hS1
theorem cqIXA {cells slots : Nat} {r0 : Int32} (hr : va_Run p l e R s m args below meth c H locs cells slots 0 0 (F0 m pc ls st0) rest (qIX D r0 wc w1u H.size a) (va_A wc H.size)) (hP : va_P D cls9 (wc ++ wr) H) (hD : va_D A (wc ++ wr)) (hS : va_S A H0 H locs) (hA : ∀ q, H0.size ≤ q → A q) (kk : ∀ (u : Nat → Nat) (H1 : Heap) (locs1 : List Loc), va_P D cls9 (wr ++ w1u u) H1 → va_D A (wr ++ w1u u) → va_S A H0 H1 locs1 → W p l e R s m args below meth c H1 locs1 cells slots Q (F0 m (pc + 3) ls (.int r0 :: rest))) : W p l e R s m args below meth c H locs cells slots Q (F0 m pc ls st0) := by
  have hF := va_free (wc := wc) hD hS hA _ (rgA wc wr)
  refine va_calli hr hS (fun q _ h => hF q h) hF (fun r u t H1 locs1 ht hvm hw hB hz hk hS1 => ?_)
  subst hw
  obtain ⟨hP1, hD1⟩ := hB
  rw [ht] at hP1
  obtain ⟨hP2, hD2⟩ := va_join (wr := wr) (w1 := w1u u) hP hD _ _ (rgA wc wr) (rgB wc wr) (rgN _ _) (rgD wc wr) hk hF hP1 hD1
  exact kk u H1 locs1 hP2 hD2 hS1
end CALLA
