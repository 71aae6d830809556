/-! places of a world told by a mask, or merged out of two worlds: one walk along the list each -/
def selI : List Bool → Nat → List Nat
  | [], _ => []
  | true :: m, k => k :: selI m (k + 1)
  | false :: m, k => selI m (k + 1)
def sel : List Bool → va_W → List (Option (Nat × va_E))
  | [], _ => []
  | true :: m, l => l.head? :: sel m l.tail
  | false :: m, l => sel m l.tail
theorem sel_go : ∀ (m : List Bool) (l : va_W) (f : Nat → Option (Nat × va_E)) (k : Nat), (∀ j, f (k + j) = l[j]?) → (selI m k).map f = sel m l
  | [], _, _, _, _ => rfl
  | true :: m, l, f, k, h => by
    have h0 : f k = l.head? := by
      have := h 0
      rw [Nat.add_zero] at this
      rw [this]; cases l <;> rfl
    have h1 : ∀ j, f (k + 1 + j) = l.tail[j]? := fun j => by
      rw [Nat.add_assoc, Nat.add_comm 1 j, h (j + 1)]
      cases l with
      | nil => simp
      | cons a l => simp
    simp only [selI, sel, List.map_cons, h0, sel_go m l.tail f (k + 1) h1]
  | false :: m, l, f, k, h => by
    have h1 : ∀ j, f (k + 1 + j) = l.tail[j]? := fun j => by
      rw [Nat.add_assoc, Nat.add_comm 1 j, h (j + 1)]
      cases l with
      | nil => simp
      | cons a l => simp
    simp only [selI, sel, sel_go m l.tail f (k + 1) h1]
theorem selR {ws wr : va_W} {isR : List Nat} (m : List Bool) (hi : selI m 0 = isR) (hm : sel m ws = wr.map some) : isR.map (fun i => ws[i]?) = wr.map some := by
  rw [← hi, ← hm]
  exact sel_go m ws (fun i => ws[i]?) 0 (fun j => by rw [Nat.zero_add])
def mgI : List (Option Nat) → Nat → Nat → List Nat
  | [], _, _ => []
  | none :: m, k, n => k :: mgI m (k + 1) n
  | some j :: m, k, n => (n + j) :: mgI m k n
def mgC : List (Option Nat) → Nat
  | [] => 0
  | none :: m => mgC m + 1
  | some _ :: m => mgC m
def mg : List (Option Nat) → va_W → va_W → List (Option (Nat × va_E))
  | [], _, _ => []
  | none :: m, l, w => l.head? :: mg m l.tail w
  | some k :: m, l, w => w[k]? :: mg m l w
theorem mg_go {a w : va_W} : ∀ (m : List (Option Nat)) (k : Nat), k + mgC m ≤ a.length → (mgI m k a.length).map (fun i => (a ++ w)[i]?) = mg m (a.drop k) w
  | [], _, _ => rfl
  | none :: m, k, h => by
    simp only [mgC] at h
    have hk : k < a.length := by omega
    have ih := mg_go (a := a) (w := w) m (k + 1) (by omega)
    simp only [mgI, mg, List.map_cons, ih, List.tail_drop, List.head?_drop, List.getElem?_append_left hk]
  | some j :: m, k, h => by
    simp only [mgC] at h
    have e : (a ++ w)[a.length + j]? = w[j]? := by
      rw [List.getElem?_append_right (Nat.le_add_right _ _), Nat.add_sub_cancel_left]
    have ih := mg_go (a := a) (w := w) m k h
    simp only [mgI, mg, List.map_cons, ih, e]
theorem mgN {wr w1 ws2 : va_W} {isN : List Nat} (m : List (Option Nat)) (n : Nat) (hl : wr.length = n) (hi : (mgI m 0 n = isN) ∧ mgC m ≤ n) (hm : mg m wr w1 = ws2.map some) : isN.map (fun i => (wr ++ w1)[i]?) = ws2.map some := by
  rw [← hi.1, ← hm, ← hl]
  exact mg_go m 0 (by rw [Nat.zero_add, hl]; exact hi.2)
