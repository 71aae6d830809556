/-! polynomials: sums of products -/
abbrev Pl : Type := Nat → Int
def pm (f g : Pl) : Pl := fun k => sm (k + 1) (fun s => f s * g (k - s))
def pa (f g : Pl) : Pl := fun k => f k + g k
def pn (f : Pl) : Pl := fun k => -f k
def u1 : Pl := fun k => if k = 0 then 1 else 0
def z0 : Pl := fun _ => 0
theorem sm_first (n : Nat) (f : Nat → Int) : sm (n + 1) f = f 0 + sm n (fun i => f (i + 1)) := by
  induction n with
  | zero => unfold sm; unfold sm; omega
  | succ n ih => rw [sm_s, ih, sm_s]; omega
theorem sm_rev (n : Nat) (f : Nat → Int) : sm (n + 1) (fun i => f (n - i)) = sm (n + 1) f := by
  induction n generalizing f with
  | zero => rfl
  | succ n ih =>
    rw [sm_s (n + 1) f, sm_first (n + 1) (fun i => f (n + 1 - i))]
    have e : sm (n + 1) (fun i => f (n + 1 - (i + 1))) = sm (n + 1) (fun i => f (n - i)) := sm_congr (fun i hi => by rw [show n + 1 - (i + 1) = n - i by omega])
    rw [e, ih f]
    show f (n + 1 - 0) + sm (n + 1) f = sm (n + 1) f + f (n + 1)
    rw [Nat.sub_zero]
    omega
theorem pm_comm (f g : Pl) : pm f g = pm g f := by
  funext k
  unfold pm
  rw [← sm_rev k (fun s => f s * g (k - s))]
  refine sm_congr (fun s hs => ?_)
  rw [show k - (k - s) = s by omega, Int.mul_comm]
theorem sm_swap (n m : Nat) (F : Nat → Nat → Int) : sm n (fun i => sm m (fun j => F i j)) = sm m (fun j => sm n (fun i => F i j)) := by
  induction n with
  | zero => exact (sm_zero (n := m)).symm
  | succ n ih =>
    rw [sm_s, ih, ← sm_add]
    rfl
theorem pm_assoc (f g h : Pl) : pm (pm f g) h = pm f (pm g h) := by
  funext k
  unfold pm
  have e1 : sm (k + 1) (fun s => sm (s + 1) (fun t => f t * g (s - t)) * h (k - s)) = sm (k + 1) (fun s => sm (k + 1) (fun t => if t ≤ s then f t * (g (s - t) * h (k - s)) else 0)) := by
    refine sm_congr (fun s hs => ?_)
    rw [sm_ext (n := s + 1) (m := k + 1) (by omega) (fun i h1 h2 => if_neg (by omega)), Int.mul_comm, ← sm_mul]
    refine sm_congr (fun t ht => ?_)
    rw [if_pos (by omega), Int.mul_comm, Int.mul_assoc]
  rw [e1, sm_swap]
  refine sm_congr (fun t ht => ?_)
  have e2 : (fun s => if t ≤ s then f t * (g (s - t) * h (k - s)) else 0) = (fun s => if t ≤ s then (fun y => f t * (g y * h (k - t - y))) (s - t) else 0) := by
    funext s
    by_cases hs : t ≤ s
    · rw [if_pos hs, if_pos hs]
      show f t * (g (s - t) * h (k - s)) = f t * (g (s - t) * h (k - t - (s - t)))
      rw [show k - t - (s - t) = k - s by omega]
    · rw [if_neg hs, if_neg hs]
  rw [e2, sm_shift (k + 1) t (fun y => f t * (g y * h (k - t - y))), show k + 1 - t = k - t + 1 by omega, sm_mul]
theorem pm_add (f g h : Pl) : pm (pa f g) h = pa (pm f h) (pm g h) := by
  funext k
  unfold pm pa
  rw [← sm_add]
  exact sm_congr (fun s _ => Int.add_mul _ _ _)
theorem pm_add' (f g h : Pl) : pm h (pa f g) = pa (pm h f) (pm h g) := by rw [pm_comm h, pm_add, pm_comm f, pm_comm g]
theorem pm_z (f : Pl) : pm z0 f = z0 := by
  funext k
  unfold pm z0
  rw [sm_congr (g := fun _ => 0) (fun s _ => Int.zero_mul _), sm_zero]
theorem pm_z' (f : Pl) : pm f z0 = z0 := by rw [pm_comm, pm_z]
theorem pm_u (f : Pl) : pm u1 f = f := by
  funext k
  unfold pm u1
  rw [sm_one (i := 0) (by omega) (fun j hj hne => by rw [if_neg hne, Int.zero_mul]), if_pos rfl, Int.one_mul, Nat.sub_zero]
theorem pm_u' (f : Pl) : pm f u1 = f := by rw [pm_comm, pm_u]
theorem pm_r (a b c : Pl) : pm (pm a b) c = pm (pm a c) b := by rw [pm_assoc, pm_comm b c, ← pm_assoc]
theorem pm_l (a b c : Pl) : pm (pm a b) c = pm (pm c b) a := by rw [pm_assoc, pm_comm, pm_comm b c]
/-- alike modulo p -/
def pq (p : Nat) (f g : Pl) : Prop := ∀ k, (p : Int) ∣ f k - g k
theorem pq_r {p : Nat} (f : Pl) : pq p f f := fun k => ⟨0, by omega⟩
theorem pq_s {p : Nat} {f g : Pl} (h : pq p f g) : pq p g f := fun k => by
  obtain ⟨z, hz⟩ := h k
  exact ⟨-z, by rw [Int.mul_neg]; omega⟩
theorem pq_t {p : Nat} {f g h : Pl} (h1 : pq p f g) (h2 : pq p g h) : pq p f h := fun k => by
  obtain ⟨z, hz⟩ := h1 k
  obtain ⟨y, hy⟩ := h2 k
  exact ⟨z + y, by rw [Int.mul_add]; omega⟩
theorem pq_a {p : Nat} {f g f' g' : Pl} (h1 : pq p f f') (h2 : pq p g g') : pq p (pa f g) (pa f' g') := fun k => by
  obtain ⟨z, hz⟩ := h1 k
  obtain ⟨y, hy⟩ := h2 k
  exact ⟨z + y, by unfold pa; rw [Int.mul_add]; omega⟩
theorem pq_n {p : Nat} {f f' : Pl} (h1 : pq p f f') : pq p (pn f) (pn f') := fun k => by
  obtain ⟨z, hz⟩ := h1 k
  exact ⟨-z, by unfold pn; rw [Int.mul_neg]; omega⟩
theorem pq_m1 {p : Nat} {f f' g : Pl} (h1 : pq p f f') : pq p (pm f g) (pm f' g) := fun k => by
  refine sm_dvd (fun s hs => ?_)
  obtain ⟨z, hz⟩ := h1 s
  exact ⟨z * g (k - s), by rw [← Int.sub_mul, hz, Int.mul_assoc]⟩
theorem pq_m {p : Nat} {f g f' g' : Pl} (h1 : pq p f f') (h2 : pq p g g') : pq p (pm f g) (pm f' g') := by
  refine pq_t (pq_m1 h1) ?_
  rw [pm_comm f', pm_comm f']
  exact pq_m1 h2
/-- a product of two, by the first's range -/
theorem pm_rng {f g : Pl} {N : Nat} (hf : ∀ k, N ≤ k → f k = 0) (K : Nat) : pm f g K = sm N (fun a => if a ≤ K then f a * g (K - a) else 0) := by
  unfold pm
  have e1 : sm (K + 1) (fun s => f s * g (K - s)) = sm (N + K + 1) (fun a => if a ≤ K then f a * g (K - a) else 0) := by
    rw [sm_ext (n := K + 1) (m := N + K + 1) (by omega) (fun i h1 h2 => if_neg (by omega))]
    exact sm_congr (fun i hi => by rw [if_pos (by omega)])
  rw [e1]
  exact sm_ext (by omega) (fun i h1 h2 => by
    by_cases h : i ≤ K
    · rw [if_pos h, hf i h1, Int.zero_mul]
    · rw [if_neg h])
theorem sm_bd {n : Nat} {B : Int} {f : Nat → Int} (h : ∀ i, i < n → 0 ≤ f i ∧ f i ≤ B) : 0 ≤ sm n f ∧ sm n f ≤ n * B := by
  induction n with
  | zero => unfold sm; omega
  | succ n ih =>
    have h1 := ih (fun i hi => h i (by omega))
    have h2 := h n (by omega)
    rw [sm_s, Int.natCast_add, Int.add_mul]
    omega
theorem pm_hi {f g : Pl} {N M K : Nat} (hf : ∀ k, N ≤ k → f k = 0) (hg : ∀ k, M ≤ k → g k = 0) (hK : N + M ≤ K + 1) : pm f g K = 0 := by
  unfold pm
  rw [sm_congr (g := fun _ => 0) (fun s hs => by
    by_cases h : N ≤ s
    · rw [hf s h, Int.zero_mul]
    · rw [hg (K - s) (by omega), Int.mul_zero]), sm_zero]
/-- determinants of one, two, three rows -/
def d1 (r : Nat → Nat → Pl) : Pl := r 0 0
def d2 (r : Nat → Nat → Pl) : Pl := pa (pm (r 0 0) (r 1 1)) (pn (pm (r 0 1) (r 1 0)))
def d3 (r : Nat → Nat → Pl) : Pl := pa (pa (pa (pa (pa (pm (pm (r 0 0) (r 1 1)) (r 2 2)) (pn (pm (pm (r 0 1) (r 1 0)) (r 2 2)))) (pm (pm (r 0 1) (r 1 2)) (r 2 0))) (pm (pm (r 0 2) (r 1 0)) (r 2 1))) (pn (pm (pm (r 0 2) (r 1 1)) (r 2 0)))) (pn (pm (pm (r 0 0) (r 1 2)) (r 2 1)))
def dt (n : Nat) (r : Nat → Nat → Pl) : Pl := if n = 1 then d1 r else if n = 2 then d2 r else d3 r
/-- row l put in the place i -/
def rp (r : Nat → Nat → Pl) (i : Nat) (v : Nat → Pl) : Nat → Nat → Pl := fun l c => if l = i then v c else r l c
theorem dt_pq {p n : Nat} {r r' : Nat → Nat → Pl} (hn : 1 ≤ n) (hn3 : n ≤ 3) (h : ∀ l c, l < n → c < n → pq p (r l c) (r' l c)) : pq p (dt n r) (dt n r') := by
  unfold dt
  rcases (show n = 1 ∨ n = 2 ∨ n = 3 by omega) with e | e | e <;> subst e
  · rw [if_pos rfl, if_pos rfl]
    exact h 0 0 (by omega) (by omega)
  · rw [if_neg (by omega), if_pos rfl, if_neg (by omega), if_pos rfl]
    exact pq_a (pq_m (h _ _ (by omega) (by omega)) (h _ _ (by omega) (by omega))) (pq_n (pq_m (h _ _ (by omega) (by omega)) (h _ _ (by omega) (by omega))))
  · rw [if_neg (by omega), if_neg (by omega), if_neg (by omega), if_neg (by omega)]
    have m : ∀ a b c, a < 3 → b < 3 → c < 3 → pq p (pm (pm (r 0 a) (r 1 b)) (r 2 c)) (pm (pm (r' 0 a) (r' 1 b)) (r' 2 c)) := fun a b c ha hb hc => pq_m (pq_m (h _ _ (by omega) ha) (h _ _ (by omega) hb)) (h _ _ (by omega) hc)
    exact pq_a (pq_a (pq_a (pq_a (pq_a (m _ _ _ (by omega) (by omega) (by omega)) (pq_n (m _ _ _ (by omega) (by omega) (by omega)))) (m _ _ _ (by omega) (by omega) (by omega))) (m _ _ _ (by omega) (by omega) (by omega))) (pq_n (m _ _ _ (by omega) (by omega) (by omega)))) (pq_n (m _ _ _ (by omega) (by omega) (by omega)))
theorem pa_at (f g : Pl) (k : Nat) : pa f g k = f k + g k := rfl
theorem pn_at (f : Pl) (k : Nat) : pn f k = -f k := rfl
/-- a row that is a sum -/
theorem dt_add {n i : Nat} {r : Nat → Nat → Pl} {v w : Nat → Pl} (hn : 1 ≤ n) (hn3 : n ≤ 3) (hi : i < n) : dt n (rp r i (fun c => pa (v c) (w c))) = pa (dt n (rp r i v)) (dt n (rp r i w)) := by
  unfold dt
  rcases (show n = 1 ∨ n = 2 ∨ n = 3 by omega) with e | e | e <;> subst e
  · have e0 : i = 0 := by omega
    subst e0
    rw [if_pos rfl, if_pos rfl, if_pos rfl]
    rfl
  · rw [if_neg (by omega), if_pos rfl, if_neg (by omega), if_pos rfl, if_neg (by omega), if_pos rfl]
    unfold d2
    rcases (show i = 0 ∨ i = 1 by omega) with e | e <;> subst e <;> simp only [rp, if_true, if_false, Nat.zero_ne_one, Nat.one_ne_zero, reduceIte, pm_add, pm_add'] <;> funext k <;> simp only [pa_at, pn_at] <;> omega
  · rw [if_neg (by omega), if_neg (by omega), if_neg (by omega), if_neg (by omega), if_neg (by omega), if_neg (by omega)]
    unfold d3
    rcases (show i = 0 ∨ i = 1 ∨ i = 2 by omega) with e | e | e <;> subst e <;> simp [rp, pm_add, pm_add'] <;> funext k <;> simp only [pa_at, pn_at] <;> omega
theorem pm_n (f g : Pl) : pm (pn f) g = pn (pm f g) := by
  funext k
  unfold pm pn
  rw [← Int.neg_one_mul (sm (k + 1) _), ← sm_mul]
  exact sm_congr (fun s _ => by rw [Int.neg_mul, Int.neg_one_mul])
theorem pm_n' (f g : Pl) : pm g (pn f) = pn (pm g f) := by rw [pm_comm, pm_n, pm_comm]
/-- a row times a polynomial -/
theorem dt_mul {n i : Nat} {r : Nat → Nat → Pl} {v : Nat → Pl} (q : Pl) (hn : 1 ≤ n) (hn3 : n ≤ 3) (hi : i < n) : dt n (rp r i (fun c => pm q (v c))) = pm q (dt n (rp r i v)) := by
  have s1 : ∀ a b : Pl, pm (pm q a) b = pm q (pm a b) := fun a b => pm_assoc q a b
  have s2 : ∀ a b : Pl, pm a (pm q b) = pm q (pm a b) := fun a b => by rw [← pm_assoc, pm_comm a q, pm_assoc]
  unfold dt
  rcases (show n = 1 ∨ n = 2 ∨ n = 3 by omega) with e | e | e <;> subst e
  · have e0 : i = 0 := by omega
    subst e0
    rw [if_pos rfl, if_pos rfl]
    rfl
  · rw [if_neg (by omega), if_pos rfl, if_neg (by omega), if_pos rfl]
    unfold d2
    rcases (show i = 0 ∨ i = 1 by omega) with e | e <;> subst e <;> simp [rp, pm_add', pm_n', s1, s2]
  · rw [if_neg (by omega), if_neg (by omega), if_neg (by omega), if_neg (by omega)]
    unfold d3
    rcases (show i = 0 ∨ i = 1 ∨ i = 2 by omega) with e | e | e <;> subst e <;> simp [rp, pm_add', pm_n', s1, s2]
/-- two rows that are the same -/
theorem dt_same {n i j : Nat} {r : Nat → Nat → Pl} (hn : 1 ≤ n) (hn3 : n ≤ 3) (hi : i < n) (hj : j < n) (hij : i ≠ j) : dt n (rp r i (r j)) = z0 := by
  unfold dt
  rcases (show n = 1 ∨ n = 2 ∨ n = 3 by omega) with e | e | e <;> subst e
  · omega
  · rw [if_neg (by omega), if_pos rfl]
    unfold d2
    rcases (show i = 0 ∧ j = 1 ∨ i = 1 ∧ j = 0 by omega) with ⟨e, e2⟩ | ⟨e, e2⟩ <;> subst e <;> subst e2 <;> simp [rp] <;> funext k <;> simp only [pa_at, pn_at, z0]
    · rw [pm_comm (r 1 1) (r 1 0)]; omega
    · rw [pm_comm (r 0 1) (r 0 0)]; omega
  · rw [if_neg (by omega), if_neg (by omega)]
    unfold d3
    rcases (show i = 0 ∧ j = 1 ∨ i = 1 ∧ j = 0 ∨ i = 0 ∧ j = 2 ∨ i = 2 ∧ j = 0 ∨ i = 1 ∧ j = 2 ∨ i = 2 ∧ j = 1 by omega) with ⟨e, e2⟩ | ⟨e, e2⟩ | ⟨e, e2⟩ | ⟨e, e2⟩ | ⟨e, e2⟩ | ⟨e, e2⟩ <;> subst e <;> subst e2 <;> simp [rp] <;> funext k <;> simp only [pa_at, pn_at, z0]
    · rw [pm_comm (r 1 1) (r 1 0), pm_comm (r 1 2) (r 1 0), pm_comm (r 1 2) (r 1 1)]; omega
    · rw [pm_comm (r 0 1) (r 0 0), pm_comm (r 0 2) (r 0 0), pm_comm (r 0 2) (r 0 1)]; omega
    · rw [pm_l (r 2 0) (r 1 1) (r 2 2), pm_l (r 2 1) (r 1 0) (r 2 2), pm_l (r 2 1) (r 1 2) (r 2 0)]; omega
    · rw [pm_l (r 0 0) (r 1 1) (r 0 2), pm_l (r 0 1) (r 1 0) (r 0 2), pm_l (r 0 1) (r 1 2) (r 0 0)]; omega
    · rw [pm_r (r 0 0) (r 2 1) (r 2 2), pm_r (r 0 1) (r 2 0) (r 2 2), pm_r (r 0 2) (r 2 0) (r 2 1)]; omega
    · rw [pm_r (r 0 0) (r 1 1) (r 1 2), pm_r (r 0 1) (r 1 0) (r 1 2), pm_r (r 0 2) (r 1 0) (r 1 1)]; omega
/-- a number as a polynomial -/
def cst (t : Int) : Pl := fun k => if k = 0 then t else 0
theorem pm_c (t : Int) (f : Pl) (k : Nat) : pm (cst t) f k = t * f k := by
  unfold pm cst
  rw [sm_one (i := 0) (by omega) (fun j hj hne => by rw [if_neg hne, Int.zero_mul]), if_pos rfl, Nat.sub_zero]
theorem pm_c1 (f : Pl) : pm (cst 1) f = f := by funext k; rw [pm_c, Int.one_mul]
theorem pm_cm (f : Pl) : pm (cst (-1)) f = pn f := by funext k; rw [pm_c, Int.neg_one_mul]; rfl
