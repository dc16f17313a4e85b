/-! sums over 0 .. n-1, an indicator, least elements -/
def ap_S (f : Nat → Nat) : Nat → Nat
  | 0 => 0
  | n + 1 => ap_S f n + f n
theorem ap_S_s (f : Nat → Nat) (n : Nat) : ap_S f (n + 1) = ap_S f n + f n := rfl
theorem ap_S_c {f g : Nat → Nat} (n : Nat) : (∀ i, i < n → f i = g i) → ap_S f n = ap_S g n := by
  induction n with
  | zero => intro _; rfl
  | succ n ih =>
    intro h
    have h1 := ih (fun i hi => h i (by omega))
    have h2 := h n (by omega)
    rw [ap_S_s, ap_S_s, h1, h2]
theorem ap_S_z {f : Nat → Nat} (n : Nat) : (∀ i, i < n → f i = 0) → ap_S f n = 0 := by
  induction n with
  | zero => intro _; rfl
  | succ n ih =>
    intro h
    have h1 := ih (fun i hi => h i (by omega))
    have h2 := h n (by omega)
    rw [ap_S_s]; omega
theorem ap_S_a (f g : Nat → Nat) (n : Nat) : ap_S (fun i => f i + g i) n = ap_S f n + ap_S g n := by
  induction n with
  | zero => rfl
  | succ n ih =>
    show ap_S (fun i => f i + g i) n + (f n + g n) = (ap_S f n + f n) + (ap_S g n + g n)
    omega
theorem ap_S_k (c : Nat) (f : Nat → Nat) (n : Nat) : ap_S (fun i => c * f i) n = c * ap_S f n := by
  induction n with
  | zero => rfl
  | succ n ih =>
    show ap_S (fun i => c * f i) n + c * f n = c * (ap_S f n + f n)
    rw [ih, Nat.mul_add]
theorem ap_S_1s (c n : Nat) : ap_S (fun _ => c) n = c * n := by
  induction n with
  | zero => rfl
  | succ n ih =>
    show ap_S (fun _ => c) n + c = c * (n + 1)
    rw [ih, Nat.mul_succ]
theorem ap_S_sw (f : Nat → Nat → Nat) (m n : Nat) : ap_S (fun i => ap_S (fun j => f i j) m) n = ap_S (fun j => ap_S (fun i => f i j) n) m := by
  induction n with
  | zero => exact (ap_S_z m (fun _ _ => rfl)).symm
  | succ n ih =>
    show ap_S (fun i => ap_S (fun j => f i j) m) n + ap_S (fun j => f n j) m = _
    rw [ih, ← ap_S_a]
    exact ap_S_c m (fun _ _ => rfl)
theorem ap_S_1 {f : Nat → Nat} {k : Nat} (n : Nat) : k < n → (∀ i, i < n → i ≠ k → f i = 0) → ap_S f n = f k := by
  induction n with
  | zero => intro h; exact absurd h (Nat.not_lt_zero _)
  | succ n ih =>
    intro h hz
    rw [ap_S_s]
    by_cases e : k = n
    · have h1 := ap_S_z (f := f) n (fun i hi => hz i (by omega) (by omega))
      have h2 : f k = f n := by rw [e]
      omega
    · have h1 := ih (by omega) (fun i hi => hz i (by omega))
      have h2 := hz n (by omega) (by omega)
      omega
theorem ap_S_x {f : Nat → Nat} {m : Nat} (n : Nat) : m ≤ n → (∀ i, m ≤ i → i < n → f i = 0) → ap_S f n = ap_S f m := by
  induction n with
  | zero =>
    intro h _
    have e : m = 0 := by omega
    rw [e]
  | succ n ih =>
    intro h hz
    by_cases e : m = n + 1
    · rw [e]
    · have h1 := ih (by omega) (fun i h1 h2 => hz i h1 (by omega))
      have h2 := hz n (by omega) (by omega)
      rw [ap_S_s]; omega
theorem ap_S_r (f : Nat → Nat) (m n : Nat) : ap_S f (m + n) = ap_S f m + ap_S (fun i => f (m + i)) n := by
  induction n with
  | zero => rfl
  | succ n ih =>
    show ap_S f (m + n) + f (m + n) = ap_S f m + (ap_S (fun i => f (m + i)) n + f (m + n))
    omega
theorem ap_S_16 (f : Nat → Nat) (n : Nat) : ap_S f (16 * n) = ap_S (fun y => ap_S (fun x => f (16 * y + x)) 16) n := by
  induction n with
  | zero => rfl
  | succ n ih =>
    have e : 16 * (n + 1) = 16 * n + 16 := by omega
    rw [e, ap_S_r, ih]
    rfl
theorem ap_S_l {f : Nat → Nat} {c : Nat} (n : Nat) : (∀ i, i < n → f i ≤ c) → ap_S f n ≤ c * n := by
  induction n with
  | zero => intro _; exact Nat.zero_le _
  | succ n ih =>
    intro h
    have h1 := ih (fun i hi => h i (by omega))
    have h2 := h n (by omega)
    rw [ap_S_s, Nat.mul_succ]
    exact Nat.add_le_add h1 h2
noncomputable def ap_i (p : Prop) : Nat := @ite Nat p (Classical.propDecidable p) 1 0
theorem ap_i_t {p : Prop} (h : p) : ap_i p = 1 := by unfold ap_i; exact if_pos h
theorem ap_i_f {p : Prop} (h : ¬ p) : ap_i p = 0 := by unfold ap_i; exact if_neg h
theorem ap_i_c {p q : Prop} (h : p ↔ q) : ap_i p = ap_i q := by rw [propext h]
theorem ap_i_l (p : Prop) : ap_i p ≤ 1 := by
  by_cases h : p
  · rw [ap_i_t h]; exact Nat.le_refl 1
  · rw [ap_i_f h]; exact Nat.zero_le 1
theorem ap_S_e {p : Nat → Prop} (n : Nat) (hu : ∀ i j, i < n → j < n → p i → p j → i = j) : ap_S (fun i => ap_i (p i)) n = ap_i (∃ i, i < n ∧ p i) := by
  by_cases h : ∃ i, i < n ∧ p i
  · have h2 := ap_i_t h
    obtain ⟨k, hk, hp⟩ := h
    have h1 := ap_S_1 (f := fun i => ap_i (p i)) (k := k) n hk (fun i hi hn => ap_i_f (fun q => hn (hu i k hi hk q hp)))
    rw [h1, h2]
    exact ap_i_t hp
  · rw [ap_i_f h]
    exact ap_S_z n (fun i hi => ap_i_f (fun q => h ⟨i, hi, q⟩))
/-- a run of true cells from 0: the count is its length -/
theorem ap_S_dn {p : Nat → Prop} {m : Nat} (n : Nat) (hm : m ≤ n) (h1 : ∀ i, i < m → p i) (h2 : ∀ i, m ≤ i → i < n → ¬ p i) : ap_S (fun i => ap_i (p i)) n = m := by
  rw [ap_S_x n hm (fun i a b => ap_i_f (h2 i a b)), ap_S_c (g := fun _ => 1) m (fun i a => ap_i_t (h1 i a)), ap_S_1s, Nat.one_mul]
/-- the cells of an interval -/
theorem ap_S_iv (l w W : Nat) (h : l + w ≤ W) : ap_S (fun x => ap_i (l ≤ x ∧ x < l + w)) W = w := by
  rw [ap_S_x (m := l + w) W h (fun i a b => ap_i_f (fun q => by omega)), ap_S_r]
  rw [ap_S_z l (fun i a => ap_i_f (fun q => by omega))]
  rw [ap_S_c (g := fun _ => 1) w (fun i a => ap_i_t ⟨by omega, by omega⟩), ap_S_1s]
  omega
