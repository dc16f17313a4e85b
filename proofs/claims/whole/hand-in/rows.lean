section
/-! rows pasted from kit/rows/PURE-ROWS -/
theorem pk_us {f : Nat → Int32} {k : Nat} {x : Int32} : upd f k x k = x := if_pos rfl
theorem pk_un {f : Nat → Int32} {k j : Nat} {x : Int32} (h : j ≠ k) : upd f k x j = f j := if_neg h
theorem pk_sub {a b : Nat} (h : b ≤ a) : nI a - nI b = nI (a - b) := by
  obtain ⟨c, rfl⟩ : ∃ c, a = c + b := ⟨a - b, by omega⟩
  rw [← nI_add, Int32.add_sub_cancel, Nat.add_sub_cancel]
theorem pk_m1 (n : Nat) : nI (n + 1) + (-1) = nI n := by
  rw [← nI_1, Int32.add_assoc, show (1 : Int32) + (-1) = 0 from rfl, Int32.add_zero]
theorem pk_mul (a b : Nat) : nI a * nI b = nI (a * b) := (Int32.ofNat_mul a b).symm
theorem pk_div {a d : Nat} (ha : a < 2 ^ 31) (h0 : 0 < d) (hd : d < 2 ^ 31) : nI a / nI d = nI (a / d) := by
  apply Int32.toInt_inj.mp
  rw [lg_idiv_nonneg (by rw [nI_toInt ha]; omega) (by rw [nI_toInt hd]; omega), nI_toInt ha, nI_toInt hd, nI_toInt (Nat.lt_of_le_of_lt (Nat.div_le_self a d) ha)]
  first | rfl | exact (Int.natCast_ediv _ _).symm
theorem pk_rem {a d : Nat} (ha : a < 2 ^ 31) (h0 : 0 < d) (hd : d < 2 ^ 31) : nI a - nI a / nI d * nI d = nI (a % d) := by
  rw [pk_div ha h0 hd, pk_mul, pk_sub (Nat.div_mul_le_self a d)]
  exact congrArg nI (by have := Nat.div_add_mod' a d; omega)
theorem pk_sub_toInt {a b : Nat} (ha : a < 2 ^ 30) (hb : b < 2 ^ 30) : (nI a - nI b).toInt = (a : Int) - b := by
  rw [Int32.toInt_sub, nI_toInt (by omega), nI_toInt (by omega)]
  exact Int.bmod_eq_of_le (by omega) (by omega)
theorem pk_sneg {a b : Nat} (hb : b < 2 ^ 30) (h : a < b) : nI a - nI b < 0 := by
  rw [Int32.lt_iff_toInt_lt, pk_sub_toInt (by omega) hb, show (0 : Int32).toInt = 0 from by decide]
  omega
theorem pk_ix (x : Int32) {n : Nat} (hn : n < 2 ^ 31) : x < 0 ∨ nI n ≤ x ∨ ∃ j : Nat, j < n ∧ x = nI j := by
  by_cases h : x < 0
  · exact Or.inl h
  · obtain ⟨j, hj, rfl⟩ := nI_of h
    by_cases h2 : j < n
    · exact Or.inr (Or.inr ⟨j, h2, rfl⟩)
    · exact Or.inr (Or.inl (nI_le (by omega) hj))
theorem pk_le {x y : Int32} {A B : Prop} (a b : Nat) (f : a ≤ b → A) (g : b < a → B) (hx : x = nI a := by rfl) (hy : y = nI b := by rfl) (ha : a < 2 ^ 31 := by omega) (hb : b < 2 ^ 31 := by omega) : (x ≤ y → A) ∧ (¬ x ≤ y → B) := by
  subst hx hy
  rw [nI_leI ha hb]
  exact ⟨f, fun z => g (by omega)⟩
theorem pk_lt {x y : Int32} {A B : Prop} (a b : Nat) (f : a < b → A) (g : b ≤ a → B) (hx : x = nI a := by rfl) (hy : y = nI b := by rfl) (ha : a < 2 ^ 31 := by omega) (hb : b < 2 ^ 31 := by omega) : (x < y → A) ∧ (¬ x < y → B) := by
  subst hx hy
  rw [nI_ltI ha hb]
  exact ⟨f, fun z => g (by omega)⟩
theorem pk_eq {x y : Int32} {A B : Prop} (a b : Nat) (f : a = b → A) (g : a ≠ b → B) (hx : x = nI a := by rfl) (hy : y = nI b := by rfl) (ha : a < 2 ^ 31 := by omega) (hb : b < 2 ^ 31 := by omega) : (x = y → A) ∧ (¬ x = y → B) := by
  subst hx hy
  rw [nI_eq ha hb]
  exact ⟨f, g⟩
theorem pk_in {x : Int32} (n N : Nat) (h : n < N) (hx : x = nI n := by rfl) (hN : N < 2 ^ 31 := by omega) : vp_in x N := by
  subst hx
  exact vp_in_nI h hN
theorem pk_cl {x : Int32} (n : Nat) (hx : x = nI n := by rfl) (h : n < 2 ^ 31 := by omega) : x.toNatClampNeg = n := by
  subst hx
  exact nI_clamp h
theorem pk_tn {n : Nat} (h : n < 2 ^ 32) : (nI n).toBitVec.toNat = n := Nat.mod_eq_of_lt h
theorem pk_and (x : Int32) {m : Int32} (k : Nat) (hm : m.toBitVec.toNat = 2 ^ k - 1) : x &&& m = nI (x.toBitVec.toNat % 2 ^ k) := by
  apply Int32.toBitVec_inj.mp
  apply BitVec.eq_of_toNat_eq
  rw [Int32.toBitVec_and, BitVec.toNat_and, hm, Nat.and_two_pow_sub_one_eq_mod]
  show _ = (BitVec.ofNat 32 _).toNat
  rw [BitVec.toNat_ofNat]
  exact (Nat.mod_eq_of_lt (Nat.lt_of_le_of_lt (Nat.mod_le _ _) x.toBitVec.isLt)).symm
theorem pk_andN {n : Nat} (h : n < 2 ^ 32) {m : Int32} (k : Nat) (hm : m.toBitVec.toNat = 2 ^ k - 1) : nI n &&& m = nI (n % 2 ^ k) := by
  rw [pk_and _ k hm, pk_tn h]
theorem pk_shr (a s : Int32) (k : Nat) (hs : (s.toBitVec.smod 32).toNat = k) : (a >>> s).toInt = a.toInt >>> k := by
  show (a.toBitVec.sshiftRight (s.toBitVec.smod 32).toNat).toInt = _
  rw [hs, BitVec.toInt_sshiftRight]
  rfl
theorem pk_shrN {n : Nat} (h : n < 2 ^ 31) (s : Int32) (k : Nat) (hs : (s.toBitVec.smod 32).toNat = k) : nI n >>> s = nI (n / 2 ^ k) := by
  apply Int32.toInt_inj.mp
  have h2 : n / 2 ^ k ≤ n := Nat.div_le_self _ _
  rw [pk_shr _ _ k hs, nI_toInt h, nI_toInt (by omega), Int.shiftRight_eq_div_pow]
  rfl
theorem pk_least (P : Nat → Prop) (h : ∃ k, P k) : ∃ k, P k ∧ ∀ j, j < k → ¬ P j := by
  obtain ⟨k, hk⟩ := h
  induction k using Nat.strongRecOn with
  | ind k ih =>
    by_cases e : ∃ j, j < k ∧ P j
    · obtain ⟨j, hj, pj⟩ := e
      exact ih j hj pj
    · exact ⟨k, hk, fun j hj pj => e ⟨j, hj, pj⟩⟩
end
section
/-! sums over 0 .. n-1, an indicator, least elements -/
def ap_S (f : Nat → Nat) : Nat → Nat
  | 0 => 0
  | n + 1 => ap_S f n + f n
theorem ap_S_s (f : Nat → Nat) (n : Nat) : ap_S f (n + 1) = ap_S f n + f n := rfl
theorem ap_S_c {f g : Nat → Nat} (n : Nat) : (∀ i, i < n → f i = g i) → ap_S f n = ap_S g n := by
  induction n with
  | zero => intro _; rfl
  | succ n ih =>
    intro h
    have h1 := ih (fun i hi => h i (by omega))
    have h2 := h n (by omega)
    rw [ap_S_s, ap_S_s, h1, h2]
theorem ap_S_z {f : Nat → Nat} (n : Nat) : (∀ i, i < n → f i = 0) → ap_S f n = 0 := by
  induction n with
  | zero => intro _; rfl
  | succ n ih =>
    intro h
    have h1 := ih (fun i hi => h i (by omega))
    have h2 := h n (by omega)
    rw [ap_S_s]; omega
theorem ap_S_a (f g : Nat → Nat) (n : Nat) : ap_S (fun i => f i + g i) n = ap_S f n + ap_S g n := by
  induction n with
  | zero => rfl
  | succ n ih =>
    show ap_S (fun i => f i + g i) n + (f n + g n) = (ap_S f n + f n) + (ap_S g n + g n)
    omega
theorem ap_S_k (c : Nat) (f : Nat → Nat) (n : Nat) : ap_S (fun i => c * f i) n = c * ap_S f n := by
  induction n with
  | zero => rfl
  | succ n ih =>
    show ap_S (fun i => c * f i) n + c * f n = c * (ap_S f n + f n)
    rw [ih, Nat.mul_add]
theorem ap_S_1s (c n : Nat) : ap_S (fun _ => c) n = c * n := by
  induction n with
  | zero => rfl
  | succ n ih =>
    show ap_S (fun _ => c) n + c = c * (n + 1)
    rw [ih, Nat.mul_succ]
theorem ap_S_sw (f : Nat → Nat → Nat) (m n : Nat) : ap_S (fun i => ap_S (fun j => f i j) m) n = ap_S (fun j => ap_S (fun i => f i j) n) m := by
  induction n with
  | zero => exact (ap_S_z m (fun _ _ => rfl)).symm
  | succ n ih =>
    show ap_S (fun i => ap_S (fun j => f i j) m) n + ap_S (fun j => f n j) m = _
    rw [ih, ← ap_S_a]
    exact ap_S_c m (fun _ _ => rfl)
theorem ap_S_1 {f : Nat → Nat} {k : Nat} (n : Nat) : k < n → (∀ i, i < n → i ≠ k → f i = 0) → ap_S f n = f k := by
  induction n with
  | zero => intro h; exact absurd h (Nat.not_lt_zero _)
  | succ n ih =>
    intro h hz
    rw [ap_S_s]
    by_cases e : k = n
    · have h1 := ap_S_z (f := f) n (fun i hi => hz i (by omega) (by omega))
      have h2 : f k = f n := by rw [e]
      omega
    · have h1 := ih (by omega) (fun i hi => hz i (by omega))
      have h2 := hz n (by omega) (by omega)
      omega
theorem ap_S_x {f : Nat → Nat} {m : Nat} (n : Nat) : m ≤ n → (∀ i, m ≤ i → i < n → f i = 0) → ap_S f n = ap_S f m := by
  induction n with
  | zero =>
    intro h _
    have e : m = 0 := by omega
    rw [e]
  | succ n ih =>
    intro h hz
    by_cases e : m = n + 1
    · rw [e]
    · have h1 := ih (by omega) (fun i h1 h2 => hz i h1 (by omega))
      have h2 := hz n (by omega) (by omega)
      rw [ap_S_s]; omega
theorem ap_S_r (f : Nat → Nat) (m n : Nat) : ap_S f (m + n) = ap_S f m + ap_S (fun i => f (m + i)) n := by
  induction n with
  | zero => rfl
  | succ n ih =>
    show ap_S f (m + n) + f (m + n) = ap_S f m + (ap_S (fun i => f (m + i)) n + f (m + n))
    omega
theorem ap_S_16 (f : Nat → Nat) (n : Nat) : ap_S f (16 * n) = ap_S (fun y => ap_S (fun x => f (16 * y + x)) 16) n := by
  induction n with
  | zero => rfl
  | succ n ih =>
    have e : 16 * (n + 1) = 16 * n + 16 := by omega
    rw [e, ap_S_r, ih]
    rfl
theorem ap_S_l {f : Nat → Nat} {c : Nat} (n : Nat) : (∀ i, i < n → f i ≤ c) → ap_S f n ≤ c * n := by
  induction n with
  | zero => intro _; exact Nat.zero_le _
  | succ n ih =>
    intro h
    have h1 := ih (fun i hi => h i (by omega))
    have h2 := h n (by omega)
    rw [ap_S_s, Nat.mul_succ]
    exact Nat.add_le_add h1 h2
noncomputable def ap_i (p : Prop) : Nat := @ite Nat p (Classical.propDecidable p) 1 0
theorem ap_i_t {p : Prop} (h : p) : ap_i p = 1 := by unfold ap_i; exact if_pos h
theorem ap_i_f {p : Prop} (h : ¬ p) : ap_i p = 0 := by unfold ap_i; exact if_neg h
theorem ap_i_c {p q : Prop} (h : p ↔ q) : ap_i p = ap_i q := by rw [propext h]
theorem ap_i_l (p : Prop) : ap_i p ≤ 1 := by
  by_cases h : p
  · rw [ap_i_t h]; exact Nat.le_refl 1
  · rw [ap_i_f h]; exact Nat.zero_le 1
theorem ap_S_e {p : Nat → Prop} (n : Nat) (hu : ∀ i j, i < n → j < n → p i → p j → i = j) : ap_S (fun i => ap_i (p i)) n = ap_i (∃ i, i < n ∧ p i) := by
  by_cases h : ∃ i, i < n ∧ p i
  · have h2 := ap_i_t h
    obtain ⟨k, hk, hp⟩ := h
    have h1 := ap_S_1 (f := fun i => ap_i (p i)) (k := k) n hk (fun i hi hn => ap_i_f (fun q => hn (hu i k hi hk q hp)))
    rw [h1, h2]
    exact ap_i_t hp
  · rw [ap_i_f h]
    exact ap_S_z n (fun i hi => ap_i_f (fun q => h ⟨i, hi, q⟩))
/-- a run of true cells from 0: the count is its length -/
theorem ap_S_dn {p : Nat → Prop} {m : Nat} (n : Nat) (hm : m ≤ n) (h1 : ∀ i, i < m → p i) (h2 : ∀ i, m ≤ i → i < n → ¬ p i) : ap_S (fun i => ap_i (p i)) n = m := by
  rw [ap_S_x n hm (fun i a b => ap_i_f (h2 i a b)), ap_S_c (g := fun _ => 1) m (fun i a => ap_i_t (h1 i a)), ap_S_1s, Nat.one_mul]
/-- the cells of an interval -/
theorem ap_S_iv (l w W : Nat) (h : l + w ≤ W) : ap_S (fun x => ap_i (l ≤ x ∧ x < l + w)) W = w := by
  rw [ap_S_x (m := l + w) W h (fun i a b => ap_i_f (fun q => by omega)), ap_S_r]
  rw [ap_S_z l (fun i a => ap_i_f (fun q => by omega))]
  rw [ap_S_c (g := fun _ => 1) w (fun i a => ap_i_t ⟨by omega, by omega⟩), ap_S_1s]
  omega
end
section
/-! rectangles of free cells: good places, holes, the greatest, what fits -/
def ap_G (W H : Nat) (F : Nat → Nat → Prop) (x y w h : Nat) : Prop :=
  x + w ≤ W ∧ y + h ≤ H ∧ ∀ i j, x ≤ i → i < x + w → y ≤ j → j < y + h → F i j
def ap_M (W H : Nat) (F : Nat → Nat → Prop) (x y w h : Nat) : Prop :=
  1 ≤ w ∧ 1 ≤ h ∧ ap_G W H F x y w h ∧ ¬ ap_G W H F x y (w + 1) h ∧ ¬ ap_G W H F x y w (h + 1) ∧
  (∀ x', x = x' + 1 → ¬ ap_G W H F x' y (w + 1) h) ∧ (∀ y', y = y' + 1 → ¬ ap_G W H F x y' w (h + 1))
def ap_w (W H : Nat) (F : Nat → Nat → Prop) (x y h w : Nat) : Prop :=
  (w = 0 ∨ ap_G W H F x y w h) ∧ ¬ ap_G W H F x y (w + 1) h
def ap_t (W H : Nat) (F : Nat → Nat → Prop) (x y w h : Nat) : Prop :=
  (h = 0 ∨ ap_G W H F x y w h) ∧ ¬ ap_G W H F x y w (h + 1)
section
variable {W H : Nat} {F : Nat → Nat → Prop}
theorem ap_G_s {x y w h x' y' w' h' : Nat} (g : ap_G W H F x y w h) (a : x ≤ x') (b : x' + w' ≤ x + w) (c : y ≤ y') (d : y' + h' ≤ y + h) : ap_G W H F x' y' w' h' := by
  obtain ⟨g1, g2, g3⟩ := g
  exact ⟨by omega, by omega, fun i j h1 h2 h3 h4 => g3 i j (by omega) (by omega) (by omega) (by omega)⟩
theorem ap_G_u {x y w h k : Nat} (g : ap_G W H F x y w h) (g' : ap_G W H F x (y + h) w k) : ap_G W H F x y w (h + k) := by
  obtain ⟨g1, g2, g3⟩ := g
  obtain ⟨g4, g5, g6⟩ := g'
  refine ⟨g1, by omega, fun i j h1 h2 h3 h4 => ?_⟩
  by_cases e : j < y + h
  · exact g3 i j h1 h2 h3 e
  · exact g6 i j h1 h2 (by omega) (by omega)
theorem ap_G_r {x y w h k : Nat} (g : ap_G W H F x y w h) (g' : ap_G W H F (x + w) y k h) : ap_G W H F x y (w + k) h := by
  obtain ⟨g1, g2, g3⟩ := g
  obtain ⟨g4, g5, g6⟩ := g'
  refine ⟨by omega, g2, fun i j h1 h2 h3 h4 => ?_⟩
  by_cases e : i < x + w
  · exact g3 i j h1 e h3 h4
  · exact g6 i j (by omega) (by omega) h3 h4
theorem ap_w_u {x y h w w' : Nat} (a : ap_w W H F x y h w) (b : ap_w W H F x y h w') : w = w' := by
  obtain ⟨a1, a2⟩ := a
  obtain ⟨b1, b2⟩ := b
  rcases Nat.lt_trichotomy w w' with c | c | c
  · rcases b1 with b1 | b1
    · omega
    · exact absurd (ap_G_s (x' := x) (y' := y) (w' := w + 1) (h' := h) b1 (by omega) (by omega) (by omega) (by omega)) a2
  · exact c
  · rcases a1 with a1 | a1
    · omega
    · exact absurd (ap_G_s (x' := x) (y' := y) (w' := w' + 1) (h' := h) a1 (by omega) (by omega) (by omega) (by omega)) b2
theorem ap_t_u {x y h h' w : Nat} (a : ap_t W H F x y w h) (b : ap_t W H F x y w h') : h = h' := by
  obtain ⟨a1, a2⟩ := a
  obtain ⟨b1, b2⟩ := b
  rcases Nat.lt_trichotomy h h' with c | c | c
  · rcases b1 with b1 | b1
    · omega
    · exact absurd (ap_G_s (x' := x) (y' := y) (w' := w) (h' := h + 1) b1 (by omega) (by omega) (by omega) (by omega)) a2
  · exact c
  · rcases a1 with a1 | a1
    · omega
    · exact absurd (ap_G_s (x' := x) (y' := y) (w' := w) (h' := h' + 1) a1 (by omega) (by omega) (by omega) (by omega)) b2
theorem ap_M_w {x y w h : Nat} (m : ap_M W H F x y w h) : ap_w W H F x y h w := ⟨Or.inr m.2.2.1, m.2.2.2.1⟩
theorem ap_M_t {x y w h : Nat} (m : ap_M W H F x y w h) : ap_t W H F x y w h := ⟨Or.inr m.2.2.1, m.2.2.2.2.1⟩
theorem ap_hol (x y : Nat) : ap_S (fun k => ap_i (∃ w, ap_M W H F x y w (k + 1))) (H - y) = ap_S (fun k => ap_i (∃ h, ap_M W H F x y (k + 1) h)) W := by
  have e1 : ap_S (fun k => ap_i (∃ w, ap_M W H F x y w (k + 1))) (H - y) = ap_S (fun k => ap_i (∃ w, ap_M W H F x y w (k + 1))) H := by
    refine (ap_S_x H (Nat.sub_le _ _) (fun i a b => ap_i_f ?_)).symm
    intro ⟨w, q⟩
    have := q.2.2.1.2.1
    omega
  have e2 : ∀ k, k < H → ap_i (∃ w, ap_M W H F x y w (k + 1)) = ap_S (fun j => ap_i (ap_M W H F x y (j + 1) (k + 1))) W := by
    intro k _
    rw [ap_S_e (p := fun j => ap_M W H F x y (j + 1) (k + 1)) W (fun i j _ _ a b => by have := ap_w_u (ap_M_w a) (ap_M_w b); omega)]
    refine ap_i_c ⟨?_, ?_⟩
    · intro ⟨w, q⟩
      have q1 := q.1
      have q2 := q.2.2.1.1
      have q3 : w - 1 + 1 = w := by omega
      exact ⟨w - 1, by omega, by rw [q3]; exact q⟩
    · intro ⟨j, _, q⟩
      exact ⟨j + 1, q⟩
  have e3 : ∀ j, j < W → ap_i (∃ h, ap_M W H F x y (j + 1) h) = ap_S (fun k => ap_i (ap_M W H F x y (j + 1) (k + 1))) H := by
    intro k _
    rw [ap_S_e (p := fun j => ap_M W H F x y (k + 1) (j + 1)) H (fun i j _ _ a b => by have := ap_t_u (ap_M_t a) (ap_M_t b); omega)]
    refine ap_i_c ⟨?_, ?_⟩
    · intro ⟨w, q⟩
      have q1 := q.2.1
      have q2 := q.2.2.1.2.1
      have q3 : w - 1 + 1 = w := by omega
      exact ⟨w - 1, by omega, by rw [q3]; exact q⟩
    · intro ⟨j, _, q⟩
      exact ⟨j + 1, q⟩
  rw [e1, ap_S_c H e2, ap_S_c W e3]
  exact ap_S_sw (fun k j => ap_i (ap_M W H F x y (j + 1) (k + 1))) W H
theorem ap_box (t : Nat → Nat → Nat) (hW : W ≤ 16) (hH : H ≤ 16) (hz : ∀ x y, (W ≤ x ∨ H ≤ y) → t x y = 0) : ap_S (fun k => t (k % 16) (k / 16)) 256 = ap_S (fun y => ap_S (fun x => t x y) W) H := by
  have e := ap_S_16 (fun k => t (k % 16) (k / 16)) 16
  have e0 : 16 * 16 = 256 := by decide
  rw [e0] at e
  rw [e]
  have e1 : ∀ y, y < 16 → ap_S (fun x => t ((16 * y + x) % 16) ((16 * y + x) / 16)) 16 = ap_S (fun x => t x y) W := by
    intro y _
    have e2 : ap_S (fun x => t ((16 * y + x) % 16) ((16 * y + x) / 16)) 16 = ap_S (fun x => t x y) 16 := by
      refine ap_S_c 16 (fun x hx => ?_)
      have a : (16 * y + x) % 16 = x := by omega
      have b : (16 * y + x) / 16 = y := by omega
      rw [a, b]
    rw [e2]
    exact ap_S_x 16 hW (fun i a _ => hz i y (Or.inl a))
  rw [ap_S_c 16 e1]
  exact ap_S_x 16 hH (fun i a _ => ap_S_z W (fun j _ => hz j i (Or.inr a)))
noncomputable def ap_nh (W H : Nat) (F : Nat → Nat → Prop) : Nat → Nat := fun k => ap_S (fun j => ap_i (∃ h, ap_M W H F (k % 16) (k / 16) (j + 1) h)) W
theorem ap_holes (hW : W ≤ 16) (hH : H ≤ 16) : ap_S (ap_nh W H F) 256 = ap_S (fun y => ap_S (fun x => ap_S (fun k => ap_i (∃ w, ap_M W H F x y w (k + 1))) (H - y)) W) H := by
  have e := ap_box (W := W) (H := H) (fun x y => ap_S (fun j => ap_i (∃ h, ap_M W H F x y (j + 1) h)) W) hW hH (fun x y q => ap_S_z W (fun j _ => ap_i_f (by
    intro ⟨h, m⟩
    have m1 := m.2.1
    have m2 := m.2.2.1.1
    have m3 := m.2.2.1.2.1
    omega)))
  refine Eq.trans e ?_
  exact ap_S_c H (fun y _ => ap_S_c W (fun x _ => (ap_hol x y).symm))
def ap_L (W H : Nat) (F : Nat → Nat → Prop) (r : Nat) : Prop :=
  (∀ x y w h, ap_G W H F x y w h → w * h ≤ r) ∧ (r = 0 ∨ ∃ x y w h, 1 ≤ w ∧ 1 ≤ h ∧ ap_G W H F x y w h ∧ w * h = r)
def ap_LM (W H : Nat) (F : Nat → Nat → Prop) (r : Nat) : Prop :=
  (∀ x y w h, ap_M W H F x y w h → w * h ≤ r) ∧ (r = 0 ∨ ∃ x y w h, ap_M W H F x y w h ∧ w * h = r)
theorem ap_L_M {r : Nat} (l : ap_L W H F r) : ap_LM W H F r := by
  obtain ⟨l1, l2⟩ := l
  refine ⟨fun x y w h m => l1 x y w h m.2.2.1, ?_⟩
  rcases l2 with l2 | ⟨x, y, w, h, a, b, g, e⟩
  · exact Or.inl l2
  · have gw : ∀ x' y', ¬ ap_G W H F x' y' (w + 1) h := by
      intro x' y' q
      have := l1 _ _ _ _ q
      rw [Nat.succ_mul] at this
      omega
    have gh : ∀ x' y', ¬ ap_G W H F x' y' w (h + 1) := by
      intro x' y' q
      have := l1 _ _ _ _ q
      rw [Nat.mul_succ] at this
      omega
    exact Or.inr ⟨x, y, w, h, ⟨a, b, g, gw _ _, gh _ _, fun x' _ => gw x' y, fun y' _ => gh x y'⟩, e⟩
theorem ap_LM_u {r r' : Nat} (a : ap_LM W H F r) (b : ap_LM W H F r') : r = r' := by
  have key : ∀ {r r' : Nat}, ap_LM W H F r → ap_LM W H F r' → r ≤ r' := by
    intro r r' a b
    rcases a.2 with e | ⟨x, y, w, h, m, e⟩
    · omega
    · have := b.1 _ _ _ _ m
      omega
  exact Nat.le_antisymm (key a b) (key b a)
/-- how many heights fit a width -/
noncomputable def ap_c (W H : Nat) (F : Nat → Nat → Prop) (w : Nat) : Nat := ap_S (fun k => ap_i (∃ x y, ap_G W H F x y w (k + 1))) 16
theorem ap_c_m {w m : Nat} (hH : H ≤ 16) (h1 : ∀ x y h, ap_G W H F x y w h → h ≤ m) (h2 : m = 0 ∨ ∃ x y, ap_G W H F x y w m) : ap_c W H F w = m := by
  have hm : m ≤ 16 := by
    rcases h2 with e | ⟨x, y, g⟩
    · omega
    · have := g.2.1
      omega
  refine ap_S_dn (p := fun k => ∃ x y, ap_G W H F x y w (k + 1)) 16 hm ?_ ?_
  · intro i hi
    rcases h2 with e | ⟨x, y, g⟩
    · omega
    · exact ⟨x, y, ap_G_s g (by omega) (by omega) (by omega) (by omega)⟩
  · intro i hi _ ⟨x, y, g⟩
    have := h1 _ _ _ g
    omega
theorem ap_fit (hW : W ≤ 16) : ap_S (fun k => ap_S (fun j => ap_i (∃ x y, ap_G W H F x y (j + 1) (k + 1))) 16) 16 = ap_S (fun j => ap_c W H F (j + 1)) W := by
  rw [ap_S_sw (fun k j => ap_i (∃ x y, ap_G W H F x y (j + 1) (k + 1))) 16 16]
  refine ap_S_x 16 hW (fun j a _ => ap_S_z 16 (fun k _ => ap_i_f ?_))
  intro ⟨x, y, g⟩
  have := g.1
  omega
end
/-- the answer of a search for the first good place -/
def ap_B (g : Nat → Nat → Prop) (r : Int32) : Prop :=
  (∃ x y, x < 16 ∧ y < 16 ∧ g x y ∧ r = nI (256 * y + x) ∧ ∀ x' y', g x' y' → y < y' ∨ (y = y' ∧ x ≤ x')) ∨ (r = -3 ∧ ∀ x y, ¬ g x y)
theorem ap_B_u {g : Nat → Nat → Prop} {r r' : Int32} (a : ap_B g r) (b : ap_B g r') : r = r' := by
  rcases a with ⟨x, y, hx, hy, gx, e, l⟩ | ⟨e, l⟩
  · rcases b with ⟨x', y', hx', hy', gx', e', l'⟩ | ⟨e', l'⟩
    · have h1 := l _ _ gx'
      have h2 := l' _ _ gx
      have h3 : x = x' := by omega
      have h4 : y = y' := by omega
      rw [e, e', h3, h4]
    · exact absurd gx (l' _ _)
  · rcases b with ⟨x', y', hx', hy', gx', e', l'⟩ | ⟨e', l'⟩
    · exact absurd gx' (l _ _)
    · rw [e, e']
theorem ap_m1 {n : Nat} (h : n < 2 ^ 31) : nI n ≠ -1 := by
  intro e
  have e1 := congrArg Int32.toInt e
  rw [nI_toInt h] at e1
  have e2 : (-1 : Int32).toInt = -1 := by decide
  omega
theorem ap_m3 {n : Nat} (h : n < 2 ^ 31) : nI n ≠ -3 := by
  intro e
  have e1 := congrArg Int32.toInt e
  rw [nI_toInt h] at e1
  have e2 : (-3 : Int32).toInt = -3 := by decide
  omega
theorem ap_m2 {n : Nat} (h : n < 2 ^ 31) : nI n ≠ -2 := by
  intro e
  have e1 := congrArg Int32.toInt e
  rw [nI_toInt h] at e1
  have e2 : (-2 : Int32).toInt = -2 := by decide
  omega
end
section
/-! the state's picture: what covers a cell, the invariant, its keeping -/
def ap_u {α : Type} (f : Nat → α) (k : Nat) (v : α) : Nat → α := fun j => if j = k then v else f j
theorem ap_us {α : Type} {f : Nat → α} {k : Nat} {v : α} : ap_u f k v k = v := if_pos rfl
theorem ap_un {α : Type} {f : Nat → α} {k j : Nat} {v : α} (h : j ≠ k) : ap_u f k v j = f j := if_neg h
def ap_cov (P : Nat → Bool) (L B w h : Nat → Nat) (i x y : Nat) : Prop :=
  P i = true ∧ L i ≤ x ∧ x < L i + w i ∧ B i ≤ y ∧ y < B i + h i
def ap_ov (P : Nat → Bool) (L B w h : Nat → Nat) (i x y a b : Nat) : Prop :=
  P i = true ∧ x < L i + w i ∧ L i < x + a ∧ y < B i + h i ∧ B i < y + b
def ap_F (C : Nat → Int32) (x y : Nat) : Prop := C (16 * y + x) = -1
def ap_I (W H : Nat) (P : Nat → Bool) (L B w h : Nat → Nat) (C : Nat → Int32) : Prop :=
  4 ≤ W ∧ W ≤ 16 ∧ 4 ≤ H ∧ H ≤ 16 ∧
  (∀ i, i < 20 → P i = true → 1 ≤ w i ∧ 1 ≤ h i ∧ L i + w i ≤ W ∧ B i + h i ≤ H) ∧
  (∀ i x y, i < 20 → ap_cov P L B w h i x y → C (16 * y + x) = nI i) ∧
  (∀ x y, x < 16 → y < 16 → (∀ i, i < 20 → ¬ ap_cov P L B w h i x y) → C (16 * y + x) = -1)
/-- C' is C with v painted over a rectangle -/
def ap_pt (C C' : Nat → Int32) (x y a b : Nat) (v : Int32) : Prop :=
  (∀ i j, x ≤ i → i < x + a → y ≤ j → j < y + b → C' (16 * j + i) = v) ∧
  (∀ i j, i < 16 → j < 16 → ¬ (x ≤ i ∧ i < x + a ∧ y ≤ j ∧ j < y + b) → C' (16 * j + i) = C (16 * j + i))
section
variable {W H : Nat} {P : Nat → Bool} {L B w h : Nat → Nat} {C : Nat → Int32}
theorem ap_nI_u {i j : Nat} (hi : i < 20) (hj : j < 20) (e : nI i = nI j) : i = j := (nI_eq (by omega) (by omega)).mp e
theorem ap_F_c (I : ap_I W H P L B w h C) {x y : Nat} (hx : x < 16) (hy : y < 16) : ap_F C x y ↔ ∀ i, i < 20 → ¬ ap_cov P L B w h i x y := by
  obtain ⟨_, _, _, _, _, I6, I7⟩ := I
  constructor
  · intro f i hi c
    have e := I6 i x y hi c
    exact ap_m1 (n := i) (by omega) (e.symm.trans f)
  · exact fun q => I7 x y hx hy q
theorem ap_cov_u (I : ap_I W H P L B w h C) {x y i j : Nat} (hi : i < 20) (hj : j < 20) (a : ap_cov P L B w h i x y) (b : ap_cov P L B w h j x y) : i = j := by
  obtain ⟨_, _, _, _, _, I6, I7⟩ := I
  exact ap_nI_u hi hj ((I6 i x y hi a).symm.trans (I6 j x y hj b))
theorem ap_G_ov (I : ap_I W H P L B w h C) {x y a b : Nat} (ha : 1 ≤ a) (hb : 1 ≤ b) : ap_G W H (ap_F C) x y a b ↔ (x + a ≤ W ∧ y + b ≤ H ∧ ∀ i, i < 20 → ¬ ap_ov P L B w h i x y a b) := by
  have I0 := I
  obtain ⟨I1, I2, I3, I4, I5, I6, I7⟩ := I
  constructor
  · intro ⟨g1, g2, g3⟩
    refine ⟨g1, g2, fun i hi o => ?_⟩
    obtain ⟨o1, o2, o3, o4, o5⟩ := o
    have s := I5 i hi o1
    have key : ∃ c r, x ≤ c ∧ c < x + a ∧ y ≤ r ∧ r < y + b ∧ L i ≤ c ∧ c < L i + w i ∧ B i ≤ r ∧ r < B i + h i := by
      rcases Nat.le_total x (L i) with p | p
      · rcases Nat.le_total y (B i) with q | q
        · exact ⟨L i, B i, by omega, by omega, by omega, by omega, by omega, by omega, by omega, by omega⟩
        · exact ⟨L i, y, by omega, by omega, by omega, by omega, by omega, by omega, by omega, by omega⟩
      · rcases Nat.le_total y (B i) with q | q
        · exact ⟨x, B i, by omega, by omega, by omega, by omega, by omega, by omega, by omega, by omega⟩
        · exact ⟨x, y, by omega, by omega, by omega, by omega, by omega, by omega, by omega, by omega⟩
    obtain ⟨c, r, k1, k2, k3, k4, k5, k6, k7, k8⟩ := key
    exact (ap_F_c I0 (by omega) (by omega)).mp (g3 c r k1 k2 k3 k4) i hi ⟨o1, k5, k6, k7, k8⟩
  · intro ⟨g1, g2, g3⟩
    refine ⟨g1, g2, fun c r h1 h2 h3 h4 => ?_⟩
    refine (ap_F_c I0 (by omega) (by omega)).mpr (fun i hi q => ?_)
    obtain ⟨q1, q2, q3, q4, q5⟩ := q
    exact g3 i hi ⟨q1, by omega, by omega, by omega, by omega⟩
theorem ap_free (I : ap_I W H P L B w h C) : ap_S (fun y => ap_S (fun x => ap_i (ap_F C x y)) W) H + ap_S (fun i => if P i = true then w i * h i else 0) 20 = W * H := by
  have I0 := I
  obtain ⟨I1, I2, I3, I4, I5, I6, I7⟩ := I
  have hcell : ∀ y, y < H → ∀ x, x < W → ap_i (ap_F C x y) + ap_S (fun i => ap_i (ap_cov P L B w h i x y)) 20 = 1 := by
    intro y hy x hx
    rw [ap_S_e (p := fun i => ap_cov P L B w h i x y) 20 (fun i j hi hj a b => ap_cov_u I0 hi hj a b)]
    have f := ap_F_c I0 (x := x) (y := y) (by omega) (by omega)
    by_cases q : ∃ i, i < 20 ∧ ap_cov P L B w h i x y
    · rw [ap_i_t q, ap_i_f (fun z => by
        obtain ⟨i, hi, c⟩ := q
        exact f.mp z i hi c)]
    · rw [ap_i_f q, ap_i_t (f.mpr (fun i hi c => q ⟨i, hi, c⟩))]
  have hrect : ∀ i, i < 20 → (if P i = true then w i * h i else 0) = ap_S (fun y => ap_S (fun x => ap_i (ap_cov P L B w h i x y)) W) H := by
    intro i hi
    by_cases p : P i = true
    · have s := I5 i hi p
      rw [if_pos p]
      have e : ∀ y, y < H → ap_S (fun x => ap_i (ap_cov P L B w h i x y)) W = w i * ap_i (B i ≤ y ∧ y < B i + h i) := by
        intro y _
        by_cases q : B i ≤ y ∧ y < B i + h i
        · rw [ap_i_t q, Nat.mul_one, ← ap_S_iv (L i) (w i) W s.2.2.1]
          refine ap_S_c W (fun x _ => ap_i_c ⟨fun c => ⟨c.2.1, c.2.2.1⟩, fun c => ⟨p, c.1, c.2, q.1, q.2⟩⟩)
        · rw [ap_i_f q, Nat.mul_zero]
          exact ap_S_z W (fun x _ => ap_i_f (fun c => q ⟨c.2.2.2.1, c.2.2.2.2⟩))
      rw [ap_S_c H e, ap_S_k, ap_S_iv (B i) (h i) H s.2.2.2]
    · rw [if_neg p]
      exact (ap_S_z H (fun y _ => ap_S_z W (fun x _ => ap_i_f (fun c => p c.1)))).symm
  have e1 : ap_S (fun i => if P i = true then w i * h i else 0) 20 = ap_S (fun y => ap_S (fun x => ap_S (fun i => ap_i (ap_cov P L B w h i x y)) 20) W) H := by
    rw [ap_S_c 20 hrect, ap_S_sw (fun i y => ap_S (fun x => ap_i (ap_cov P L B w h i x y)) W) H 20]
    exact ap_S_c H (fun y _ => ap_S_sw (fun i x => ap_i (ap_cov P L B w h i x y)) W 20)
  rw [e1, ← ap_S_a]
  have e2 : ∀ y, y < H → ap_S (fun x => ap_i (ap_F C x y)) W + ap_S (fun x => ap_S (fun i => ap_i (ap_cov P L B w h i x y)) 20) W = W := by
    intro y hy
    rw [← ap_S_a, ap_S_c W (hcell y hy), ap_S_1s, Nat.one_mul]
  rw [ap_S_c H e2, ap_S_1s]
theorem ap_put (I : ap_I W H P L B w h C) {id x y a b : Nat} {C' : Nat → Int32} (hi : id < 20) (hp : P id = false) (ha : 1 ≤ a) (hb : 1 ≤ b) (g : ap_G W H (ap_F C) x y a b) (pt : ap_pt C C' x y a b (nI id)) : ap_I W H (ap_u P id true) (ap_u L id x) (ap_u B id y) (ap_u w id a) (ap_u h id b) C' := by
  have I0 := I
  obtain ⟨I1, I2, I3, I4, I5, I6, I7⟩ := I
  obtain ⟨g1, g2, g3⟩ := g
  obtain ⟨p1, p2⟩ := pt
  have cn : ∀ i, i ≠ id → ∀ c r, ap_cov (ap_u P id true) (ap_u L id x) (ap_u B id y) (ap_u w id a) (ap_u h id b) i c r ↔ ap_cov P L B w h i c r := by
    intro i n c r
    unfold ap_cov
    rw [ap_un n, ap_un n, ap_un n, ap_un n, ap_un n]
  have cs : ∀ c r, ap_cov (ap_u P id true) (ap_u L id x) (ap_u B id y) (ap_u w id a) (ap_u h id b) id c r ↔ (x ≤ c ∧ c < x + a ∧ y ≤ r ∧ r < y + b) := by
    intro c r
    unfold ap_cov
    rw [ap_us, ap_us, ap_us, ap_us, ap_us]
    exact ⟨fun q => q.2, fun q => ⟨rfl, q⟩⟩
  refine ⟨I1, I2, I3, I4, ?_, ?_, ?_⟩
  · intro i hi' q
    by_cases n : i = id
    · subst n
      rw [ap_us, ap_us, ap_us, ap_us]
      exact ⟨ha, hb, g1, g2⟩
    · rw [ap_un n] at q
      rw [ap_un n, ap_un n, ap_un n, ap_un n]
      exact I5 i hi' q
  · intro i c r hi' q
    by_cases n : i = id
    · subst n
      have q' := (cs c r).mp q
      exact p1 c r q'.1 q'.2.1 q'.2.2.1 q'.2.2.2
    · have q' := (cn i n c r).mp q
      have s := I5 i hi' q'.1
      have q2 := q'
      obtain ⟨_, d1, d2, d3, d4⟩ := q2
      rw [p2 c r (by omega) (by omega) (fun z => ?_)]
      · exact I6 i c r hi' q'
      · exact (ap_F_c I0 (by omega) (by omega)).mp (g3 c r z.1 z.2.1 z.2.2.1 z.2.2.2) i hi' q'
  · intro c r hc hr q
    have z : ¬ (x ≤ c ∧ c < x + a ∧ y ≤ r ∧ r < y + b) := fun z => q id hi ((cs c r).mpr z)
    rw [p2 c r hc hr z]
    refine I7 c r hc hr (fun i hi' k => ?_)
    by_cases n : i = id
    · subst n
      have := k.1
      rw [hp] at this
      exact Bool.noConfusion this
    · exact q i hi' ((cn i n c r).mpr k)
theorem ap_rmv (I : ap_I W H P L B w h C) {id : Nat} {C' : Nat → Int32} (hi : id < 20) (hp : P id = true) (pt : ap_pt C C' (L id) (B id) (w id) (h id) (-1)) : ap_I W H (ap_u P id false) L B w h C' := by
  have I0 := I
  obtain ⟨I1, I2, I3, I4, I5, I6, I7⟩ := I
  obtain ⟨p1, p2⟩ := pt
  have cn : ∀ i, i ≠ id → ∀ c r, ap_cov (ap_u P id false) L B w h i c r ↔ ap_cov P L B w h i c r := by
    intro i n c r
    unfold ap_cov
    rw [ap_un n]
  have pid : ap_u P id false id = false := ap_us
  refine ⟨I1, I2, I3, I4, ?_, ?_, ?_⟩
  · intro i hi' q
    by_cases n : i = id
    · subst n
      rw [pid] at q
      exact Bool.noConfusion q
    · rw [ap_un n] at q
      exact I5 i hi' q
  · intro i c r hi' q
    by_cases n : i = id
    · subst n
      have := q.1
      rw [pid] at this
      exact Bool.noConfusion this
    · have q' := (cn i n c r).mp q
      have s := I5 i hi' q'.1
      have q2 := q'
      obtain ⟨_, d1, d2, d3, d4⟩ := q2
      rw [p2 c r (by omega) (by omega) (fun z => n (ap_cov_u I0 hi' hi q' ⟨hp, z⟩))]
      exact I6 i c r hi' q'
  · intro c r hc hr q
    by_cases z : L id ≤ c ∧ c < L id + w id ∧ B id ≤ r ∧ r < B id + h id
    · exact p1 c r z.1 z.2.1 z.2.2.1 z.2.2.2
    · rw [p2 c r hc hr z]
      refine I7 c r hc hr (fun i hi' k => ?_)
      by_cases n : i = id
      · subst n
        exact z k.2
      · exact q i hi' ((cn i n c r).mpr k)
theorem ap_new (h1 : 4 ≤ W) (h2 : W ≤ 16) (h3 : 4 ≤ H) (h4 : H ≤ 16) (hp : ∀ i, i < 20 → P i = false) (hc : ∀ k, k < 256 → C k = -1) : ap_I W H P L B w h C := by
  refine ⟨h1, h2, h3, h4, ?_, ?_, ?_⟩
  · intro i hi q
    rw [hp i hi] at q
    exact Bool.noConfusion q
  · intro i x y hi q
    have := q.1
    rw [hp i hi] at this
    exact Bool.noConfusion this
  · intro x y hx hy _
    exact hc _ (by omega)
end
end
section
/-! what each scan knows at its head, and how it goes on -/
def ap_N (g : Nat → Nat → Prop) (y x : Nat) : Prop := ∀ x' y', g x' y' → y < y' ∨ (y = y' ∧ x ≤ x')
theorem ap_N_0 {g : Nat → Nat → Prop} : ap_N g 0 0 := by
  intro x' y' _
  omega
theorem ap_N_s {g : Nat → Nat → Prop} {y x : Nat} (h : ap_N g y x) (n : ¬ g x y) : ap_N g y (x + 1) := by
  intro x' y' q
  have h1 := h x' y' q
  by_cases e : x' = x ∧ y' = y
  · rw [e.1, e.2] at q
    exact absurd q n
  · omega
theorem ap_N_r {g : Nat → Nat → Prop} {y x : Nat} (h : ap_N g y x) (n : ∀ x', g x' y → x' < x) : ap_N g (y + 1) 0 := by
  intro x' y' q
  have h1 := h x' y' q
  by_cases e : y' = y
  · have q' := q
    rw [e] at q'
    have := n x' q'
    omega
  · omega
theorem ap_N_e {g : Nat → Nat → Prop} {y x : Nat} (h : ap_N g y x) (n : ∀ x' y', g x' y' → y' < y) : ap_B g (-3) := by
  refine Or.inr ⟨rfl, fun x' y' q => ?_⟩
  have h1 := h x' y' q
  have h2 := n x' y' q
  omega
theorem ap_N_g {g : Nat → Nat → Prop} {y x : Nat} (h : ap_N g y x) (q : g x y) (hx : x < 16) (hy : y < 16) : ap_B g (nI (256 * y + x)) :=
  Or.inl ⟨x, y, hx, hy, q, rfl, h⟩
def ap_Q (F : Nat → Nat → Prop) (x a y j i : Nat) : Prop := ∀ c r, x ≤ c → c < x + a → y ≤ r → (r < j ∨ (r = j ∧ c < i)) → F c r
theorem ap_Q_0 {F : Nat → Nat → Prop} {x a y : Nat} : ap_Q F x a y y x := by
  intro c r h1 h2 h3 h4
  omega
theorem ap_Q_s {F : Nat → Nat → Prop} {x a y j i : Nat} (h : ap_Q F x a y j i) (f : F i j) : ap_Q F x a y j (i + 1) := by
  intro c r h1 h2 h3 h4
  by_cases e : c = i ∧ r = j
  · rw [e.1, e.2]; exact f
  · exact h c r h1 h2 h3 (by omega)
theorem ap_Q_r {F : Nat → Nat → Prop} {x a y j : Nat} (h : ap_Q F x a y j (x + a)) : ap_Q F x a y (j + 1) x := by
  intro c r h1 h2 h3 h4
  exact h c r h1 h2 h3 (by omega)
theorem ap_Q_e {W H : Nat} {F : Nat → Nat → Prop} {x a y b : Nat} (h : ap_Q F x a y (y + b) x) (h1 : x + a ≤ W) (h2 : y + b ≤ H) : ap_G W H F x y a b :=
  ⟨h1, h2, fun i j a1 a2 a3 a4 => h i j a1 a2 a3 (Or.inl a4)⟩
def ap_R (C D : Nat → Int32) (x a y : Nat) (v : Int32) (j i : Nat) : Prop :=
  ∀ c r, c < 16 → r < 16 → D (16 * r + c) = (if x ≤ c ∧ c < x + a ∧ y ≤ r ∧ (r < j ∨ (r = j ∧ c < i)) then v else C (16 * r + c))
theorem ap_R_0 {C : Nat → Int32} {x a y : Nat} {v : Int32} : ap_R C C x a y v y x := by
  intro c r _ _
  rw [if_neg (by omega)]
theorem ap_R_s {C D : Nat → Int32} {x a y : Nat} {v : Int32} {j i : Nat} (h : ap_R C D x a y v j i) (h1 : x ≤ i) (h2 : i < x + a) (h3 : y ≤ j) (h4 : i < 16) : ap_R C (upd D (16 * j + i) v) x a y v j (i + 1) := by
  intro c r hc hr
  by_cases e : c = i ∧ r = j
  · obtain ⟨rfl, rfl⟩ := e
    rw [pk_us, if_pos (by omega)]
  · rw [pk_un (by omega), h c r hc hr]
    by_cases q : x ≤ c ∧ c < x + a ∧ y ≤ r ∧ (r < j ∨ (r = j ∧ c < i))
    · rw [if_pos q, if_pos (by omega)]
    · rw [if_neg q, if_neg (by omega)]
theorem ap_R_r {C D : Nat → Int32} {x a y : Nat} {v : Int32} {j : Nat} (h : ap_R C D x a y v j (x + a)) : ap_R C D x a y v (j + 1) x := by
  intro c r hc hr
  rw [h c r hc hr]
  by_cases q : x ≤ c ∧ c < x + a ∧ y ≤ r ∧ (r < j ∨ (r = j ∧ c < x + a))
  · rw [if_pos q, if_pos (by omega)]
  · rw [if_neg q, if_neg (by omega)]
theorem ap_R_e {C D : Nat → Int32} {x a y b : Nat} {v : Int32} (h : ap_R C D x a y v (y + b) x) (h1 : x + a ≤ 16) (h2 : y + b ≤ 16) : ap_pt C D x y a b v := by
  refine ⟨fun i j a1 a2 a3 a4 => ?_, fun i j a1 a2 a3 => ?_⟩
  · rw [h i j (by omega) (by omega), if_pos (by omega)]
  · rw [h i j a1 a2, if_neg (by omega)]
/-- the smallest unused number -/
def ap_U (P : Nat → Bool) (i : Nat) : Prop := i < 20 ∧ P i = false ∧ ∀ j, j < i → P j = true
theorem ap_U_u {P : Nat → Bool} {i j : Nat} (a : ap_U P i) (b : ap_U P j) : i = j := by
  obtain ⟨a1, a2, a3⟩ := a
  obtain ⟨b1, b2, b3⟩ := b
  rcases Nat.lt_trichotomy i j with c | c | c
  · have := b3 i c
    rw [a2] at this
    exact Bool.noConfusion this
  · exact c
  · have := a3 j c
    rw [b2] at this
    exact Bool.noConfusion this
/-- how many are placed among the first n -/
def ap_n (P : Nat → Bool) (n : Nat) : Nat := ap_S (fun i => if P i = true then 1 else 0) n
theorem ap_n_l (P : Nat → Bool) (n : Nat) : ap_n P n ≤ n := by
  have := ap_S_l (f := fun i => if P i = true then 1 else 0) (c := 1) n (fun i _ => by
    show (if P i = true then 1 else 0) ≤ 1
    split <;> omega)
  unfold ap_n
  omega
theorem ap_n_t {P : Nat → Bool} (n : Nat) (h : ∀ i, i < n → P i = true) : ap_n P n = n := by
  unfold ap_n
  rw [ap_S_c (g := fun _ => 1) n (fun i hi => if_pos (h i hi)), ap_S_1s, Nat.one_mul]
theorem ap_n_f {P : Nat → Bool} {k : Nat} (hk : P k = false) (n : Nat) : k < n → ap_n P n < n := by
  induction n with
  | zero => intro h; omega
  | succ n ih =>
    intro h
    have e : ap_n P (n + 1) = ap_n P n + (if P n = true then 1 else 0) := rfl
    by_cases c : k = n
    · rw [c] at hk
      rw [e, if_neg (by rw [hk]; exact Bool.noConfusion)]
      have := ap_n_l P n
      omega
    · have h1 := ih (by omega)
      have h2 : (if P n = true then 1 else 0) ≤ 1 := by split <;> omega
      omega
theorem ap_n_s (P : Nat → Bool) (n : Nat) : ap_n P (n + 1) = ap_n P n + (if P n = true then 1 else 0) := rfl
/-- the greatest area among those seen -/
def ap_l (W H : Nat) (F : Nat → Nat → Prop) (Q : Nat → Nat → Nat → Nat → Prop) (r : Nat) : Prop :=
  (∀ x y w h, 1 ≤ w → 1 ≤ h → Q x y w h → ap_G W H F x y w h → w * h ≤ r) ∧
  (r = 0 ∨ ∃ x y w h, 1 ≤ w ∧ 1 ≤ h ∧ ap_G W H F x y w h ∧ w * h = r)
theorem ap_l_0 {W H : Nat} {F : Nat → Nat → Prop} {Q : Nat → Nat → Nat → Nat → Prop} (h : ∀ x y w h, Q x y w h → ¬ ap_G W H F x y w h) : ap_l W H F Q 0 :=
  ⟨fun x y w h' _ _ q g => absurd g (h x y w h' q), Or.inl rfl⟩
theorem ap_l_m {W H : Nat} {F : Nat → Nat → Prop} {Q Q' : Nat → Nat → Nat → Nat → Prop} {r : Nat} (a : ap_l W H F Q r) (h : ∀ x y w h, 1 ≤ w → 1 ≤ h → Q' x y w h → ap_G W H F x y w h → Q x y w h ∨ w * h ≤ r) : ap_l W H F Q' r := by
  refine ⟨fun x y w h' h1 h2 q g => ?_, a.2⟩
  rcases h x y w h' h1 h2 q g with c | c
  · exact a.1 x y w h' h1 h2 c g
  · exact c
theorem ap_l_j {W H : Nat} {F : Nat → Nat → Prop} {Q Q' Q'' : Nat → Nat → Nat → Nat → Prop} {r s t : Nat} (a : ap_l W H F Q r) (b : ap_l W H F Q' s) (hr : r ≤ t) (hs : s ≤ t) (ht : t = r ∨ t = s) (h : ∀ x y w h, 1 ≤ w → 1 ≤ h → Q'' x y w h → ap_G W H F x y w h → Q x y w h ∨ Q' x y w h) : ap_l W H F Q'' t := by
  refine ⟨fun x y w h' h1 h2 q g => ?_, ?_⟩
  · rcases h x y w h' h1 h2 q g with c | c
    · exact Nat.le_trans (a.1 x y w h' h1 h2 c g) hr
    · exact Nat.le_trans (b.1 x y w h' h1 h2 c g) hs
  · rcases ht with e | e
    · rw [e]; exact a.2
    · rw [e]; exact b.2
theorem ap_l_L {W H : Nat} {F : Nat → Nat → Prop} {Q : Nat → Nat → Nat → Nat → Prop} {r : Nat} (a : ap_l W H F Q r) (h : ∀ x y w h, 1 ≤ w → 1 ≤ h → ap_G W H F x y w h → Q x y w h) : ap_L W H F r := by
  refine ⟨fun x y w h' g => ?_, a.2⟩
  by_cases e : 1 ≤ w
  · by_cases e' : 1 ≤ h'
    · exact a.1 x y w h' e e' (h x y w h' e e' g) g
    · have : h' = 0 := by omega
      rw [this, Nat.mul_zero]; exact Nat.zero_le _
  · have : w = 0 := by omega
    rw [this, Nat.zero_mul]; exact Nat.zero_le _
/-- one row's widest rectangle -/
theorem ap_l_w {W H : Nat} {F : Nat → Nat → Prop} {x y h w : Nat} (hh : 1 ≤ h) (a : ap_w W H F x y h w) : ap_l W H F (fun x' y' _ h' => x' = x ∧ y' = y ∧ h' = h) (h * w) := by
  refine ⟨fun x' y' w' h' h1 h2 q g => ?_, ?_⟩
  · obtain ⟨rfl, rfl, rfl⟩ := q
    have : w' ≤ w := by
      by_cases e : w' ≤ w
      · exact e
      · exact absurd (ap_G_s (x' := x') (y' := y') (w' := w + 1) (h' := h') g (by omega) (by omega) (by omega) (by omega)) a.2
    rw [Nat.mul_comm h' w]
    exact Nat.mul_le_mul_right h' this
  · by_cases e : w = 0
    · left; rw [e, Nat.mul_zero]
    · right
      rcases a.1 with c | c
      · exact absurd c e
      · exact ⟨x, y, w, h, by omega, hh, c, Nat.mul_comm w h⟩
theorem ap_16 (j i : Nat) : (16 : Int32) * nI j + nI i = nI (16 * j + i) := by
  rw [show (16 : Int32) = nI 16 from rfl, pk_mul, nI_add]
theorem ap_256 (j i : Nat) : (256 : Int32) * nI j + nI i = nI (256 * j + i) := by
  rw [show (256 : Int32) = nI 256 from rfl, pk_mul, nI_add]
def ap_b (b : Bool) : Int32 := if b = true then 1 else 0
theorem ap_b_t {b : Bool} (h : b = true) : ap_b b = 1 := by rw [h]; rfl
theorem ap_b_f {b : Bool} (h : b = false) : ap_b b = 0 := by rw [h]; rfl
theorem ap_b_0 {b : Bool} : ap_b b = 0 ↔ b = false := by cases b <;> decide
theorem ap_nt {b : Bool} (h : ¬ b = false) : b = true := by cases b; exact absurd rfl h; rfl
theorem ap_nf {b : Bool} (h : ¬ b = true) : b = false := by cases b; rfl; exact absurd rfl h
/-- arrays of naturals and of booleans, stored into -/
theorem ap_up (f : Nat → Nat) (k v : Nat) : upd (fun i => nI (f i)) k (nI v) = fun i => nI (ap_u f k v i) := by
  funext j
  by_cases e : j = k
  · rw [e, pk_us, ap_us]
  · rw [pk_un e, ap_un e]
theorem ap_upb (f : Nat → Bool) (k : Nat) (v : Bool) : upd (fun i => ap_b (f i)) k (ap_b v) = fun i => ap_b (ap_u f k v i) := by
  funext j
  by_cases e : j = k
  · rw [e, pk_us, ap_us]
  · rw [pk_un e, ap_un e]
end
section
/-! states by naturals, branches, loops -/
abbrev ap_X (W H : Nat) (P : Nat → Bool) (L B w h : Nat → Nat) : SX :=
  (nI W, nI H, fun i => ap_b (P i), fun i => nI (L i), fun i => nI (B i), fun i => nI (w i), fun i => nI (h i))
abbrev ap_Y (W H : Nat) (P : Nat → Bool) (L B w h : Nat → Nat) (C : Nat → Int32) : SY :=
  (nI W, nI H, C, fun i => nI (L i), fun i => nI (B i), fun i => nI (w i), fun i => nI (h i), fun i => ap_b (P i))
theorem ap_if {c d A B : Prop} (e : c ↔ d) (f : d → A) (g : ¬ d → B) : (c → A) ∧ (¬ c → B) := ⟨fun x => f (e.mp x), fun x => g (fun y => x (e.mpr y))⟩
theorem ap_loop {σ : Type} (V : Nat → Nat → σ → Prop) (J : Nat → σ → Prop) (e : Nat) (hs : ∀ n i s, J i s → i ≤ e → (∀ s', J (i + 1) s' → i < e → V n (i + 1) s') → V (n + 1) i s) : ∀ n i s, i ≤ e → e - i < n → J i s → V n i s := by
  intro n
  induction n with
  | zero => intro i s _ h; exact absurd h (Nat.not_lt_zero _)
  | succ n ih =>
    intro i s hi hn hI
    exact hs n i s hI hi (fun s' h' hl => ih (i + 1) s' (by omega) (by omega) h')
theorem ap_le {a b : Nat} (ha : a < 2 ^ 31 := by omega) (hb : b < 2 ^ 31 := by omega) : nI a ≤ nI b ↔ a ≤ b := nI_leI ha hb
theorem ap_lt {a b : Nat} (ha : a < 2 ^ 31 := by omega) (hb : b < 2 ^ 31 := by omega) : nI a < nI b ↔ a < b := nI_ltI ha hb
theorem ap_lea {a b c : Nat} (ha : a + b < 2 ^ 31 := by omega) (hc : c < 2 ^ 31 := by omega) : nI a + nI b ≤ nI c ↔ a + b ≤ c := by rw [nI_add]; exact nI_leI ha hc
theorem ap_ale {a b c : Nat} (ha : a + b < 2 ^ 31 := by omega) (hc : c < 2 ^ 31 := by omega) : nI c ≤ nI a + nI b ↔ c ≤ a + b := by rw [nI_add]; exact nI_leI hc ha
theorem ap_lta {a b c : Nat} (ha : a + b < 2 ^ 31 := by omega) (hc : c < 2 ^ 31 := by omega) : nI c < nI a + nI b ↔ c < a + b := by rw [nI_add]; exact nI_ltI hc ha
theorem ap_le0 {a : Nat} (ha : a < 2 ^ 31 := by omega) : nI a ≤ 0 ↔ a = 0 := by
  rw [show (0 : Int32) = nI 0 from rfl, nI_leI ha (by omega)]
  omega
theorem ap_10 : ¬ (1 : Int32) = 0 := by decide
theorem ap_vt : vp_nar .boolean 1 = ap_b true := rfl
theorem ap_vf : vp_nar .boolean 0 = ap_b false := rfl
theorem ap_neg1 : (nI 0 - 1 : Int32) < 0 := by decide
theorem ap_p1 (y k : Nat) : nI y + nI (k + 1) - 1 = nI (y + k) := by
  rw [nI_add, ← Nat.add_assoc, nI_pred]
theorem ap_and15 {k : Nat} (h : k < 256) : nI k &&& 15 = nI (k % 16) := pk_andN (by omega) 4 (by decide)
theorem ap_shr4 {k : Nat} (h : k < 256) : nI k >>> ((4 : Int32) &&& 31) = nI (k / 16) := pk_shrN (by omega) _ 4 (by decide)
theorem ap_and255 {k : Nat} (h : k < 65536) : nI k &&& 255 = nI (k % 256) := pk_andN (by omega) 8 (by decide)
theorem ap_shr8 {k : Nat} (h : k < 65536) : nI k >>> ((8 : Int32) &&& 31) = nI (k / 256) := pk_shrN (by omega) _ 8 (by decide)
theorem ap_rem256 {k : Nat} (h : k < 65536) : nI k - nI k / 256 * 256 = nI (k % 256) := pk_rem (by omega) (by decide) (by decide)
theorem ap_div256 {k : Nat} (h : k < 65536) : nI k / 256 = nI (k / 256) := pk_div (by omega) (by decide) (by decide)
theorem ap_ssub (a : Int32) (b c d : Nat) : a - nI b - nI c * nI d = a - nI (b + c * d) := by
  rw [pk_mul, ← nI_add]
  grind
/-- growth of a rectangle by one -/
def ap_gr (W H : Nat) (F : Nat → Nat → Prop) (x y a b : Nat) : Prop :=
  (∃ x', x = x' + 1 ∧ ap_G W H F x' y (a + 1) b) ∨ ap_G W H F x y a (b + 1) ∨ (∃ y', y = y' + 1 ∧ ap_G W H F x y' a (b + 1))
theorem ap_gr_M {W H : Nat} {F : Nat → Nat → Prop} {x y b v : Nat} (a : ap_w W H F x y b v) (hv : 1 ≤ v) (hb : 1 ≤ b) : (∃ v', ap_M W H F x y v' b) ↔ ¬ ap_gr W H F x y v b := by
  constructor
  · intro ⟨v', m⟩ g
    have e := ap_w_u (ap_M_w m) a
    subst e
    obtain ⟨_, _, _, _, m5, m6, m7⟩ := m
    rcases g with ⟨x', e, g⟩ | g | ⟨y', e, g⟩
    · exact m6 x' e g
    · exact m5 g
    · exact m7 y' e g
  · intro g
    rcases a.1 with c | c
    · omega
    · exact ⟨v, hv, hb, c, a.2, fun q => g (Or.inr (Or.inl q)), fun x' e q => g (Or.inl ⟨x', e, q⟩), fun y' e q => g (Or.inr (Or.inr ⟨y', e, q⟩))⟩
def ap_cl (W H : Nat) (F : Nat → Nat → Prop) (x y a b : Nat) : Prop :=
  ¬ (∃ x', x = x' + 1 ∧ ap_G W H F x' y 1 b) ∧ ¬ ap_G W H F (x + a) y 1 b ∧ ¬ (∃ y', y = y' + 1 ∧ ap_G W H F x y' a 1)
theorem ap_cl_M {W H : Nat} {F : Nat → Nat → Prop} {x y a v : Nat} (t : ap_t W H F x y a v) (ha : 1 ≤ a) (hv : 1 ≤ v) : ap_M W H F x y a v ↔ ap_cl W H F x y a v := by
  have g : ap_G W H F x y a v := by
    rcases t.1 with c | c
    · omega
    · exact c
  constructor
  · intro ⟨_, _, _, m4, m5, m6, m7⟩
    refine ⟨fun ⟨x', e, q⟩ => m6 x' e ?_, fun q => m4 (ap_G_r g q), fun ⟨y', e, q⟩ => m7 y' e ?_⟩
    · subst e
      rw [Nat.add_comm a 1]
      exact ap_G_r q g
    · subst e
      rw [Nat.add_comm v 1]
      exact ap_G_u q g
  · intro ⟨c1, c2, c3⟩
    refine ⟨ha, hv, g, fun q => c2 (ap_G_s q (by omega) (by omega) (by omega) (by omega)), t.2, fun x' e q => c1 ⟨x', e, ap_G_s q (by omega) (by omega) (by omega) (by omega)⟩, fun y' e q => c3 ⟨y', e, ap_G_s q (by omega) (by omega) (by omega) (by omega)⟩⟩
end
section
/-! the component's walks: meetings, good places, the best, the widest -/
section
variable {W H : Nat} {P : Nat → Bool} {L B w h : Nat → Nat} {C : Nat → Int32}
theorem ap_xm (I : ap_I W H P L B w h C) (post : Int32 → Prop) (x y a b : Nat) (hx : x < 100) (hy : y < 100) (ha : a < 100) (hb : b < 100)
    (p1 : ∀ i, i < 20 → ap_ov P L B w h i x y a b → post (nI i)) (p2 : (∀ i, i < 20 → ¬ ap_ov P L B w h i x y a b) → post (-3)) :
    wpX_firstMeeting post (ap_X W H P L B w h) (nI x) (nI y) (nI a) (nI b) := by
  obtain ⟨I1, I2, I3, I4, I5, I6, I7⟩ := I
  refine Exists.intro 21 (ap_loop (σ := Unit) (fun n i _ => wX_firstMeeting_3 post (nI x) (nI y) (nI a) (nI b) (nI W) (nI H) (fun i => ap_b (P i)) (fun i => nI (L i)) (fun i => nI (B i)) (fun i => nI (w i)) (fun i => nI (h i)) n (nI i)) (fun i _ => ∀ j, j < i → ¬ ap_ov P L B w h j x y a b) 20 ?_ 21 0 () (by omega) (by omega) lt_0)
  intro n i _ hI hi nx
  refine ap_if (ap_le (a := 20)) (fun c => p2 (fun j hj => hI j (by omega))) (fun c => ?_)
  have hi' : i < 20 := by omega
  have go : ¬ ap_ov P L B w h i x y a b → ∀ z : Int32, z = nI i + 1 → wX_firstMeeting_3 post (nI x) (nI y) (nI a) (nI b) (nI W) (nI H) (fun i => ap_b (P i)) (fun i => nI (L i)) (fun i => nI (B i)) (fun i => nI (w i)) (fun i => nI (h i)) n z := by
    intro q z ez
    rw [ez, nI_1]
    exact nx () (lt_s hI q) hi'
  have vi : vp_in (nI i) 20 := vp_in_nI hi' (by omega)
  have cl : (nI i).toNatClampNeg = i := nI_clamp (by omega)
  rw [cl]
  refine ⟨vi, br_c (fun e => go (fun o => ?_)) (fun e => ?_)⟩
  · have o1 := o.1
    rw [ap_b_0.mp e] at o1
    exact Bool.noConfusion o1
  · have pi : P i = true := ap_nt (fun z => e (ap_b_f z))
    have s := I5 i hi' pi
    refine ⟨vi, vi, ap_if ap_lea (fun c1 => go (fun o => by have := o.2.1; omega)) (fun c1 => ⟨vi, ap_if ap_lea (fun c2 => go (fun o => by have := o.2.2.1; omega)) (fun c2 => ⟨vi, vi, ap_if ap_lea (fun c3 => go (fun o => by have := o.2.2.2.1; omega)) (fun c3 => ⟨vi, ap_if ap_lea (fun c4 => go (fun o => by have := o.2.2.2.2; omega)) (fun c4 => ?_)⟩)⟩)⟩)⟩
    exact p1 i hi' ⟨pi, by omega, by omega, by omega, by omega⟩
theorem ap_xg (I : ap_I W H P L B w h C) (post : Int32 → Prop) (x y a b : Nat) (hx : x < 100) (hy : y < 100) (ha : a < 100) (hb : b < 100) (ha1 : 1 ≤ a) (hb1 : 1 ≤ b)
    (p1 : ap_G W H (ap_F C) x y a b → post 1) (p0 : ¬ ap_G W H (ap_F C) x y a b → post 0) :
    wpX_isGood post (ap_X W H P L B w h) (nI x) (nI y) (nI a) (nI b) := by
  have g := ap_G_ov I (x := x) (y := y) ha1 hb1
  have I2 := I.2.1
  have I4 := I.2.2.2.1
  refine br_f (nI_pos (by omega)) (br_f (nI_pos (by omega)) (ap_if ap_lta (fun c => p0 (fun q => by have := q.1; omega)) (fun c1 => ap_if ap_lea (fun c2 => ?_) (fun c2 => p0 (fun q => by have := q.2.1; omega)))))
  exact ap_xm I _ x y a b hx hy ha hb (fun i hi o => br_f (ap_m3 (by omega)) (p0 (fun q => (g.mp q).2.2 i hi o))) (fun q => br_t rfl (p1 (g.mpr ⟨by omega, c2, q⟩)))
theorem ap_xgl (I : ap_I W H P L B w h C) (post : Int32 → Prop) (x y a b : Nat) (hx : x < 100) (hy : y < 100) (ha : a < 100) (hb : b < 100) (ha1 : 1 ≤ a) (hb1 : 1 ≤ b)
    (p1 : (∃ x', x = x' + 1 ∧ ap_G W H (ap_F C) x' y a b) → post 1) (p0 : ¬ (∃ x', x = x' + 1 ∧ ap_G W H (ap_F C) x' y a b) → post 0) :
    wpX_isGood post (ap_X W H P L B w h) (nI x - 1) (nI y) (nI a) (nI b) := by
  cases x with
  | zero => exact br_t ap_neg1 (p0 (fun ⟨x', e, _⟩ => by omega))
  | succ x' =>
    rw [nI_pred]
    exact ap_xg I post x' y a b (by omega) hy ha hb ha1 hb1 (fun q => p1 ⟨x', rfl, q⟩) (fun q => p0 (fun ⟨x2, e, k⟩ => q (by
      have e2 : x' = x2 := by omega
      rw [e2]; exact k)))
theorem ap_xgd (I : ap_I W H P L B w h C) (post : Int32 → Prop) (x y a b : Nat) (hx : x < 100) (hy : y < 100) (ha : a < 100) (hb : b < 100) (ha1 : 1 ≤ a) (hb1 : 1 ≤ b)
    (p1 : (∃ y', y = y' + 1 ∧ ap_G W H (ap_F C) x y' a b) → post 1) (p0 : ¬ (∃ y', y = y' + 1 ∧ ap_G W H (ap_F C) x y' a b) → post 0) :
    wpX_isGood post (ap_X W H P L B w h) (nI x) (nI y - 1) (nI a) (nI b) := by
  cases y with
  | zero => exact br_f (nI_pos (by omega)) (br_t ap_neg1 (p0 (fun ⟨x', e, _⟩ => by omega)))
  | succ y' =>
    rw [nI_pred]
    exact ap_xg I post x y' a b hx (by omega) ha hb ha1 hb1 (fun q => p1 ⟨y', rfl, q⟩) (fun q => p0 (fun ⟨x2, e, k⟩ => q (by
      have e2 : y' = x2 := by omega
      rw [e2]; exact k)))
theorem ap_xb (I : ap_I W H P L B w h C) (post : Int32 → Prop) (a b : Nat) (ha1 : 1 ≤ a) (hb1 : 1 ≤ b) (ha : a < 100) (hb : b < 100)
    (p : ∀ r, ap_B (fun x y => ap_G W H (ap_F C) x y a b) r → post r) : wpX_findBest post (ap_X W H P L B w h) (nI a) (nI b) := by
  have I2 := I.2.1
  have I4 := I.2.2.2.1
  have inner : ∀ (J : Int32 → Prop) (y : Nat), y + b ≤ H → (ap_N (fun x y => ap_G W H (ap_F C) x y a b) (y + 1) 0 → J (nI (y + 1))) → ap_N (fun x y => ap_G W H (ap_F C) x y a b) y 0 →
      ∃ n, wX_findBest_15 post J (nI a) (nI b) (nI y) (nI W) (nI H) (fun i => ap_b (P i)) (fun i => nI (L i)) (fun i => nI (B i)) (fun i => nI (w i)) (fun i => nI (h i)) n 0 := by
    intro J y hy hJ hN
    refine ⟨17, ap_loop (σ := Unit) (fun n x _ => wX_findBest_15 post J (nI a) (nI b) (nI y) (nI W) (nI H) (fun i => ap_b (P i)) (fun i => nI (L i)) (fun i => nI (B i)) (fun i => nI (w i)) (fun i => nI (h i)) n (nI x)) (fun x _ => ap_N (fun x y => ap_G W H (ap_F C) x y a b) y x) 16 ?_ 17 0 () (by omega) (by omega) hN⟩
    intro n x _ hI hx nx
    refine ap_if ap_lta (fun c => nm_r (nI_1 y) (hJ (ap_N_r hI (fun x' q => by have := q.1; omega)))) (fun c => ?_)
    refine ap_xg I _ x y a b (by omega) (by omega) ha hb ha1 hb1 (fun q => br_f ap_10 ?_) (fun q => br_t rfl (nm_r (nI_1 x) (nx () (ap_N_s hI q) (by omega))))
    rw [ap_256]
    exact p _ (ap_N_g hI q (by omega) (by omega))
  refine Exists.intro 18 (ap_loop (σ := Unit) (fun n y _ => wX_findBest_2 post (nI a) (nI b) (nI W) (nI H) (fun i => ap_b (P i)) (fun i => nI (L i)) (fun i => nI (B i)) (fun i => nI (w i)) (fun i => nI (h i)) n (nI y)) (fun y _ => ap_N (fun x y => ap_G W H (ap_F C) x y a b) y 0) 16 ?_ 18 0 () (by omega) (by omega) ap_N_0)
  intro n y _ hI hy ny
  exact ap_if ap_lta (fun c => p _ (ap_N_e hI (fun x' y' q => by have := q.2.1; omega))) (fun c => inner _ y (by omega) (fun hN => ny () hN (by omega)) hI)
theorem ap_xw (I : ap_I W H P L B w h C) (post : Int32 → Prop) (x y k : Nat) (hx : x < 50) (hy : y < 50) (hk : k < 50) (hk1 : 1 ≤ k)
    (p : ∀ v, v ≤ 16 → ap_w W H (ap_F C) x y k v → post (nI v)) : wpX_widestFrom post (ap_X W H P L B w h) (nI x) (nI y) (nI k) := by
  have I2 := I.2.1
  have I4 := I.2.2.2.1
  refine Exists.intro 17 (ap_loop (σ := Unit) (fun n v _ => wX_widestFrom_6 post (nI x) (nI y) (nI k) (nI W) (nI H) (fun i => ap_b (P i)) (fun i => nI (L i)) (fun i => nI (B i)) (fun i => nI (w i)) (fun i => nI (h i)) n (nI v) (nI (v + 1))) (fun v _ => v = 0 ∨ ap_G W H (ap_F C) x y v k) 16 ?_ 17 0 () (by omega) (by omega) (Or.inl rfl))
  intro n v _ hI hv nx
  refine ap_if ap_lta (fun c => p v hv ⟨hI, fun q => by have := q.1; omega⟩) (fun c => ?_)
  exact ap_xg I _ x y (v + 1) k (by omega) (by omega) (by omega) (by omega) (by omega) hk1 (fun q => br_f ap_10 (nm_r (nI_1 (v + 1)) (nx () (Or.inr q) (by omega)))) (fun q => br_t rfl (p v hv ⟨hI, q⟩))
theorem ap_xgr (I : ap_I W H P L B w h C) (post : Int32 → Prop) (x y a b : Nat) (hx : x < 50) (hy : y < 50) (ha : a < 50) (hb : b < 50) (ha1 : 1 ≤ a) (hb1 : 1 ≤ b)
    (p1 : ap_gr W H (ap_F C) x y a b → post 1) (p0 : ¬ ap_gr W H (ap_F C) x y a b → post 0) :
    wpX_growsLeftOrUpOrDown post (ap_X W H P L B w h) (nI x) (nI y) (nI a) (nI b) := by
  unfold wpX_growsLeftOrUpOrDown
  dsimp only
  rw [nI_1 a, nI_1 b]
  refine ap_xgl I _ x y (a + 1) b (by omega) (by omega) (by omega) (by omega) (by omega) hb1 (fun q => br_f ap_10 (p1 (Or.inl q))) (fun q1 => br_t rfl ?_)
  refine ap_xg I _ x y a (b + 1) (by omega) (by omega) (by omega) (by omega) ha1 (by omega) (fun q => br_f ap_10 (p1 (Or.inr (Or.inl q)))) (fun q2 => br_t rfl ?_)
  refine ap_xgd I _ x y a (b + 1) (by omega) (by omega) (by omega) (by omega) ha1 (by omega) (fun q => br_f ap_10 (p1 (Or.inr (Or.inr q)))) (fun q3 => br_t rfl ?_)
  refine p0 (fun g => ?_)
  rcases g with g | g | g
  · exact q1 g
  · exact q2 g
  · exact q3 g
end
end
section
/-! the component's walks: counts, sums, the greatest -/
section
variable {W H : Nat} {P : Nat → Bool} {L B w h : Nat → Nat} {C : Nat → Int32}
/-- how many holes begin at a place, by height -/
noncomputable def ap_hc (W H : Nat) (F : Nat → Nat → Prop) (x y k : Nat) : Nat := ap_i (∃ v, ap_M W H F x y v (k + 1))
theorem ap_xch (I : ap_I W H P L B w h C) (post : Int32 → Prop) (x y : Nat) (hx : x < 50) (hy : y < H)
    (p : post (nI (ap_S (fun k => ap_i (∃ v, ap_M W H (ap_F C) x y v (k + 1))) (H - y)))) : wpX_countHolesFrom post (ap_X W H P L B w h) (nI x) (nI y) := by
  have I2 := I.2.1
  have I4 := I.2.2.2.1
  refine Exists.intro 17 (ap_loop (σ := Unit) (fun n k _ => wX_countHolesFrom_5 post (nI x) (nI y) (nI W) (nI H) (fun i => ap_b (P i)) (fun i => nI (L i)) (fun i => nI (B i)) (fun i => nI (w i)) (fun i => nI (h i)) n (nI (ap_S (fun k => ap_i (∃ v, ap_M W H (ap_F C) x y v (k + 1))) k)) (nI (k + 1))) (fun k _ => k ≤ H - y) 16 ?_ 17 0 () (by omega) (by omega) (Nat.zero_le _))
  intro n k _ hI hk nx
  refine ap_if ap_lta (fun c => ?_) (fun c => ?_)
  · have e : k = H - y := by omega
    rw [e]
    exact p
  · have go : ∀ (s : Nat), ap_i (∃ v, ap_M W H (ap_F C) x y v (k + 1)) = s → ∀ z : Int32, z = nI (k + 1) + 1 → wX_countHolesFrom_5 post (nI x) (nI y) (nI W) (nI H) (fun i => ap_b (P i)) (fun i => nI (L i)) (fun i => nI (B i)) (fun i => nI (w i)) (fun i => nI (h i)) n (nI (ap_S (fun k => ap_i (∃ v, ap_M W H (ap_F C) x y v (k + 1))) k + s)) z := by
      intro s e z ez
      rw [ez, nI_1, ← e]
      exact nx () (by omega) (by omega)
    refine ap_xw I _ x y (k + 1) (by omega) (by omega) (by omega) (by omega) (fun v hv hw => ?_)
    refine ap_if ap_le0 (fun c0 => go 0 (ap_i_f ?_)) (fun c0 => ?_)
    · intro ⟨v', m⟩
      have e := ap_w_u (ap_M_w m) hw
      have := m.1
      omega
    · have gm := ap_gr_M hw (by omega) (by omega)
      refine ap_xgr I _ x y v (k + 1) (by omega) (by omega) (by omega) (by omega) (by omega) (by omega) (fun g => br_f ap_10 (go 0 (ap_i_f (fun m => gm.mp m g)))) (fun g => br_t rfl (nm_r (nI_1 _) (go 1 (ap_i_t (gm.mpr g)))))
theorem ap_xholes (I : ap_I W H P L B w h C) (post : Int32 → Prop)
    (p : post (nI (ap_S (fun y => ap_S (fun x => ap_S (fun k => ap_i (∃ v, ap_M W H (ap_F C) x y v (k + 1))) (H - y)) W) H))) : wpX_holes post (ap_X W H P L B w h) := by
  have I2 := I.2.1
  have I4 := I.2.2.2.1
  have inner : ∀ (J : Int32 → Int32 → Prop) (y s : Nat), y < H → J (nI (s + ap_S (fun x => ap_S (fun k => ap_i (∃ v, ap_M W H (ap_F C) x y v (k + 1))) (H - y)) W)) (nI (y + 1)) →
      ∃ n, wX_holes_14 post J (nI y) (nI W) (nI H) (fun i => ap_b (P i)) (fun i => nI (L i)) (fun i => nI (B i)) (fun i => nI (w i)) (fun i => nI (h i)) n (nI s) 0 := by
    intro J y s hy hJ
    refine ⟨W + 1, ap_loop (σ := Unit) (fun n x _ => wX_holes_14 post J (nI y) (nI W) (nI H) (fun i => ap_b (P i)) (fun i => nI (L i)) (fun i => nI (B i)) (fun i => nI (w i)) (fun i => nI (h i)) n (nI (s + ap_S (fun x => ap_S (fun k => ap_i (∃ v, ap_M W H (ap_F C) x y v (k + 1))) (H - y)) x)) (nI x)) (fun _ _ => True) W ?_ (W + 1) 0 () (by omega) (by omega) trivial⟩
    intro n x _ _ hx nx
    refine ap_if ap_le (fun c => nm_r (nI_1 y) ?_) (fun c => ?_)
    · have e : x = W := by omega
      rw [e]
      exact hJ
    · refine ap_xch I _ x y (by omega) hy (nm_r (nI_add _ _) (nm_r (nI_1 x) ?_))
      rw [Nat.add_assoc s]
      exact nx () trivial (by omega)
  refine Exists.intro (H + 1) (ap_loop (σ := Unit) (fun n y _ => wX_holes_4 post (nI W) (nI H) (fun i => ap_b (P i)) (fun i => nI (L i)) (fun i => nI (B i)) (fun i => nI (w i)) (fun i => nI (h i)) n (nI (ap_S (fun y => ap_S (fun x => ap_S (fun k => ap_i (∃ v, ap_M W H (ap_F C) x y v (k + 1))) (H - y)) W) y)) (nI y)) (fun _ _ => True) H ?_ (H + 1) 0 () (by omega) (by omega) trivial)
  intro n y _ _ hy ny
  refine ap_if ap_le (fun c => ?_) (fun c => ?_)
  · have e : y = H := by omega
    rw [e]
    exact p
  · exact inner _ y _ (by omega) (ny () trivial (by omega))
theorem ap_xla (I : ap_I W H P L B w h C) (post : Int32 → Prop) (x y : Nat) (hx : x < 50) (hy : y < H)
    (p : ∀ r, r ≤ 256 → ap_l W H (ap_F C) (fun x' y' _ _ => x' = x ∧ y' = y) r → post (nI r)) : wpX_largestFreeAreaFrom post (ap_X W H P L B w h) (nI x) (nI y) := by
  have I2 := I.2.1
  have I4 := I.2.2.2.1
  refine Exists.intro 17 (ap_loop (σ := Nat) (fun n k r => wX_largestFreeAreaFrom_5 post (nI x) (nI y) (nI W) (nI H) (fun i => ap_b (P i)) (fun i => nI (L i)) (fun i => nI (B i)) (fun i => nI (w i)) (fun i => nI (h i)) n (nI r) (nI (k + 1))) (fun k r => r ≤ 256 ∧ ap_l W H (ap_F C) (fun x' y' _ h' => x' = x ∧ y' = y ∧ h' ≤ k) r) 16 ?_ 17 0 0 (by omega) (by omega) ⟨by omega, ?_⟩)
  · intro n k r hI hk nx
    obtain ⟨hr, hl⟩ := hI
    refine ap_if ap_lta (fun c => p r hr (ap_l_m hl (fun x' y' w' h' _ _ q g => Or.inl ⟨q.1, q.2, ?_⟩))) (fun c => ?_)
    · have := g.2.1
      have := q.2
      omega
    · refine ap_xw I _ x y (k + 1) (by omega) (by omega) (by omega) (by omega) (fun v hv hw => nm_r (pk_mul _ _) ?_)
      have h16 : k + 1 ≤ 16 := by omega
      have hm : (k + 1) * v ≤ 256 := Nat.le_trans (Nat.mul_le_mul h16 hv) (by omega)
      have hlw := ap_l_w (h := k + 1) (by omega) hw
      refine ap_if ap_le (fun c1 => nm_r (nI_1 (k + 1)) ?_) (fun c1 => nm_r (nI_1 (k + 1)) ?_)
      · refine nx r ⟨hr, ap_l_j hl hlw (by omega) c1 (Or.inl rfl) ?_⟩ (by omega)
        intro x' y' w' h' _ _ q _
        obtain ⟨q1, q2, q3⟩ := q
        by_cases e : h' = k + 1
        · exact Or.inr ⟨q1, q2, e⟩
        · exact Or.inl ⟨q1, q2, by omega⟩
      · refine nx ((k + 1) * v) ⟨hm, ap_l_j hl hlw (by omega) (by omega) (Or.inr rfl) ?_⟩ (by omega)
        intro x' y' w' h' _ _ q _
        obtain ⟨q1, q2, q3⟩ := q
        by_cases e : h' = k + 1
        · exact Or.inr ⟨q1, q2, e⟩
        · exact Or.inl ⟨q1, q2, by omega⟩
  · refine ⟨fun x' y' w' h' _ h2 q _ => ?_, Or.inl rfl⟩
    have := q.2.2
    omega
theorem ap_xlh (I : ap_I W H P L B w h C) (post : Int32 → Prop) (p : ∀ r, r ≤ 256 → ap_L W H (ap_F C) r → post (nI r)) : wpX_largestHole post (ap_X W H P L B w h) := by
  have I2 := I.2.1
  have I4 := I.2.2.2.1
  have inner : ∀ (J : Int32 → Int32 → Prop) (y s : Nat), y < H → s ≤ 256 → ap_l W H (ap_F C) (fun _ y' _ _ => y' < y) s → (∀ t, t ≤ 256 → ap_l W H (ap_F C) (fun _ y' _ _ => y' < y + 1) t → J (nI t) (nI (y + 1))) →
      ∃ n, wX_largestHole_14 post J (nI y) (nI W) (nI H) (fun i => ap_b (P i)) (fun i => nI (L i)) (fun i => nI (B i)) (fun i => nI (w i)) (fun i => nI (h i)) n (nI s) 0 := by
    intro J y s hy hs hl0 hJ
    refine ⟨W + 1, ap_loop (σ := Nat) (fun n x r => wX_largestHole_14 post J (nI y) (nI W) (nI H) (fun i => ap_b (P i)) (fun i => nI (L i)) (fun i => nI (B i)) (fun i => nI (w i)) (fun i => nI (h i)) n (nI r) (nI x)) (fun x r => r ≤ 256 ∧ ap_l W H (ap_F C) (fun x' y' _ _ => y' < y ∨ (y' = y ∧ x' < x)) r) W ?_ (W + 1) 0 s (by omega) (by omega) ⟨hs, ?_⟩⟩
    · intro n x r hI hx nx
      obtain ⟨hr, hl⟩ := hI
      refine ap_if ap_le (fun c => nm_r (nI_1 y) (hJ r hr (ap_l_m hl ?_))) (fun c => ?_)
      · intro x' y' w' h' h1 _ q g
        have := g.1
        left
        show y' < y ∨ (y' = y ∧ x' < x)
        have q' : y' < y + 1 := q
        omega
      · refine ap_xla I _ x y (by omega) hy (fun t ht hlt => ?_)
        have jn : ∀ x' y' w' h' : Nat, 1 ≤ w' → 1 ≤ h' → (y' < y ∨ (y' = y ∧ x' < x + 1)) → ap_G W H (ap_F C) x' y' w' h' → (y' < y ∨ (y' = y ∧ x' < x)) ∨ (x' = x ∧ y' = y) := by
          intro x' y' w' h' _ _ q _
          omega
        refine ap_if ap_le (fun c1 => nm_r (nI_1 x) (nx r ⟨hr, ap_l_j hl hlt (by omega) c1 (Or.inl rfl) jn⟩ (by omega))) (fun c1 => nm_r (nI_1 x) (nx t ⟨ht, ap_l_j hl hlt (by omega) (by omega) (Or.inr rfl) jn⟩ (by omega)))
    · refine ap_l_m hl0 (fun x' y' w' h' _ _ q _ => Or.inl ?_)
      show y' < y
      have q' : y' < y ∨ (y' = y ∧ x' < 0) := q
      omega
  refine Exists.intro (H + 1) (ap_loop (σ := Nat) (fun n y r => wX_largestHole_4 post (nI W) (nI H) (fun i => ap_b (P i)) (fun i => nI (L i)) (fun i => nI (B i)) (fun i => nI (w i)) (fun i => nI (h i)) n (nI r) (nI y)) (fun y r => r ≤ 256 ∧ ap_l W H (ap_F C) (fun _ y' _ _ => y' < y) r) H ?_ (H + 1) 0 0 (by omega) (by omega) ⟨by omega, ?_⟩)
  · intro n y r hI hy ny
    obtain ⟨hr, hl⟩ := hI
    refine ap_if ap_le (fun c => p r hr (ap_l_L hl ?_)) (fun c => ?_)
    · intro x' y' w' h' _ h1 g
      have := g.2.1
      show y' < y
      omega
    · exact inner _ y r (by omega) hr hl (fun t ht hlt => ny t ⟨ht, hlt⟩ (by omega))
  · refine ⟨fun x' y' w' h' _ _ q _ => absurd q (Nat.not_lt_zero _), Or.inl rfl⟩
theorem ap_xn (post : Int32 → Prop) (p : post (nI (ap_n P 20))) : wpX_countPlaced post (ap_X W H P L B w h) := by
  refine Exists.intro 21 (ap_loop (σ := Unit) (fun n i _ => wX_countPlaced_4 post (nI W) (nI H) (fun i => ap_b (P i)) (fun i => nI (L i)) (fun i => nI (B i)) (fun i => nI (w i)) (fun i => nI (h i)) n (nI (ap_n P i)) (nI i)) (fun _ _ => True) 20 ?_ 21 0 () (by omega) (by omega) trivial)
  intro n i _ _ hi nx
  refine ap_if (ap_le (a := 20)) (fun c => ?_) (fun c => ?_)
  · have e : i = 20 := by omega
    rw [e]
    exact p
  · have cl : (nI i).toNatClampNeg = i := nI_clamp (by omega)
    have s := nx () trivial (by omega)
    rw [ap_n_s] at s
    rw [cl]
    refine ⟨vp_in_nI (by omega) (by omega), br_c (fun e => nm_r (nI_1 i) ?_) (fun e => nm_r (nI_1 _) (nm_r (nI_1 i) ?_))⟩
    · have e' : P i = false := ap_b_0.mp e
      rw [if_neg (by rw [e']; exact Bool.noConfusion)] at s
      exact s
    · have e' : P i = true := ap_nt (fun z => e (ap_b_f z))
      rw [if_pos e'] at s
      exact s
theorem ap_xf (I : ap_I W H P L B w h C) (post : Int32 → Prop) (p : post (nI (ap_S (fun y => ap_S (fun x => ap_i (ap_F C x y)) W) H))) : wpX_freeCells post (ap_X W H P L B w h) := by
  have fr := ap_free I
  refine nm_r (pk_mul W H) (Exists.intro 21 ?_)
  have st : nI (W * H) = nI (W * H) - nI (ap_S (fun i => if P i = true then w i * h i else 0) 0) := by
    show nI (W * H) = nI (W * H) - nI 0
    rw [nI_0]
    exact (Int32.sub_zero _).symm
  rw [st]
  refine ap_loop (σ := Unit) (fun n i _ => wX_freeCells_12 post (nI W) (nI H) (fun i => ap_b (P i)) (fun i => nI (L i)) (fun i => nI (B i)) (fun i => nI (w i)) (fun i => nI (h i)) n (nI (W * H) - nI (ap_S (fun i => if P i = true then w i * h i else 0) i)) (nI i)) (fun _ _ => True) 20 ?_ 21 0 () (by omega) (by omega) trivial
  intro n i _ _ hi nx
  refine ap_if (ap_le (a := 20)) (fun c => ?_) (fun c => ?_)
  · have e : i = 20 := by omega
    rw [e, pk_sub (by omega)]
    have e2 : W * H - ap_S (fun i => if P i = true then w i * h i else 0) 20 = ap_S (fun y => ap_S (fun x => ap_i (ap_F C x y)) W) H := by omega
    rw [e2]
    exact p
  · have cl : (nI i).toNatClampNeg = i := nI_clamp (by omega)
    have vi : vp_in (nI i) 20 := vp_in_nI (by omega) (by omega)
    have s := nx () trivial (by omega)
    rw [ap_S_s] at s
    rw [cl]
    refine ⟨vi, br_c (fun e => nm_r (nI_1 i) ?_) (fun e => ⟨vi, vi, nm_r (ap_ssub _ _ _ _) (nm_r (nI_1 i) ?_)⟩)⟩
    · have e' : P i = false := ap_b_0.mp e
      rw [if_neg (by rw [e']; exact Bool.noConfusion)] at s
      exact s
    · have e' : P i = true := ap_nt (fun z => e (ap_b_f z))
      rw [if_pos e'] at s
      exact s
theorem ap_xfit (I : ap_I W H P L B w h C) (post : Int32 → Prop) (p : post (nI (ap_S (fun k => ap_S (fun j => ap_i (∃ x y, ap_G W H (ap_F C) x y (j + 1) (k + 1))) 16) 16))) : wpX_fitting post (ap_X W H P L B w h) := by
  have inner : ∀ (J : Int32 → Int32 → Prop) (k s : Nat), k < 16 → J (nI (s + ap_S (fun j => ap_i (∃ x y, ap_G W H (ap_F C) x y (j + 1) (k + 1))) 16)) (nI (k + 1 + 1)) →
      ∃ n, wX_fitting_12 post J (nI (k + 1)) (nI W) (nI H) (fun i => ap_b (P i)) (fun i => nI (L i)) (fun i => nI (B i)) (fun i => nI (w i)) (fun i => nI (h i)) n (nI s) 1 := by
    intro J k s hk hJ
    refine ⟨17, ap_loop (σ := Unit) (fun n j _ => wX_fitting_12 post J (nI (k + 1)) (nI W) (nI H) (fun i => ap_b (P i)) (fun i => nI (L i)) (fun i => nI (B i)) (fun i => nI (w i)) (fun i => nI (h i)) n (nI (s + ap_S (fun j => ap_i (∃ x y, ap_G W H (ap_F C) x y (j + 1) (k + 1))) j)) (nI (j + 1))) (fun _ _ => True) 16 ?_ 17 0 () (by omega) (by omega) trivial⟩
    intro n j _ _ hj nx
    refine ap_if (ap_lt (a := 16)) (fun c => nm_r (nI_1 (k + 1)) ?_) (fun c => ?_)
    · have e : j = 16 := by omega
      rw [e]
      exact hJ
    · have go : ∀ (t : Nat), ap_i (∃ x y, ap_G W H (ap_F C) x y (j + 1) (k + 1)) = t → ∀ z : Int32, z = nI (j + 1) + 1 → wX_fitting_12 post J (nI (k + 1)) (nI W) (nI H) (fun i => ap_b (P i)) (fun i => nI (L i)) (fun i => nI (B i)) (fun i => nI (w i)) (fun i => nI (h i)) n (nI (s + ap_S (fun j => ap_i (∃ x y, ap_G W H (ap_F C) x y (j + 1) (k + 1))) j + t)) z := by
        intro t e z ez
        rw [ez, nI_1, ← e]
        rw [Nat.add_assoc s]
        exact nx () trivial (by omega)
      refine ap_xb I _ (j + 1) (k + 1) (by omega) (by omega) (by omega) (by omega) (fun r hr => ?_)
      rcases hr with ⟨x, y, hx, hy, g, e, _⟩ | ⟨e, ng⟩
      · rw [e]
        exact br_f (ap_m3 (by omega)) (nm_r (nI_1 _) (go 1 (ap_i_t ⟨x, y, g⟩)))
      · rw [e]
        exact br_t rfl (go 0 (ap_i_f (fun ⟨x, y, g⟩ => ng x y g)))
  refine Exists.intro 17 (ap_loop (σ := Unit) (fun n k _ => wX_fitting_4 post (nI W) (nI H) (fun i => ap_b (P i)) (fun i => nI (L i)) (fun i => nI (B i)) (fun i => nI (w i)) (fun i => nI (h i)) n (nI (ap_S (fun k => ap_S (fun j => ap_i (∃ x y, ap_G W H (ap_F C) x y (j + 1) (k + 1))) 16) k)) (nI (k + 1))) (fun _ _ => True) 16 ?_ 17 0 () (by omega) (by omega) trivial)
  intro n k _ _ hk nk
  refine ap_if (ap_lt (a := 16)) (fun c => ?_) (fun c => ?_)
  · have e : k = 16 := by omega
    rw [e]
    exact p
  · exact inner _ k _ (by omega) (nk () trivial (by omega))
theorem ap_xs (post : Int32 → Prop) (p1 : ∀ i, ap_U P i → post (nI i)) (p2 : (∀ i, i < 20 → P i = true) → post (-2)) : wpX_smallestUnusedNumber post (ap_X W H P L B w h) := by
  refine Exists.intro 21 (ap_loop (σ := Unit) (fun n i _ => wX_smallestUnusedNumber_2 post (nI W) (nI H) (fun i => ap_b (P i)) (fun i => nI (L i)) (fun i => nI (B i)) (fun i => nI (w i)) (fun i => nI (h i)) n (nI i)) (fun i _ => ∀ j, j < i → P j = true) 20 ?_ 21 0 () (by omega) (by omega) lt_0)
  intro n i _ hI hi nx
  refine ap_if (ap_le (a := 20)) (fun c => p2 (fun j hj => hI j (by omega))) (fun c => ?_)
  have cl : (nI i).toNatClampNeg = i := nI_clamp (by omega)
  rw [cl]
  refine ⟨vp_in_nI (by omega) (by omega), br_c (fun e => p1 i ⟨by omega, ap_b_0.mp e, hI⟩) (fun e => nm_r (nI_1 i) (nx () (lt_s hI (ap_nt (fun z => e (ap_b_f z)))) (by omega)))⟩
end
end
section
/-! the reference's walks that only read -/
section
variable {W H : Nat} {P : Nat → Bool} {L B w h : Nat → Nat} {C : Nat → Int32}
theorem ap_yg (hW : W ≤ 16) (hH : H ≤ 16) (post : Int32 → Prop) (x y a b : Nat) (hx : x < 100) (hy : y < 100) (ha : a < 100) (hb : b < 100)
    (p1 : ap_G W H (ap_F C) x y a b → post 1) (p0 : ¬ ap_G W H (ap_F C) x y a b → post 0) :
    wpY_good post (ap_Y W H P L B w h C) (nI x) (nI y) (nI a) (nI b) := by
  refine br_f (nI_pos (by omega)) (br_f (nI_pos (by omega)) (ap_if ap_lta (fun c => p0 (fun q => by have := q.1; omega)) (fun c1 => ap_if ap_lea (fun c2 => ?_) (fun c2 => p0 (fun q => by have := q.2.1; omega)))))
  have inner : ∀ (J : Int32 → Prop) (j : Nat), y ≤ j → j < y + b → ap_Q (ap_F C) x a y j x → (ap_Q (ap_F C) x a y (j + 1) x → J (nI (j + 1))) →
      ∃ n, wY_good_46 post J (nI x) (nI y) (nI a) (nI b) (nI j) (nI W) (nI H) C (fun i => nI (L i)) (fun i => nI (B i)) (fun i => nI (w i)) (fun i => nI (h i)) (fun i => ap_b (P i)) n (nI x) := by
    intro J j hj1 hj2 hQ hJ
    refine ⟨x + a + 1, ap_loop (σ := Unit) (fun n i _ => wY_good_46 post J (nI x) (nI y) (nI a) (nI b) (nI j) (nI W) (nI H) C (fun i => nI (L i)) (fun i => nI (B i)) (fun i => nI (w i)) (fun i => nI (h i)) (fun i => ap_b (P i)) n (nI i)) (fun i _ => x ≤ i ∧ ap_Q (ap_F C) x a y j i) (x + a) ?_ (x + a + 1) x () (by omega) (by omega) ⟨Nat.le_refl _, hQ⟩⟩
    intro n i _ hI hi nx
    obtain ⟨hi1, hq⟩ := hI
    refine ap_if ap_lea (fun c => nm_r (nI_1 j) (hJ (ap_Q_r ?_))) (fun c => ?_)
    · have e : i = x + a := by omega
      rw [e] at hq
      exact hq
    · rw [ap_16, nI_clamp (by omega)]
      refine ⟨vp_in_nI (by omega) (by omega), br_c (fun e => nm_r (nI_1 i) (nx () ⟨by omega, ap_Q_s hq e⟩ (by omega))) (fun e => p0 (fun q => e (q.2.2 i j hi1 (by omega) hj1 hj2)))⟩
  refine Exists.intro (y + b + 1) (ap_loop (σ := Unit) (fun n j _ => wY_good_34 post (nI x) (nI y) (nI a) (nI b) (nI W) (nI H) C (fun i => nI (L i)) (fun i => nI (B i)) (fun i => nI (w i)) (fun i => nI (h i)) (fun i => ap_b (P i)) n (nI j)) (fun j _ => y ≤ j ∧ ap_Q (ap_F C) x a y j x) (y + b) ?_ (y + b + 1) y () (by omega) (by omega) ⟨Nat.le_refl _, ap_Q_0⟩)
  intro n j _ hI hj nj
  obtain ⟨hj1, hq⟩ := hI
  refine ap_if ap_lea (fun c => p1 (ap_Q_e ?_ (by omega) c2)) (fun c => inner _ j hj1 (by omega) hq (fun q => nj () ⟨by omega, q⟩ (by omega)))
  have e : j = y + b := by omega
  rw [e] at hq
  exact hq
theorem ap_ygl (hW : W ≤ 16) (hH : H ≤ 16) (post : Int32 → Prop) (x y a b : Nat) (hx : x < 100) (hy : y < 100) (ha : a < 100) (hb : b < 100)
    (p1 : (∃ x', x = x' + 1 ∧ ap_G W H (ap_F C) x' y a b) → post 1) (p0 : ¬ (∃ x', x = x' + 1 ∧ ap_G W H (ap_F C) x' y a b) → post 0) :
    wpY_good post (ap_Y W H P L B w h C) (nI x - 1) (nI y) (nI a) (nI b) := by
  cases x with
  | zero => exact br_t ap_neg1 (p0 (fun ⟨x', e, _⟩ => by omega))
  | succ x' =>
    rw [nI_pred]
    exact ap_yg hW hH post x' y a b (by omega) hy ha hb (fun q => p1 ⟨x', rfl, q⟩) (fun q => p0 (fun ⟨x2, e, k⟩ => q (by
      have e2 : x' = x2 := by omega
      rw [e2]; exact k)))
theorem ap_ygd (hW : W ≤ 16) (hH : H ≤ 16) (post : Int32 → Prop) (x y a b : Nat) (hx : x < 100) (hy : y < 100) (ha : a < 100) (hb : b < 100)
    (p1 : (∃ y', y = y' + 1 ∧ ap_G W H (ap_F C) x y' a b) → post 1) (p0 : ¬ (∃ y', y = y' + 1 ∧ ap_G W H (ap_F C) x y' a b) → post 0) :
    wpY_good post (ap_Y W H P L B w h C) (nI x) (nI y - 1) (nI a) (nI b) := by
  cases y with
  | zero => exact br_f (nI_pos (by omega)) (br_t ap_neg1 (p0 (fun ⟨x', e, _⟩ => by omega)))
  | succ y' =>
    rw [nI_pred]
    exact ap_yg hW hH post x y' a b hx (by omega) ha hb (fun q => p1 ⟨y', rfl, q⟩) (fun q => p0 (fun ⟨x2, e, k⟩ => q (by
      have e2 : y' = x2 := by omega
      rw [e2]; exact k)))
theorem ap_yb (hW : W ≤ 16) (hH : H ≤ 16) (post : Int32 → Prop) (a b : Nat) (ha1 : 1 ≤ a) (hb1 : 1 ≤ b) (ha : a < 100) (hb : b < 100)
    (p : ∀ r, ap_B (fun x y => ap_G W H (ap_F C) x y a b) r → post r) : wpY_best post (ap_Y W H P L B w h C) (nI a) (nI b) := by
  have inner : ∀ (J : Int32 → Prop) (y : Nat), y < H → (ap_N (fun x y => ap_G W H (ap_F C) x y a b) (y + 1) 0 → J (nI (y + 1))) → ap_N (fun x y => ap_G W H (ap_F C) x y a b) y 0 →
      ∃ n, wY_best_13 post J (nI a) (nI b) (nI y) (nI W) (nI H) C (fun i => nI (L i)) (fun i => nI (B i)) (fun i => nI (w i)) (fun i => nI (h i)) (fun i => ap_b (P i)) n 0 := by
    intro J y hy hJ hN
    refine ⟨W + 1, ap_loop (σ := Unit) (fun n x _ => wY_best_13 post J (nI a) (nI b) (nI y) (nI W) (nI H) C (fun i => nI (L i)) (fun i => nI (B i)) (fun i => nI (w i)) (fun i => nI (h i)) (fun i => ap_b (P i)) n (nI x)) (fun x _ => ap_N (fun x y => ap_G W H (ap_F C) x y a b) y x) W ?_ (W + 1) 0 () (by omega) (by omega) hN⟩
    intro n x _ hI hx nx
    refine ap_if ap_le (fun c => nm_r (nI_1 y) (hJ (ap_N_r hI (fun x' q => by have := q.1; omega)))) (fun c => ?_)
    refine ap_yg hW hH _ x y a b (by omega) (by omega) ha hb (fun q => br_f ap_10 ?_) (fun q => br_t rfl (nm_r (nI_1 x) (nx () (ap_N_s hI q) (by omega))))
    rw [ap_256]
    exact p _ (ap_N_g hI q (by omega) (by omega))
  refine Exists.intro (H + 1) (ap_loop (σ := Unit) (fun n y _ => wY_best_2 post (nI a) (nI b) (nI W) (nI H) C (fun i => nI (L i)) (fun i => nI (B i)) (fun i => nI (w i)) (fun i => nI (h i)) (fun i => ap_b (P i)) n (nI y)) (fun y _ => ap_N (fun x y => ap_G W H (ap_F C) x y a b) y 0) H ?_ (H + 1) 0 () (by omega) (by omega) ap_N_0)
  intro n y _ hI hy ny
  exact ap_if ap_le (fun c => p _ (ap_N_e hI (fun x' y' q => by have := q.2.1; omega))) (fun c => inner _ y (by omega) (fun hN => ny () hN (by omega)) hI)
theorem ap_yt (hW : W ≤ 16) (hH : H ≤ 16) (post : Int32 → Prop) (x y a : Nat) (ha1 : 1 ≤ a) (hx : x + a ≤ W) (hy : y < H)
    (p : ∀ v, v ≤ 16 → ap_t W H (ap_F C) x y a v → post (nI v)) : wpY_tallest post (ap_Y W H P L B w h C) (nI x) (nI y) (nI a) := by
  refine Exists.intro 17 (ap_loop (σ := Unit) (fun n k _ => wY_tallest_3 post (nI x) (nI y) (nI a) (nI W) (nI H) C (fun i => nI (L i)) (fun i => nI (B i)) (fun i => nI (w i)) (fun i => nI (h i)) (fun i => ap_b (P i)) n (nI (k + 1))) (fun k _ => ap_G W H (ap_F C) x y a k) 16 ?_ 17 0 () (by omega) (by omega) ⟨hx, by omega, fun i j h1 h2 h3 h4 => by omega⟩)
  intro n k _ hI hk nx
  have hk2 := hI.2.1
  have es : nI H - nI y = nI (H - y) := pk_sub (by omega)
  refine ap_if (d := H - y < k + 1) (by rw [es]; exact ap_lt) (fun c => ?_) (fun c => ?_)
  · have e : H - y = k := by omega
    rw [es, e]
    exact p k hk ⟨Or.inr hI, fun q => by have := q.2.1; omega⟩
  · rw [ap_p1 y k]
    refine ap_yg hW hH _ x (y + k) a 1 (by omega) (by omega) (by omega) (by omega) (fun q => br_f ap_10 (nm_r (nI_1 (k + 1)) (nx () (ap_G_u hI q) (by omega)))) (fun q => br_t rfl ?_)
    rw [nI_pred]
    exact p k hk ⟨Or.inr hI, fun g => q (ap_G_s g (by omega) (by omega) (by omega) (by omega))⟩
theorem ap_ytn (post : Int32 → Prop) (x y a : Nat) (hH : H ≤ 16) (hy : H ≤ y) (hy2 : y < 16) (p : ∀ r : Int32, r ≤ 0 → post r) : wpY_tallest post (ap_Y W H P L B w h C) (nI x) (nI y) (nI a) := by
  have e := pk_sub_toInt (a := H) (b := y) (by omega) (by omega)
  have e0 : (0 : Int32).toInt = 0 := by decide
  have e1 : (1 : Int32).toInt = 1 := by decide
  refine Exists.intro 1 (br_t ?_ (p _ ?_))
  · rw [Int32.lt_iff_toInt_lt, e, e1]
    omega
  · rw [Int32.le_iff_toInt_le, e, e0]
    omega
theorem ap_yc (hW : W ≤ 16) (hH : H ≤ 16) (post : Int32 → Prop) (x y a b : Nat) (hx : x < 50) (hy : y < 50) (ha : a < 50) (hb : b < 50)
    (p1 : ap_cl W H (ap_F C) x y a b → post 1) (p0 : ¬ ap_cl W H (ap_F C) x y a b → post 0) :
    wpY_closed post (ap_Y W H P L B w h C) (nI x) (nI y) (nI a) (nI b) := by
  unfold wpY_closed
  dsimp only
  rw [nI_add x a]
  refine ap_ygl hW hH _ x y 1 b (by omega) (by omega) (by omega) (by omega) (fun q => br_f ap_10 (p0 (fun c => c.1 q))) (fun q1 => br_t rfl ?_)
  refine ap_yg hW hH _ (x + a) y 1 b (by omega) (by omega) (by omega) (by omega) (fun q => br_f ap_10 (p0 (fun c => c.2.1 q))) (fun q2 => br_t rfl ?_)
  exact ap_ygd hW hH _ x y a 1 (by omega) (by omega) (by omega) (by omega) (fun q => br_f ap_10 (p0 (fun c => c.2.2 q))) (fun q3 => br_t rfl (p1 ⟨q1, q2, q3⟩))
theorem ap_ya (hW : W ≤ 16) (hH : H ≤ 16) (post : Int32 → Prop) (x y a : Nat) (hx : x < 16) (hy : y < 16) (ha1 : 1 ≤ a) (ha : a ≤ 16)
    (p1 : ∀ v, 1 ≤ v → v ≤ 16 → ap_M W H (ap_F C) x y a v → post (nI (a * v))) (p0 : (∀ v, ¬ ap_M W H (ap_F C) x y a v) → post 0) :
    wpY_areaOfHole post (ap_Y W H P L B w h C) (nI x) (nI y) (nI a) := by
  have e := pk_sub_toInt (a := W) (b := x) (by omega) (by omega)
  refine ap_if (d := x + a ≤ W) ?_ (fun c => ?_) (fun c => p0 (fun v m => c m.2.2.1.1))
  · rw [Int32.le_iff_toInt_le, e, nI_toInt (by omega)]
    omega
  · by_cases hy3 : y < H
    · refine ap_yt hW hH _ x y a ha1 c hy3 (fun v hv t => ap_if ap_le0 (fun c0 => p0 (fun v' m => ?_)) (fun c0 => ?_))
      · have e := ap_t_u (ap_M_t m) t
        have := m.2.1
        omega
      · have cm := ap_cl_M t ha1 (by omega)
        refine ap_yc hW hH _ x y a v (by omega) (by omega) (by omega) (by omega) (fun q => br_f ap_10 ?_) (fun q => br_t rfl (p0 (fun v' m => ?_)))
        · rw [pk_mul]
          exact p1 v (by omega) hv (cm.mpr q)
        · have e := ap_t_u (ap_M_t m) t
          subst e
          exact q (cm.mp m)
    · exact ap_ytn _ x y a hH (by omega) hy (fun r hr => br_t hr (p0 (fun v m => by
        have m1 := m.2.1
        have m2 := m.2.2.1.2.1
        omega)))
theorem ap_yholes (hW : W ≤ 16) (hH : H ≤ 16) (post : Int32 → Prop) (p : post (nI (ap_S (ap_nh W H (ap_F C)) 256))) : wpY_holes post (ap_Y W H P L B w h C) := by
  have inner : ∀ (J : Int32 → Int32 → Prop) (k s : Nat), k < 256 → J (nI (s + ap_nh W H (ap_F C) k)) (nI (k + 1)) →
      ∃ n, wY_holes_13 post J (nI k) (nI W) (nI H) C (fun i => nI (L i)) (fun i => nI (B i)) (fun i => nI (w i)) (fun i => nI (h i)) (fun i => ap_b (P i)) n (nI s) 1 := by
    intro J k s hk hJ
    refine ⟨W + 1, ap_loop (σ := Unit) (fun n j _ => wY_holes_13 post J (nI k) (nI W) (nI H) C (fun i => nI (L i)) (fun i => nI (B i)) (fun i => nI (w i)) (fun i => nI (h i)) (fun i => ap_b (P i)) n (nI (s + ap_S (fun j => ap_i (∃ v, ap_M W H (ap_F C) (k % 16) (k / 16) (j + 1) v)) j)) (nI (j + 1))) (fun _ _ => True) W ?_ (W + 1) 0 () (by omega) (by omega) trivial⟩
    intro n j _ _ hj nx
    refine ap_if ap_lt (fun c => nm_r (nI_1 k) ?_) (fun c => ?_)
    · have e : j = W := by omega
      rw [e]
      exact hJ
    · have go : ∀ (t : Nat), ap_i (∃ v, ap_M W H (ap_F C) (k % 16) (k / 16) (j + 1) v) = t → ∀ z : Int32, z = nI (j + 1) + 1 → wY_holes_13 post J (nI k) (nI W) (nI H) C (fun i => nI (L i)) (fun i => nI (B i)) (fun i => nI (w i)) (fun i => nI (h i)) (fun i => ap_b (P i)) n (nI (s + ap_S (fun j => ap_i (∃ v, ap_M W H (ap_F C) (k % 16) (k / 16) (j + 1) v)) j + t)) z := by
        intro t e z ez
        rw [ez, nI_1, ← e, Nat.add_assoc s]
        exact nx () trivial (by omega)
      rw [ap_and15 hk, ap_shr4 hk]
      refine ap_ya hW hH _ (k % 16) (k / 16) (j + 1) (by omega) (by omega) (by omega) (by omega) (fun v hv1 hv m => ?_) (fun q => ?_)
      · have h16 : j + 1 ≤ 16 := by omega
        have hm : (j + 1) * v ≤ 256 := Nat.le_trans (Nat.mul_le_mul h16 hv) (by omega)
        have hp : 0 < (j + 1) * v := Nat.mul_pos (by omega) hv1
        exact ap_if ap_le0 (fun c0 => absurd c0 (by omega)) (fun c0 => nm_r (nI_1 _) (go 1 (ap_i_t ⟨v, m⟩)))
      · exact br_t (Int32.le_refl 0) (go 0 (ap_i_f (fun ⟨v, m⟩ => q v m)))
  refine Exists.intro 257 (ap_loop (σ := Unit) (fun n k _ => wY_holes_4 post (nI W) (nI H) C (fun i => nI (L i)) (fun i => nI (B i)) (fun i => nI (w i)) (fun i => nI (h i)) (fun i => ap_b (P i)) n (nI (ap_S (ap_nh W H (ap_F C)) k)) (nI k)) (fun _ _ => True) 256 ?_ 257 0 () (by omega) (by omega) trivial)
  intro n k _ _ hk nk
  refine ap_if (ap_le (a := 256)) (fun c => ?_) (fun c => ?_)
  · have e : k = 256 := by omega
    rw [e]
    exact p
  · exact inner _ k _ (by omega) (nk () trivial (by omega))
/-- the greatest hole among those seen -/
def ap_lm (W H : Nat) (F : Nat → Nat → Prop) (Q : Nat → Nat → Nat → Prop) (r : Nat) : Prop :=
  (∀ x y v b, Q x y v → ap_M W H F x y v b → v * b ≤ r) ∧ (r = 0 ∨ ∃ x y v b, ap_M W H F x y v b ∧ v * b = r)
theorem ap_ylh (hW : W ≤ 16) (hH : H ≤ 16) (post : Int32 → Prop) (p : ∀ r, r ≤ 256 → ap_LM W H (ap_F C) r → post (nI r)) : wpY_largestHole post (ap_Y W H P L B w h C) := by
  have inner : ∀ (J : Int32 → Int32 → Prop) (k s : Nat), k < 256 → s ≤ 256 → ap_lm W H (ap_F C) (fun x y _ => 16 * y + x < k) s → (∀ t, t ≤ 256 → ap_lm W H (ap_F C) (fun x y _ => 16 * y + x < k + 1) t → J (nI t) (nI (k + 1))) →
      ∃ n, wY_largestHole_13 post J (nI k) (nI W) (nI H) C (fun i => nI (L i)) (fun i => nI (B i)) (fun i => nI (w i)) (fun i => nI (h i)) (fun i => ap_b (P i)) n (nI s) 1 := by
    intro J k s hk hs hl0 hJ
    refine ⟨W + 1, ap_loop (σ := Nat) (fun n j r => wY_largestHole_13 post J (nI k) (nI W) (nI H) C (fun i => nI (L i)) (fun i => nI (B i)) (fun i => nI (w i)) (fun i => nI (h i)) (fun i => ap_b (P i)) n (nI r) (nI (j + 1))) (fun j r => r ≤ 256 ∧ ap_lm W H (ap_F C) (fun x y v => 16 * y + x < k ∨ (16 * y + x = k ∧ v ≤ j)) r) W ?_ (W + 1) 0 s (by omega) (by omega) ⟨hs, ?_⟩⟩
    · intro n j r hI hj nx
      obtain ⟨hr, hl1, hl2⟩ := hI
      refine ap_if ap_lt (fun c => nm_r (nI_1 k) (hJ r hr ⟨fun x y v b q m => hl1 x y v b ?_ m, hl2⟩)) (fun c => ?_)
      · have q' : 16 * y + x < k + 1 := q
        have := m.2.2.1.1
        show 16 * y + x < k ∨ (16 * y + x = k ∧ v ≤ j)
        omega
      · rw [ap_and15 hk, ap_shr4 hk]
        have sp : ∀ x y v b : Nat, (16 * y + x < k ∨ (16 * y + x = k ∧ v ≤ j + 1)) → ap_M W H (ap_F C) x y v b → (16 * y + x < k ∨ (16 * y + x = k ∧ v ≤ j)) ∨ (x = k % 16 ∧ y = k / 16 ∧ v = j + 1) := by
          intro x y v b q m
          have m1 := m.1
          have m2 := m.2.2.1.1
          omega
        refine ap_ya hW hH _ (k % 16) (k / 16) (j + 1) (by omega) (by omega) (by omega) (by omega) (fun v hv1 hv m => ?_) (fun q => ?_)
        · have h16 : j + 1 ≤ 16 := by omega
          have hm : (j + 1) * v ≤ 256 := Nat.le_trans (Nat.mul_le_mul h16 hv) (by omega)
          have key : ∀ t, r ≤ t → (j + 1) * v ≤ t → ∀ x y v' b : Nat, (16 * y + x < k ∨ (16 * y + x = k ∧ v' ≤ j + 1)) → ap_M W H (ap_F C) x y v' b → v' * b ≤ t := by
            intro t ht1 ht2 x y v' b q m'
            rcases sp x y v' b q m' with c1 | ⟨c1, c2, c3⟩
            · exact Nat.le_trans (hl1 x y v' b c1 m') ht1
            · subst c1 c2 c3
              rw [ap_t_u (ap_M_t m') (ap_M_t m)]
              exact ht2
          refine ap_if ap_le (fun c1 => nm_r (nI_1 (j + 1)) (nx r ⟨hr, key r (Nat.le_refl _) c1, hl2⟩ (by omega))) (fun c1 => nm_r (nI_1 (j + 1)) (nx ((j + 1) * v) ⟨hm, key _ (by omega) (Nat.le_refl _), Or.inr ⟨_, _, _, _, m, rfl⟩⟩ (by omega)))
        · refine br_t (nI_le (a := 0) (Nat.zero_le r) (by omega)) (nm_r (nI_1 (j + 1)) (nx r ⟨hr, fun x y v b c m => ?_, hl2⟩ (by omega)))
          rcases sp x y v b c m with c1 | ⟨c1, c2, c3⟩
          · exact hl1 x y v b c1 m
          · subst c1 c2 c3
            exact absurd m (q b)
    · refine ⟨fun x y v b q m => hl0.1 x y v b ?_ m, hl0.2⟩
      have q' : 16 * y + x < k ∨ (16 * y + x = k ∧ v ≤ 0) := q
      have := m.1
      show 16 * y + x < k
      omega
  refine Exists.intro 257 (ap_loop (σ := Nat) (fun n k r => wY_largestHole_4 post (nI W) (nI H) C (fun i => nI (L i)) (fun i => nI (B i)) (fun i => nI (w i)) (fun i => nI (h i)) (fun i => ap_b (P i)) n (nI r) (nI k)) (fun k r => r ≤ 256 ∧ ap_lm W H (ap_F C) (fun x y _ => 16 * y + x < k) r) 256 ?_ 257 0 0 (by omega) (by omega) ⟨by omega, fun x y v b q _ => absurd q (Nat.not_lt_zero _), Or.inl rfl⟩)
  intro n k r hI hk nk
  obtain ⟨hr, hl⟩ := hI
  refine ap_if (ap_le (a := 256)) (fun c => p r hr ⟨fun x y v b m => hl.1 x y v b ?_ m, hl.2⟩) (fun c => ?_)
  · have m1 := m.1
    have m2 := m.2.1
    have m3 := m.2.2.1.1
    have m4 := m.2.2.1.2.1
    show 16 * y + x < k
    omega
  · exact inner _ k r (by omega) hr hl (fun t ht hlt => nk t ⟨ht, hlt⟩ (by omega))
theorem ap_yfit (hW : W ≤ 16) (hH : H ≤ 16) (post : Int32 → Prop) (p : post (nI (ap_S (fun j => ap_c W H (ap_F C) (j + 1)) W))) : wpY_fitting post (ap_Y W H P L B w h C) := by
  have inner : ∀ (J : Int32 → Int32 → Prop) (j s : Nat), j < W → J (nI (s + ap_c W H (ap_F C) (j + 1))) (nI (j + 1 + 1)) →
      ∃ n, wY_fitting_17 post J (nI s) (nI (j + 1)) (nI W) (nI H) C (fun i => nI (L i)) (fun i => nI (B i)) (fun i => nI (w i)) (fun i => nI (h i)) (fun i => ap_b (P i)) n 0 0 := by
    intro J j s hj hJ
    refine ⟨257, ap_loop (σ := Nat) (fun n k m => wY_fitting_17 post J (nI s) (nI (j + 1)) (nI W) (nI H) C (fun i => nI (L i)) (fun i => nI (B i)) (fun i => nI (w i)) (fun i => nI (h i)) (fun i => ap_b (P i)) n (nI m) (nI k)) (fun k m => m ≤ 16 ∧ (∀ x y b, x < 16 → 16 * y + x < k → ap_G W H (ap_F C) x y (j + 1) b → b ≤ m) ∧ (m = 0 ∨ ∃ x y, ap_G W H (ap_F C) x y (j + 1) m)) 256 ?_ 257 0 0 (by omega) (by omega) ⟨by omega, fun x y b _ q _ => absurd q (Nat.not_lt_zero _), Or.inl rfl⟩⟩
    intro n k m hI hk nx
    obtain ⟨hm, hm1, hm2⟩ := hI
    refine ap_if (ap_le (a := 256)) (fun c => nm_r (nI_add _ _) (nm_r (nI_1 _) ?_)) (fun c => ?_)
    · have e : ap_c W H (ap_F C) (j + 1) = m := by
        refine ap_c_m hH (fun x y b g => ?_) hm2
        have g1 := g.1
        have g2 := g.2.1
        by_cases hy : y < 16
        · exact hm1 x y b (by omega) (by omega) g
        · omega
      rw [← e]
      exact hJ
    · have hk' : k < 256 := by omega
      have fin : ∀ b, b ≤ 16 → (∀ b', ap_G W H (ap_F C) (k % 16) (k / 16) (j + 1) b' → b' ≤ b) → (b = 0 ∨ ap_G W H (ap_F C) (k % 16) (k / 16) (j + 1) b) → wY_fitting_68 post J (wY_fitting_17 post J (nI s) (nI (j + 1)) (nI W) (nI H) C (fun i => nI (L i)) (fun i => nI (B i)) (fun i => nI (w i)) (fun i => nI (h i)) (fun i => ap_b (P i)) n) (nI s) (nI (j + 1)) (nI m) (nI k) (nI b) (nI W) (nI H) C (fun i => nI (L i)) (fun i => nI (B i)) (fun i => nI (w i)) (fun i => nI (h i)) (fun i => ap_b (P i)) := by
        intro b hb q1 q2
        have key : ∀ t, m ≤ t → b ≤ t → ∀ x y b', x < 16 → 16 * y + x < k + 1 → ap_G W H (ap_F C) x y (j + 1) b' → b' ≤ t := by
          intro t t1 t2 x y b' hx hq g
          by_cases e : 16 * y + x = k
          · have ex : x = k % 16 := by omega
            have ey : y = k / 16 := by omega
            rw [ex, ey] at g
            exact Nat.le_trans (q1 b' g) t2
          · exact Nat.le_trans (hm1 x y b' hx (by omega) g) t1
        refine ap_if ap_le (fun c1 => nm_r (nI_1 k) (nx m ⟨hm, key m (Nat.le_refl _) c1, hm2⟩ hk')) (fun c1 => nm_r (nI_1 k) (nx b ⟨hb, key b (by omega) (Nat.le_refl _), ?_⟩ hk'))
        rcases q2 with q2 | q2
        · exact Or.inl q2
        · exact Or.inr ⟨_, _, q2⟩
      rw [ap_and15 hk', ap_shr4 hk']
      refine ap_if ap_lta (fun c1 => fin 0 (by omega) (fun b' g => by have := g.1; omega) (Or.inl rfl)) (fun c1 => ap_if ap_lt (fun c2 => ?_) (fun c2 => fin 0 (by omega) (fun b' g => by have := g.2.1; omega) (Or.inl rfl)))
      refine ap_yt hW hH _ (k % 16) (k / 16) (j + 1) (by omega) (by omega) c2 (fun v hv t => fin v hv (fun b' g => ?_) t.1)
      by_cases e : b' ≤ v
      · exact e
      · exact absurd (ap_G_s g (by omega) (by omega) (by omega) (by omega)) t.2
  refine Exists.intro (W + 1) (ap_loop (σ := Unit) (fun n j _ => wY_fitting_4 post (nI W) (nI H) C (fun i => nI (L i)) (fun i => nI (B i)) (fun i => nI (w i)) (fun i => nI (h i)) (fun i => ap_b (P i)) n (nI (ap_S (fun j => ap_c W H (ap_F C) (j + 1)) j)) (nI (j + 1))) (fun _ _ => True) W ?_ (W + 1) 0 () (by omega) (by omega) trivial)
  intro n j _ _ hj nj
  refine ap_if ap_lt (fun c => ?_) (fun c => ?_)
  · have e : j = W := by omega
    rw [e]
    exact p
  · exact inner _ j _ (by omega) (nj () trivial (by omega))
theorem ap_yn (post : Int32 → Prop) (p : post (nI (ap_n P 20))) : wpY_count post (ap_Y W H P L B w h C) := by
  refine Exists.intro 21 (ap_loop (σ := Unit) (fun n i _ => wY_count_4 post (nI W) (nI H) C (fun i => nI (L i)) (fun i => nI (B i)) (fun i => nI (w i)) (fun i => nI (h i)) (fun i => ap_b (P i)) n (nI (ap_n P i)) (nI i)) (fun _ _ => True) 20 ?_ 21 0 () (by omega) (by omega) trivial)
  intro n i _ _ hi nx
  refine ap_if (ap_le (a := 20)) (fun c => ?_) (fun c => ?_)
  · have e : i = 20 := by omega
    rw [e]
    exact p
  · have cl : (nI i).toNatClampNeg = i := nI_clamp (by omega)
    have s := nx () trivial (by omega)
    rw [ap_n_s] at s
    rw [cl]
    refine ⟨vp_in_nI (by omega) (by omega), br_c (fun e => nm_r (nI_1 i) ?_) (fun e => nm_r (nI_1 _) (nm_r (nI_1 i) ?_))⟩
    · have e' : P i = false := ap_b_0.mp e
      rw [if_neg (by rw [e']; exact Bool.noConfusion)] at s
      exact s
    · have e' : P i = true := ap_nt (fun z => e (ap_b_f z))
      rw [if_pos e'] at s
      exact s
theorem ap_yf (hW : W ≤ 16) (hH : H ≤ 16) (post : Int32 → Prop) (p : post (nI (ap_S (fun y => ap_S (fun x => ap_i (ap_F C x y)) W) H))) : wpY_freeCells post (ap_Y W H P L B w h C) := by
  have inner : ∀ (J : Int32 → Int32 → Prop) (y s : Nat), y < H → J (nI (s + ap_S (fun x => ap_i (ap_F C x y)) W)) (nI (y + 1)) →
      ∃ n, wY_freeCells_14 post J (nI y) (nI W) (nI H) C (fun i => nI (L i)) (fun i => nI (B i)) (fun i => nI (w i)) (fun i => nI (h i)) (fun i => ap_b (P i)) n (nI s) 0 := by
    intro J y s hy hJ
    refine ⟨W + 1, ap_loop (σ := Unit) (fun n x _ => wY_freeCells_14 post J (nI y) (nI W) (nI H) C (fun i => nI (L i)) (fun i => nI (B i)) (fun i => nI (w i)) (fun i => nI (h i)) (fun i => ap_b (P i)) n (nI (s + ap_S (fun x => ap_i (ap_F C x y)) x)) (nI x)) (fun _ _ => True) W ?_ (W + 1) 0 () (by omega) (by omega) trivial⟩
    intro n x _ _ hx nx
    refine ap_if ap_le (fun c => nm_r (nI_1 y) ?_) (fun c => ?_)
    · have e : x = W := by omega
      rw [e]
      exact hJ
    · have go : ∀ (t : Nat), ap_i (ap_F C x y) = t → ∀ z : Int32, z = nI x + 1 → wY_freeCells_14 post J (nI y) (nI W) (nI H) C (fun i => nI (L i)) (fun i => nI (B i)) (fun i => nI (w i)) (fun i => nI (h i)) (fun i => ap_b (P i)) n (nI (s + ap_S (fun x => ap_i (ap_F C x y)) x + t)) z := by
        intro t e z ez
        rw [ez, nI_1, ← e, Nat.add_assoc s]
        exact nx () trivial (by omega)
      rw [ap_16, nI_clamp (by omega)]
      exact ⟨vp_in_nI (by omega) (by omega), br_c (fun e => nm_r (nI_1 _) (go 1 (ap_i_t e))) (fun e => go 0 (ap_i_f e))⟩
  refine Exists.intro (H + 1) (ap_loop (σ := Unit) (fun n y _ => wY_freeCells_4 post (nI W) (nI H) C (fun i => nI (L i)) (fun i => nI (B i)) (fun i => nI (w i)) (fun i => nI (h i)) (fun i => ap_b (P i)) n (nI (ap_S (fun y => ap_S (fun x => ap_i (ap_F C x y)) W) y)) (nI y)) (fun _ _ => True) H ?_ (H + 1) 0 () (by omega) (by omega) trivial)
  intro n y _ _ hy ny
  refine ap_if ap_le (fun c => ?_) (fun c => ?_)
  · have e : y = H := by omega
    rw [e]
    exact p
  · exact inner _ y _ (by omega) (ny () trivial (by omega))
end
end
section
/-! the reference's walks that store; putting down on both sides -/
section
variable {W H : Nat} {P : Nat → Bool} {L B w h : Nat → Nat} {C : Nat → Int32}
theorem ap_ypaint (post : SY → Prop) (id : Nat) (v : Int32) (hi : id < 20) (hL : L id + w id ≤ 16) (hB : B id + h id ≤ 16)
    (p : ∀ D, ap_pt C D (L id) (B id) (w id) (h id) v → post (ap_Y W H P L B w h D)) : wpY_paint post (ap_Y W H P L B w h C) (nI id) v := by
  have vi : vp_in (nI id) 20 := vp_in_nI hi (by omega)
  have cl : (nI id).toNatClampNeg = id := nI_clamp (by omega)
  have inner : ∀ (J : Int32 → (Nat → Int32) → (Nat → Int32) → (Nat → Int32) → (Nat → Int32) → (Nat → Int32) → (Nat → Int32) → Prop) (j : Nat) (D : Nat → Int32), B id ≤ j → j < B id + h id → ap_R C D (L id) (w id) (B id) v j (L id) →
      (∀ D', ap_R C D' (L id) (w id) (B id) v (j + 1) (L id) → J (nI (j + 1)) D' (fun i => nI (L i)) (fun i => nI (B i)) (fun i => nI (w i)) (fun i => nI (h i)) (fun i => ap_b (P i))) →
      ∃ n, wY_paint_32 post J (nI id) v (nI j) (nI W) (nI H) n (nI (L id)) D (fun i => nI (L i)) (fun i => nI (B i)) (fun i => nI (w i)) (fun i => nI (h i)) (fun i => ap_b (P i)) := by
    intro J j D hj1 hj2 hR hJ
    refine ⟨L id + w id + 1, ap_loop (σ := Nat → Int32) (fun n i D => wY_paint_32 post J (nI id) v (nI j) (nI W) (nI H) n (nI i) D (fun i => nI (L i)) (fun i => nI (B i)) (fun i => nI (w i)) (fun i => nI (h i)) (fun i => ap_b (P i))) (fun i D => L id ≤ i ∧ ap_R C D (L id) (w id) (B id) v j i) (L id + w id) ?_ (L id + w id + 1) (L id) D (by omega) (by omega) ⟨Nat.le_refl _, hR⟩⟩
    intro n i D hI hi2 nx
    obtain ⟨hi1, hr⟩ := hI
    refine And.intro vi (And.intro vi ?_)
    rw [cl]
    refine ap_if ap_lea (fun c => nm_r (nI_1 j) (hJ D (ap_R_r ?_))) (fun c => ?_)
    · have e : i = L id + w id := by omega
      rw [e] at hr
      exact hr
    · rw [ap_16, nI_clamp (by omega)]
      exact ⟨vp_in_nI (by omega) (by omega), nm_e (nm_r (nI_1 i) (nx _ ⟨by omega, ap_R_s hr hi1 (by omega) hj1 (by omega)⟩ (by omega)))⟩
  refine And.intro vi ?_
  rw [cl]
  refine nm_e (Exists.intro (B id + h id + 1) (ap_loop (σ := Nat → Int32) (fun n j D => wY_paint_7 post (nI id) v (nI W) (nI H) n (nI j) D (fun i => nI (L i)) (fun i => nI (B i)) (fun i => nI (w i)) (fun i => nI (h i)) (fun i => ap_b (P i))) (fun j D => B id ≤ j ∧ ap_R C D (L id) (w id) (B id) v j (L id)) (B id + h id) ?_ (B id + h id + 1) (B id) C (by omega) (by omega) ⟨Nat.le_refl _, ap_R_0⟩))
  intro n j D hI hj nj
  obtain ⟨hj1, hr⟩ := hI
  refine And.intro vi (And.intro vi ?_)
  rw [cl]
  refine ap_if ap_lea (fun c => p D (ap_R_e ?_ hL hB)) (fun c => ⟨vi, nm_e (inner _ j D hj1 (by omega) hr (fun D' q => nj D' ⟨by omega, q⟩ (by omega)))⟩)
  have e : j = B id + h id := by omega
  rw [e] at hr
  exact hr
theorem ap_ylay (post : Int32 → SY → Prop) (x y a b : Nat) (ex : ∃ i, ap_U P i) (hx : x < 16) (hy : y < 16) (hxa : x + a ≤ 16) (hyb : y + b ≤ 16)
    (p : ∀ i D, ap_U P i → ap_pt C D x y a b (nI i) → post (nI i) (ap_Y W H (ap_u P i true) (ap_u L i x) (ap_u B i y) (ap_u w i a) (ap_u h i b) D)) :
    wpY_lay post (ap_Y W H P L B w h C) (nI (256 * y + x)) (nI a) (nI b) := by
  have key : ∀ t m : Nat, t ≤ 20 → ((m < 20 ∧ P m = false ∧ ∀ j, t ≤ j → j < m → P j = true) ∨ (m = 0 ∧ ∀ j, t ≤ j → j < 20 → P j = true)) →
      wY_lay_7 post (nI (256 * y + x)) (nI a) (nI b) (nI W) (nI H) C (fun i => nI (L i)) (fun i => nI (B i)) (fun i => nI (w i)) (fun i => nI (h i)) (fun i => ap_b (P i)) (t + 1) (nI m) (nI t + (-1)) := by
    intro t
    induction t with
    | zero =>
      intro m _ q
      have u : ap_U P m := by
        rcases q with ⟨q1, q2, q3⟩ | ⟨_, q⟩
        · exact ⟨q1, q2, fun j hj => q3 j (Nat.zero_le _) hj⟩
        · obtain ⟨i, u1, u2, _⟩ := ex
          rw [q i (Nat.zero_le _) u1] at u2
          exact Bool.noConfusion u2
      have um := u.1
      have vi : vp_in (nI m) 20 := vp_in_nI um (by omega)
      have cl : (nI m).toNatClampNeg = m := nI_clamp (by omega)
      have e1 : upd (fun i => ap_b (P i)) m (vp_nar .boolean 1) = fun i => ap_b (ap_u P m true i) := ap_upb P m true
      have e2 : upd (fun i => nI (L i)) m (nI (256 * y + x) &&& 255) = fun i => nI (ap_u L m x i) := by
        rw [ap_and255 (by omega), show (256 * y + x) % 256 = x by omega]
        exact ap_up L m x
      have e3 : upd (fun i => nI (B i)) m (nI (256 * y + x) >>> ((8 : Int32) &&& 31)) = fun i => nI (ap_u B m y i) := by
        rw [ap_shr8 (by omega), show (256 * y + x) / 256 = y by omega]
        exact ap_up B m y
      have e4 : upd (fun i => nI (w i)) m (nI a) = fun i => nI (ap_u w m a i) := ap_up w m a
      have e5 : upd (fun i => nI (h i)) m (nI b) = fun i => nI (ap_u h m b i) := ap_up h m b
      refine br_t (by decide) ?_
      rw [cl]
      refine ⟨vi, nm_r e1 ⟨vi, nm_r e2 ⟨vi, nm_r e3 ⟨vi, nm_r e4 ⟨vi, nm_r e5 ?_⟩⟩⟩⟩⟩
      refine ap_ypaint (P := ap_u P m true) (L := ap_u L m x) (B := ap_u B m y) (w := ap_u w m a) (h := ap_u h m b) _ m (nI m) um (by rw [ap_us, ap_us]; exact hxa) (by rw [ap_us, ap_us]; exact hyb) (fun D pt => ?_)
      rw [ap_us, ap_us, ap_us, ap_us] at pt
      exact p m D u pt
    | succ t ih =>
      intro m ht q
      rw [pk_m1]
      have cl : (nI t).toNatClampNeg = t := nI_clamp (by omega)
      refine br_f (nI_pos (by omega)) ?_
      rw [cl]
      refine ⟨vp_in_nI (by omega) (by omega), br_c (fun e => nm_e (ih t (by omega) (Or.inl ⟨by omega, ap_b_0.mp e, fun j h1 h2 => by omega⟩))) (fun e => nm_e (ih m (by omega) ?_))⟩
      have e' : P t = true := ap_nt (fun z => e (ap_b_f z))
      rcases q with ⟨q1, q2, q3⟩ | ⟨q1, q2⟩
      · refine Or.inl ⟨q1, q2, fun j h1 h2 => ?_⟩
        by_cases c : j = t
        · rw [c]; exact e'
        · exact q3 j (by omega) h2
      · refine Or.inr ⟨q1, fun j h1 h2 => ?_⟩
        by_cases c : j = t
        · rw [c]; exact e'
        · exact q2 j (by omega) h2
  have k0 := key 20 0 (Nat.le_refl _) (Or.inr ⟨rfl, fun j h1 h2 => by omega⟩)
  rw [pk_m1 19] at k0
  exact Exists.intro 21 k0
theorem ap_xput (post : SX → Prop) (i x y a b : Nat) (hi : i < 20) (hx : x < 16) (hy : y < 16)
    (p : post (ap_X W H (ap_u P i true) (ap_u L i x) (ap_u B i y) (ap_u w i a) (ap_u h i b))) : wpX_putDown post (ap_X W H P L B w h) (nI i) (nI (256 * y + x)) (nI a) (nI b) := by
  have vi : vp_in (nI i) 20 := vp_in_nI hi (by omega)
  have cl : (nI i).toNatClampNeg = i := nI_clamp (by omega)
  have e1 : upd (fun i => ap_b (P i)) i (vp_nar .boolean 1) = fun j => ap_b (ap_u P i true j) := ap_upb P i true
  have e2 : upd (fun i => nI (L i)) i (nI (256 * y + x) - nI (256 * y + x) / 256 * 256) = fun j => nI (ap_u L i x j) := by
    rw [ap_rem256 (by omega), show (256 * y + x) % 256 = x by omega]
    exact ap_up L i x
  have e3 : upd (fun i => nI (B i)) i (nI (256 * y + x) / 256) = fun j => nI (ap_u B i y j) := by
    rw [ap_div256 (by omega), show (256 * y + x) / 256 = y by omega]
    exact ap_up B i y
  have e4 : upd (fun i => nI (w i)) i (nI a) = fun j => nI (ap_u w i a j) := ap_up w i a
  have e5 : upd (fun i => nI (h i)) i (nI b) = fun j => nI (ap_u h i b j) := ap_up h i b
  have e256 : ¬ (256 : Int32) = 0 := by decide
  refine And.intro vi ?_
  rw [cl]
  exact nm_r e1 ⟨e256, vi, nm_r e2 ⟨e256, vi, nm_r e3 ⟨vi, nm_r e4 ⟨vi, nm_r e5 p⟩⟩⟩⟩
/-- a spot that was found, put down on both sides -/
theorem ap_spot (I : ap_I W H P L B w h C) {i a b : Nat} {r : Int32} (u : ap_U P i) (ha : 1 ≤ a) (hb : 1 ≤ b) (hr : ap_B (fun x y => ap_G W H (ap_F C) x y a b) r) (hn : ¬ r = -3) :
    ∃ (P' : Nat → Bool) (L' B' w' h' : Nat → Nat), (∀ post : SX → Prop, post (ap_X W H P' L' B' w' h') → wpX_putDown post (ap_X W H P L B w h) (nI i) r (nI a) (nI b)) ∧
      (∀ post : Int32 → SY → Prop, (∀ D, ap_I W H P' L' B' w' h' D → post (nI i) (ap_Y W H P' L' B' w' h' D)) → wpY_lay post (ap_Y W H P L B w h C) r (nI a) (nI b)) := by
  have I2 := I.2.1
  have I4 := I.2.2.2.1
  rcases hr with ⟨x, y, hx, hy, g, e, _⟩ | ⟨e, _⟩
  · have g1 := g.1
    have g2 := g.2.1
    refine ⟨ap_u P i true, ap_u L i x, ap_u B i y, ap_u w i a, ap_u h i b, fun post p => ?_, fun post p => ?_⟩
    · rw [e]
      exact ap_xput post i x y a b u.1 hx hy p
    · rw [e]
      refine ap_ylay post x y a b ⟨i, u⟩ hx hy (by omega) (by omega) (fun j D uj pt => ?_)
      have ej := ap_U_u uj u
      subst ej
      exact p D (ap_put I u.1 u.2.1 ha hb g pt)
  · exact absurd e hn
theorem ap_pl (I : ap_I W H P L B w h C) {i a b : Nat} {r t : Int32} (u : ap_U P i) (ha : 1 ≤ a) (hb : 1 ≤ b) (hr : ap_B (fun x y => ap_G W H (ap_F C) x y a b) r) (ht : t = -3 ∨ ap_B (fun x y => ap_G W H (ap_F C) x y b a) t) :
    ∃ (q : Int32) (P' : Nat → Bool) (L' B' w' h' : Nat → Nat),
      (∀ post : Int32 → SX → Prop, post q (ap_X W H P' L' B' w' h') → wX_place_55 post (nI a) (nI b) (nI i) r t (nI W) (nI H) (fun i => ap_b (P i)) (fun i => nI (L i)) (fun i => nI (B i)) (fun i => nI (w i)) (fun i => nI (h i))) ∧
      (∀ post : Int32 → SY → Prop, (∀ D, ap_I W H P' L' B' w' h' D → post q (ap_Y W H P' L' B' w' h' D)) → wY_place_46 post (nI a) (nI b) r t (nI W) (nI H) C (fun i => nI (L i)) (fun i => nI (B i)) (fun i => nI (w i)) (fun i => nI (h i)) (fun i => ap_b (P i))) := by
  by_cases t3 : t = -3
  · by_cases r3 : r = -3
    · exact ⟨-3, P, L, B, w, h, fun post p => br_t r3 (br_t t3 p), fun post p => br_t r3 (br_t t3 (p C I))⟩
    · obtain ⟨P', L', B', w', h', sX, sY⟩ := ap_spot I u ha hb hr r3
      exact ⟨nI i, P', L', B', w', h', fun post p => br_f r3 (br_t t3 (br_t rfl (sX _ p))), fun post p => br_f r3 (br_t t3 (sY _ p))⟩
  · have ht' : ap_B (fun x y => ap_G W H (ap_F C) x y b a) t := by
      rcases ht with c | c
      · exact absurd c t3
      · exact c
    obtain ⟨P2, L2, B2, w2, h2, tX, tY⟩ := ap_spot I u hb ha ht' t3
    by_cases r3 : r = -3
    · exact ⟨nI i, P2, L2, B2, w2, h2, fun post p => br_t r3 (br_f t3 (br_f t3 (br_t r3 (br_f ap_10 (tX _ p))))), fun post p => br_t r3 (br_f t3 (br_f t3 (br_t r3 (tY _ p))))⟩
    · obtain ⟨P', L', B', w', h', sX, sY⟩ := ap_spot I u ha hb hr r3
      by_cases c : r ≤ t
      · exact ⟨nI i, P', L', B', w', h', fun post p => br_f r3 (br_f t3 (br_f r3 (br_t c (br_t rfl (sX _ p))))), fun post p => br_f r3 (br_f t3 (br_f r3 (br_t c (sY _ p))))⟩
      · exact ⟨nI i, P2, L2, B2, w2, h2, fun post p => br_f r3 (br_f t3 (br_f r3 (br_f c (br_f ap_10 (tX _ p))))), fun post p => br_f r3 (br_f t3 (br_f r3 (br_f c (tY _ p))))⟩
end
end
section
/-! arguments of any size: sides, numbers, the start, clearing -/
def ap_bad (v : Int32) : Prop := v < 1 ∨ (¬ v < 1 ∧ 16 < v)
theorem ap_side (v : Int32) : ap_bad v ∨ ∃ a : Nat, 1 ≤ a ∧ a ≤ 16 ∧ v = nI a := by
  by_cases h1 : v < 1
  · exact Or.inl (Or.inl h1)
  · by_cases h2 : 16 < v
    · exact Or.inl (Or.inr ⟨h1, h2⟩)
    · right
      rcases pk_ix v (n := 17) (by decide) with c | c | ⟨j, hj, e⟩
      · exact absurd (Int32.lt_trans c (by decide)) h1
      · refine absurd ?_ h2
        rcases nI_of (x := v) (Int32.not_lt.mpr (Int32.le_trans (by decide) c)) with ⟨j, hj, e⟩
        rw [e] at c ⊢
        have c' := (nI_leI (a := 17) (by omega) hj).mp c
        exact nI_lt (a := 16) (by omega) hj
      · refine ⟨j, ?_, by omega, e⟩
        rcases Nat.eq_zero_or_pos j with z | z
        · rw [e, z] at h1
          exact absurd (by decide) h1
        · exact z
theorem ap_xsb {post : Int32 → Prop} {v : Int32} (b : ap_bad v) (p : post 0) : wpX_isSide post v := by
  rcases b with c | ⟨c1, c2⟩
  · exact br_t c p
  · exact br_f c1 (br_t c2 p)
theorem ap_n1 {a : Nat} (h1 : 1 ≤ a) (h2 : a ≤ 16) : ¬ nI a < 1 := nI_nlt (b := 1) h1 (by omega)
theorem ap_n16 {a : Nat} (h1 : 1 ≤ a) (h2 : a ≤ 16) : ¬ 16 < nI a := nI_nlt (a := 16) h2 (by decide)
theorem ap_xsg {post : Int32 → Prop} {a : Nat} (h1 : 1 ≤ a) (h2 : a ≤ 16) (p : post 1) : wpX_isSide post (nI a) := br_f (ap_n1 h1 h2) (br_f (ap_n16 h1 h2) p)
section
variable {W H : Nat} {P : Nat → Bool} {L B w h : Nat → Nat} {C : Nat → Int32}
theorem ap_ysb1 {post : Int32 → Prop} {v v' : Int32} (b : ap_bad v) (p : post 0) : wpY_isSize post (ap_Y W H P L B w h C) v v' := by
  rcases b with c | ⟨c1, c2⟩
  · exact br_t c p
  · exact br_f c1 (br_t c2 p)
theorem ap_ysb2 {post : Int32 → Prop} {a : Nat} {v' : Int32} (h1 : 1 ≤ a) (h2 : a ≤ 16) (b : ap_bad v') (p : post 0) : wpY_isSize post (ap_Y W H P L B w h C) (nI a) v' := by
  rcases b with c | ⟨c1, c2⟩
  · exact br_f (ap_n1 h1 h2) (br_f (ap_n16 h1 h2) (br_t c p))
  · exact br_f (ap_n1 h1 h2) (br_f (ap_n16 h1 h2) (br_f c1 (br_t c2 p)))
theorem ap_ysg {post : Int32 → Prop} {a b : Nat} (h1 : 1 ≤ a) (h2 : a ≤ 16) (h3 : 1 ≤ b) (h4 : b ≤ 16) (p : post 1) : wpY_isSize post (ap_Y W H P L B w h C) (nI a) (nI b) :=
  br_f (ap_n1 h1 h2) (br_f (ap_n16 h1 h2) (br_f (ap_n1 h3 h4) (br_f (ap_n16 h3 h4) p)))
/-- a number: of no rectangle, or placed -/
theorem ap_id (P : Nat → Bool) (v : Int32) : ((v < 0 ∨ (¬ v < 0 ∧ 20 ≤ v)) ∨ ∃ j : Nat, j < 20 ∧ P j = false ∧ v = nI j) ∨ ∃ j : Nat, j < 20 ∧ P j = true ∧ v = nI j := by
  rcases pk_ix v (n := 20) (by decide) with c | c | ⟨j, hj, e⟩
  · exact Or.inl (Or.inl (Or.inl c))
  · by_cases d : v < 0
    · exact Or.inl (Or.inl (Or.inl d))
    · exact Or.inl (Or.inl (Or.inr ⟨d, c⟩))
  · by_cases d : P j = true
    · exact Or.inr ⟨j, hj, d, e⟩
    · exact Or.inl (Or.inr ⟨j, hj, ap_nf d, e⟩)
theorem ap_xid0 {post : Int32 → Prop} {v : Int32} (c : (v < 0 ∨ (¬ v < 0 ∧ 20 ≤ v)) ∨ ∃ j : Nat, j < 20 ∧ P j = false ∧ v = nI j) (p : post 0) : wpX_isPlaced post (ap_X W H P L B w h) v := by
  rcases c with (c | ⟨c1, c2⟩) | ⟨j, hj, f, e⟩
  · exact br_t c p
  · exact br_f c1 (br_t c2 p)
  · subst e
    have cl : (nI j).toNatClampNeg = j := nI_clamp (by omega)
    refine br_f (nI_pos (by omega)) (br_f (nI_ge (b := 20) hj (by decide)) ?_)
    rw [cl]
    exact ⟨vp_in_nI hj (by decide), br_t (ap_b_f f) p⟩
theorem ap_xid1 {post : Int32 → Prop} {j : Nat} (hj : j < 20) (t : P j = true) (p : post 1) : wpX_isPlaced post (ap_X W H P L B w h) (nI j) := by
  have cl : (nI j).toNatClampNeg = j := nI_clamp (by omega)
  refine br_f (nI_pos (by omega)) (br_f (nI_ge (b := 20) hj (by decide)) ?_)
  rw [cl]
  refine ⟨vp_in_nI hj (by decide), br_f ?_ p⟩
  show ¬ ap_b (P j) = 0
  rw [ap_b_t t]
  exact ap_10
theorem ap_yid0 {post : Int32 → Prop} {v : Int32} (c : (v < 0 ∨ (¬ v < 0 ∧ 20 ≤ v)) ∨ ∃ j : Nat, j < 20 ∧ P j = false ∧ v = nI j) (p : post 0) : wpY_isThere post (ap_Y W H P L B w h C) v := by
  rcases c with (c | ⟨c1, c2⟩) | ⟨j, hj, f, e⟩
  · exact br_t c p
  · exact br_f c1 (br_t c2 p)
  · subst e
    have cl : (nI j).toNatClampNeg = j := nI_clamp (by omega)
    refine br_f (nI_pos (by omega)) (br_f (nI_ge (b := 20) hj (by decide)) ?_)
    rw [cl]
    exact ⟨vp_in_nI hj (by decide), br_t (ap_b_f f) p⟩
theorem ap_yid1 {post : Int32 → Prop} {j : Nat} (hj : j < 20) (t : P j = true) (p : post 1) : wpY_isThere post (ap_Y W H P L B w h C) (nI j) := by
  have cl : (nI j).toNatClampNeg = j := nI_clamp (by omega)
  refine br_f (nI_pos (by omega)) (br_f (nI_ge (b := 20) hj (by decide)) ?_)
  rw [cl]
  refine ⟨vp_in_nI hj (by decide), br_f ?_ p⟩
  show ¬ ap_b (P j) = 0
  rw [ap_b_t t]
  exact ap_10
/-- the first i numbers taken away -/
def ap_z (P : Nat → Bool) (i : Nat) : Nat → Bool := fun j => if j < i then false else P j
theorem ap_z_0 (P : Nat → Bool) : ap_z P 0 = P := by
  funext j
  exact if_neg (Nat.not_lt_zero j)
theorem ap_z_s (P : Nat → Bool) (i : Nat) : upd (fun j => ap_b (ap_z P i j)) i (vp_nar .boolean 0) = fun j => ap_b (ap_z P (i + 1) j) := by
  have e := ap_upb (ap_z P i) i false
  refine Eq.trans e ?_
  funext j
  have e2 : ap_u (ap_z P i) i false j = ap_z P (i + 1) j := by
    unfold ap_z
    by_cases c : j = i
    · rw [c, ap_us, if_pos (by omega)]
    · rw [ap_un c]
      by_cases d : j < i
      · rw [if_pos d, if_pos (by omega)]
      · rw [if_neg d, if_neg (by omega)]
  rw [e2]
theorem ap_xclr (post : Int32 → SX → Prop) (c : Int32) (p : post c (ap_X W H (ap_z P 20) L B w h)) :
    ∃ n, wX_clear_7 post c (nI W) (nI H) n 0 (fun i => ap_b (P i)) (fun i => nI (L i)) (fun i => nI (B i)) (fun i => nI (w i)) (fun i => nI (h i)) := by
  have k := ap_loop (σ := Unit) (fun n i _ => wX_clear_7 post c (nI W) (nI H) n (nI i) (fun j => ap_b (ap_z P i j)) (fun i => nI (L i)) (fun i => nI (B i)) (fun i => nI (w i)) (fun i => nI (h i))) (fun _ _ => True) 20 (by
    intro n i _ _ hi nx
    refine ap_if (ap_le (a := 20)) (fun d => ?_) (fun d => ?_)
    · have e : i = 20 := by omega
      rw [e]
      exact p
    · rw [nI_clamp (by omega)]
      exact ⟨vp_in_nI (by omega) (by omega), nm_r (ap_z_s P i) (nm_r (nI_1 i) (nx () trivial (by omega)))⟩) 21 0 () (by omega) (by omega) trivial
  rw [ap_z_0] at k
  exact ⟨21, k⟩
theorem ap_yclr (post : Int32 → SY → Prop) (c : Int32) (p : ∀ D, (∀ k, k < 256 → D k = -1) → post c (ap_Y W H (ap_z P 20) L B w h D)) :
    ∃ n, wY_clear_7 post c (nI W) (nI H) n 0 C (fun i => nI (L i)) (fun i => nI (B i)) (fun i => nI (w i)) (fun i => nI (h i)) (fun i => ap_b (P i)) := by
  have k := ap_loop (σ := Unit) (fun n i _ => wY_clear_7 post c (nI W) (nI H) n (nI i) C (fun i => nI (L i)) (fun i => nI (B i)) (fun i => nI (w i)) (fun i => nI (h i)) (fun j => ap_b (ap_z P i j))) (fun _ _ => True) 20 (by
    intro n i _ _ hi nx
    refine ap_if (ap_le (a := 20)) (fun d => ?_) (fun d => ?_)
    · have e : i = 20 := by omega
      rw [e]
      refine Exists.intro 257 (ap_loop (σ := Nat → Int32) (fun n k D => wY_clear_28 post c (nI W) (nI H) n (nI k) D (fun i => nI (L i)) (fun i => nI (B i)) (fun i => nI (w i)) (fun i => nI (h i)) (fun j => ap_b (ap_z P 20 j))) (fun k D => ∀ j, j < k → D j = -1) 256 ?_ 257 0 C (by omega) (by omega) lt_0)
      intro n k D hI hk nk
      refine ap_if (ap_le (a := 256)) (fun d => p D (fun j hj => hI j (by omega))) (fun d => ?_)
      rw [nI_clamp (by omega)]
      refine ⟨vp_in_nI (by omega) (by omega), nm_e (nm_r (nI_1 k) (nk _ ?_ (by omega)))⟩
      refine lt_s (fun j hj => ?_) pk_us
      rw [pk_un (by omega)]
      exact hI j hj
    · rw [nI_clamp (by omega)]
      exact ⟨vp_in_nI (by omega) (by omega), nm_r (ap_z_s P i) (nm_r (nI_1 i) (nx () trivial (by omega)))⟩) 21 0 () (by omega) (by omega) trivial
  rw [ap_z_0] at k
  exact ⟨21, k⟩
end
theorem ap_clamp (v : Int32) : ∃ a : Nat, 4 ≤ a ∧ a ≤ 16 ∧ ∀ post : Int32 → Prop, post (nI a) → wpX_clampSheetSide post v := by
  by_cases h1 : 4 ≤ v
  · by_cases h2 : v ≤ 16
    · obtain ⟨j, hj, e⟩ := nI_of2 (x := v) (M := 16) (n := 16) (by decide) (Int32.not_lt.mpr (Int32.le_trans (by decide) h1)) h2
      refine ⟨j, ?_, hj, fun post p => br_t h1 (br_t h2 ?_)⟩
      · rw [e] at h1
        exact (nI_leI (a := 4) (by omega) (by omega)).mp h1
      · rw [e]
        exact p
    · exact ⟨16, by omega, by omega, fun post p => br_t h1 (br_f h2 p)⟩
  · exact ⟨4, by omega, by omega, fun post p => br_f h1 p⟩
theorem ap_yinit (post : SY → Prop) (a b : Nat) (p : ∀ D, (∀ k, k < 256 → D k = -1) → post (nI a, nI b, D, (fun _ => 0), (fun _ => 0), (fun _ => 0), (fun _ => 0), (fun _ => 0))) :
    ∃ n, wY_init_105 post (nI a) (nI b) n 0 (fun _ => 0) (fun _ => 0) (fun _ => 0) (fun _ => 0) (fun _ => 0) (fun _ => 0) := by
  refine ⟨257, ap_loop (σ := Nat → Int32) (fun n k D => wY_init_105 post (nI a) (nI b) n (nI k) D (fun _ => 0) (fun _ => 0) (fun _ => 0) (fun _ => 0) (fun _ => 0)) (fun k D => ∀ j, j < k → D j = -1) 256 ?_ 257 0 (fun _ => 0) (by omega) (by omega) lt_0⟩
  intro n k D hI hk nk
  refine ap_if (ap_le (a := 256)) (fun d => p D (fun j hj => hI j (by omega))) (fun d => ?_)
  rw [nI_clamp (by omega)]
  refine ⟨vp_in_nI (by omega) (by omega), nm_e (nm_r (nI_1 k) (nk _ ?_ (by omega)))⟩
  refine lt_s (fun j hj => ?_) pk_us
  rw [pk_un (by omega)]
  exact hI j hj
end
section
/-! the relation and the owed statements -/
/-- both sides hold the same rectangles; the reference's cells show which rectangle covers each -/
def i_Rel (k : Nat) (u : SX) (v : SY) : Prop := ∃ (W H : Nat) (P : Nat → Bool) (L B w h : Nat → Nat) (C : Nat → Int32), u = ap_X W H P L B w h ∧ v = ap_Y W H P L B w h C ∧ ap_I W H P L B w h C
theorem ap_rel {k : Nat} {W H : Nat} {P : Nat → Bool} {L B w h : Nat → Nat} {C : Nat → Int32} (I : ap_I W H P L B w h C) : i_Rel k (ap_X W H P L B w h) (ap_Y W H P L B w h C) := ⟨W, H, P, L, B, w, h, C, rfl, rfl, I⟩
theorem i_up {k : Nat} {u : SX} {v : SY} (h : i_Rel k u v) : i_Rel (k + 4) u v := h
theorem i_vc0 (k0 : Int32) (k1 : Int32) : wpX_init (fun u => wpY_init (fun v => i_Rel 2 u v) k0 k1) k0 k1 := by
  obtain ⟨a, a1, a2, ha⟩ := ap_clamp k0
  obtain ⟨b, b1, b2, hb⟩ := ap_clamp k1
  refine ha _ (hb _ ?_)
  refine ha (fun c => wY_init_75 _ k1 c 0 0 (fun _ => 0) (fun _ => 0) (fun _ => 0) (fun _ => 0) (fun _ => 0) (fun _ => 0)) (hb (fun r => ∃ n, wY_init_105 _ (nI a) r n 0 (fun _ => 0) (fun _ => 0) (fun _ => 0) (fun _ => 0) (fun _ => 0) (fun _ => 0)) (ap_yinit _ a b (fun D hD => ?_)))
  exact ap_rel (P := fun _ => false) (L := fun _ => 0) (B := fun _ => 0) (w := fun _ => 0) (h := fun _ => 0) (ap_new a1 a2 b1 b2 (fun _ _ => rfl) hD)
theorem i_vc_place {k : Nat} {u : SX} {v : SY} (I : i_Rel k u v) (hk : k + 4 ≤ 2050) (v1 : Int32) (v2 : Int32) (v3 : Int32) : wpX_place (fun r u' => wpY_place (fun r' v' => r' = r ∧ i_Rel (k + 4) u' v') v v1 v2 (lw_bz v3)) u v1 v2 (lw_bz v3) := by
  obtain ⟨W, H, P, L, B, w, h, C, rfl, rfl, I⟩ := I
  have I2 := I.2.1
  have I4 := I.2.2.2.1
  unfold wpX_place wpY_place
  dsimp only
  rcases ap_side v1 with b1 | ⟨a, a1, a2, rfl⟩
  · refine ap_xsb b1 (br_t rfl ?_)
    exact ap_ysb1 b1 (br_t rfl ⟨rfl, ap_rel I⟩)
  · refine ap_xsg a1 a2 (br_f ap_10 ?_)
    rcases ap_side v2 with b1 | ⟨b, b1, b2, rfl⟩
    · refine ap_xsb b1 (br_t rfl ?_)
      exact ap_ysb2 a1 a2 b1 (br_t rfl ⟨rfl, ap_rel I⟩)
    · refine ap_xsg b1 b2 (br_f ap_10 ?_)
      refine ap_xs _ (fun i ui => br_f (ap_m2 (by have := ui.1; omega)) ?_) (fun al => br_t rfl ?_)
      · have hn : ¬ nI (ap_n P 20) = 20 := by
          have f := ap_n_f ui.2.1 20 ui.1
          intro e
          have := (nI_eq (a := ap_n P 20) (b := 20) (by omega) (by omega)).mp e
          omega
        refine ap_xb I _ a b a1 b1 (by omega) (by omega) (fun r hr => ?_)
        by_cases z : lw_bz v3 = 0
        · obtain ⟨q, P', L', B', w', h', sX, sY⟩ := ap_pl I ui a1 b1 hr (Or.inl rfl)
          refine br_t z (sX _ ?_)
          refine ap_ysg a1 a2 b1 b2 (br_f ap_10 ?_)
          refine ap_yn _ (br_f hn ?_)
          refine ap_yb I2 I4 _ a b a1 b1 (by omega) (by omega) (fun r' hr' => ?_)
          have er := ap_B_u hr' hr
          subst er
          exact br_t z (sY _ (fun D ID => ⟨rfl, ap_rel ID⟩))
        · refine br_f z ?_
          refine ap_xb I _ b a b1 a1 (by omega) (by omega) (fun t ht => ?_)
          obtain ⟨q, P', L', B', w', h', sX, sY⟩ := ap_pl I ui a1 b1 hr (Or.inr ht)
          refine sX _ ?_
          refine ap_ysg a1 a2 b1 b2 (br_f ap_10 ?_)
          refine ap_yn _ (br_f hn ?_)
          refine ap_yb I2 I4 _ a b a1 b1 (by omega) (by omega) (fun r' hr' => ?_)
          have er := ap_B_u hr' hr
          subst er
          refine br_f z ?_
          refine ap_yb I2 I4 _ b a b1 a1 (by omega) (by omega) (fun t' ht' => ?_)
          have et := ap_B_u ht' ht
          subst et
          exact sY _ (fun D ID => ⟨rfl, ap_rel ID⟩)
      · refine ap_ysg a1 a2 b1 b2 (br_f ap_10 ?_)
        refine ap_yn _ (br_t ?_ ⟨rfl, ap_rel I⟩)
        rw [ap_n_t 20 al]
        rfl
theorem i_vc_remove {k : Nat} {u : SX} {v : SY} (I : i_Rel k u v) (hk : k + 4 ≤ 2050) (v1 : Int32) : wpX_remove (fun r u' => wpY_remove (fun r' v' => r' = r ∧ i_Rel (k + 4) u' v') v v1) u v1 := by
  obtain ⟨W, H, P, L, B, w, h, C, rfl, rfl, I⟩ := I
  have I2 := I.2.1
  have I4 := I.2.2.2.1
  unfold wpX_remove wpY_remove
  dsimp only
  rcases ap_id P v1 with c | ⟨j, hj, t, rfl⟩
  · refine ap_xid0 c (br_t rfl ?_)
    exact ap_yid0 c (br_t rfl ⟨rfl, ap_rel I⟩)
  · have cl : (nI j).toNatClampNeg = j := nI_clamp (by omega)
    have vi : vp_in (nI j) 20 := vp_in_nI hj (by decide)
    have s := I.2.2.2.2.1 j hj t
    have e1 : upd (fun i => ap_b (P i)) j (vp_nar .boolean 0) = fun i => ap_b (ap_u P j false i) := ap_upb P j false
    rw [cl]
    refine ap_xid1 hj t (br_f ap_10 ?_)
    refine ⟨vi, nm_r e1 ?_⟩
    refine ap_xn (P := ap_u P j false) _ ?_
    refine ap_yid1 hj t (br_f ap_10 ?_)
    refine ap_ypaint _ j (-1) hj (by omega) (by omega) (fun D pt => ?_)
    refine ⟨vi, nm_r e1 ?_⟩
    refine ap_yn (P := ap_u P j false) _ ⟨rfl, ?_⟩
    exact ap_rel (ap_rmv I hj t pt)
theorem i_vc_look {k : Nat} {u : SX} {v : SY} (I : i_Rel k u v) (hk : k + 4 ≤ 2050) (v1 : Int32) (v2 : Int32) : wpX_look (fun r => wpY_look (fun r' => r' = r ∧ i_Rel (k + 4) u v) v v1 v2) u v1 v2 := by
  obtain ⟨W, H, P, L, B, w, h, C, rfl, rfl, I⟩ := I
  unfold wpX_look wpY_look
  dsimp only
  rcases ap_id P v1 with c | ⟨j, hj, t, rfl⟩
  · refine ap_xid0 c (br_t rfl ?_)
    exact ap_yid0 c (br_t rfl ⟨rfl, ap_rel I⟩)
  · have vi : vp_in (nI j) 20 := vp_in_nI hj (by decide)
    refine ap_xid1 hj t (br_f ap_10 ?_)
    have ne : ∀ (x : Int32), (v2 < 0 ∨ 3 < v2) → ¬ (x < 0 ∨ 3 < x) → ¬ v2 = x := by
      intro x c d e
      rw [e] at c
      exact d c
    by_cases c0 : v2 < 0
    · refine br_t c0 ?_
      exact ap_yid1 hj t (br_f ap_10 (br_f (ne 0 (Or.inl c0) (by decide)) (br_f (ne 1 (Or.inl c0) (by decide)) (br_f (ne 2 (Or.inl c0) (by decide)) (br_f (ne 3 (Or.inl c0) (by decide)) ⟨rfl, ap_rel I⟩)))))
    · refine br_f c0 ?_
      by_cases c3 : 3 < v2
      · refine br_t c3 ?_
        exact ap_yid1 hj t (br_f ap_10 (br_f (ne 0 (Or.inr c3) (by decide)) (br_f (ne 1 (Or.inr c3) (by decide)) (br_f (ne 2 (Or.inr c3) (by decide)) (br_f (ne 3 (Or.inr c3) (by decide)) ⟨rfl, ap_rel I⟩)))))
      · refine br_f c3 ?_
        by_cases d0 : v2 = 0
        · refine br_t d0 ⟨vi, ?_⟩
          exact ap_yid1 hj t (br_f ap_10 (br_t d0 ⟨vi, rfl, ap_rel I⟩))
        · refine br_f d0 ?_
          by_cases d1 : v2 = 1
          · refine br_t d1 ⟨vi, ?_⟩
            exact ap_yid1 hj t (br_f ap_10 (br_f d0 (br_t d1 ⟨vi, rfl, ap_rel I⟩)))
          · refine br_f d1 ?_
            by_cases d2 : v2 = 2
            · refine br_t d2 ⟨vi, ?_⟩
              exact ap_yid1 hj t (br_f ap_10 (br_f d0 (br_f d1 (br_t d2 ⟨vi, rfl, ap_rel I⟩))))
            · refine br_f d2 ?_
              by_cases d3 : v2 = 3
              · refine br_t d3 ⟨vi, ?_⟩
                exact ap_yid1 hj t (br_f ap_10 (br_f d0 (br_f d1 (br_f d2 (br_t d3 ⟨vi, rfl, ap_rel I⟩)))))
              · exact br_f d3 trivial
theorem i_vc_owner {k : Nat} {u : SX} {v : SY} (I : i_Rel k u v) (hk : k + 4 ≤ 2050) (v1 : Int32) (v2 : Int32) : wpX_owner (fun r => wpY_owner (fun r' => r' = r ∧ i_Rel (k + 4) u v) v v1 v2) u v1 v2 := by
  obtain ⟨W, H, P, L, B, w, h, C, rfl, rfl, I⟩ := I
  have I2 := I.2.1
  have I4 := I.2.2.2.1
  by_cases c1 : v1 < 0
  · exact br_t c1 (br_t c1 ⟨rfl, ap_rel I⟩)
  · by_cases c2 : nI W ≤ v1
    · exact br_f c1 (br_t c2 (br_f c1 (br_t c2 ⟨rfl, ap_rel I⟩)))
    · by_cases c3 : v2 < 0
      · exact br_f c1 (br_f c2 (br_t c3 (br_f c1 (br_f c2 (br_t c3 ⟨rfl, ap_rel I⟩)))))
      · by_cases c4 : v2 < nI H
        · obtain ⟨x, hx, rfl⟩ := nI_of c1
          obtain ⟨y, hy, rfl⟩ := nI_of c3
          have hx' : x < W := by
            rw [nI_leI (by omega) hx] at c2
            omega
          have hy' : y < H := (nI_ltI hy (by omega)).mp c4
          refine br_f c1 (br_f c2 (br_f c3 (br_t c4 ?_)))
          refine ap_xm I _ x y 1 1 (by omega) (by omega) (by omega) (by omega) (fun i hi o => ?_) (fun q => ?_)
          · refine br_f c1 (br_f c2 (br_f c3 (br_t c4 ?_)))
            rw [ap_16, nI_clamp (by omega)]
            obtain ⟨o1, o2, o3, o4, o5⟩ := o
            have e := I.2.2.2.2.2.1 i x y hi ⟨o1, by omega, by omega, by omega, by omega⟩
            exact ⟨vp_in_nI (by omega) (by omega), nm_r e (br_f (ap_m1 (by omega)) ⟨rfl, ap_rel I⟩)⟩
          · refine br_f c1 (br_f c2 (br_f c3 (br_t c4 ?_)))
            rw [ap_16, nI_clamp (by omega)]
            have e := I.2.2.2.2.2.2 x y (by omega) (by omega) (fun i hi o => by
              obtain ⟨o1, o2, o3, o4, o5⟩ := o
              exact q i hi ⟨o1, by omega, by omega, by omega, by omega⟩)
            exact ⟨vp_in_nI (by omega) (by omega), nm_r e (br_t rfl ⟨rfl, ap_rel I⟩)⟩
        · exact br_f c1 (br_f c2 (br_f c3 (br_f c4 (br_f c1 (br_f c2 (br_f c3 (br_f c4 ⟨rfl, ap_rel I⟩)))))))
theorem i_vc_freeCells {k : Nat} {u : SX} {v : SY} (I : i_Rel k u v) (hk : k + 4 ≤ 2050) : wpX_freeCells (fun r => wpY_freeCells (fun r' => r' = r ∧ i_Rel (k + 4) u v) v) u := by
  obtain ⟨W, H, P, L, B, w, h, C, rfl, rfl, I⟩ := I
  exact ap_xf I _ (ap_yf I.2.1 I.2.2.2.1 _ ⟨rfl, ap_rel I⟩)
theorem i_vc_holes {k : Nat} {u : SX} {v : SY} (I : i_Rel k u v) (hk : k + 4 ≤ 2050) : wpX_holes (fun r => wpY_holes (fun r' => r' = r ∧ i_Rel (k + 4) u v) v) u := by
  obtain ⟨W, H, P, L, B, w, h, C, rfl, rfl, I⟩ := I
  exact ap_xholes I _ (ap_yholes I.2.1 I.2.2.2.1 _ ⟨congrArg nI (ap_holes I.2.1 I.2.2.2.1), ap_rel I⟩)
theorem i_vc_largestHole {k : Nat} {u : SX} {v : SY} (I : i_Rel k u v) (hk : k + 4 ≤ 2050) : wpX_largestHole (fun r => wpY_largestHole (fun r' => r' = r ∧ i_Rel (k + 4) u v) v) u := by
  obtain ⟨W, H, P, L, B, w, h, C, rfl, rfl, I⟩ := I
  exact ap_xlh I _ (fun r _ hr => ap_ylh I.2.1 I.2.2.2.1 _ (fun r' _ hr' => ⟨congrArg nI (ap_LM_u hr' (ap_L_M hr)), ap_rel I⟩))
theorem i_vc_bestPlace {k : Nat} {u : SX} {v : SY} (I : i_Rel k u v) (hk : k + 4 ≤ 2050) (v1 : Int32) (v2 : Int32) : wpX_bestPlace (fun r => wpY_bestPlace (fun r' => r' = r ∧ i_Rel (k + 4) u v) v v1 v2) u v1 v2 := by
  obtain ⟨W, H, P, L, B, w, h, C, rfl, rfl, I⟩ := I
  unfold wpX_bestPlace wpY_bestPlace
  dsimp only
  rcases ap_side v1 with b1 | ⟨a, a1, a2, rfl⟩
  · refine ap_xsb b1 (br_t rfl ?_)
    exact ap_ysb1 b1 (br_t rfl ⟨rfl, ap_rel I⟩)
  · refine ap_xsg a1 a2 (br_f ap_10 ?_)
    rcases ap_side v2 with b1 | ⟨b, b1, b2, rfl⟩
    · refine ap_xsb b1 (br_t rfl ?_)
      exact ap_ysb2 a1 a2 b1 (br_t rfl ⟨rfl, ap_rel I⟩)
    · refine ap_xsg b1 b2 (br_f ap_10 ?_)
      refine ap_xb I _ a b a1 b1 (by omega) (by omega) (fun r hr => ?_)
      refine ap_ysg a1 a2 b1 b2 (br_f ap_10 ?_)
      exact ap_yb I.2.1 I.2.2.2.1 _ a b a1 b1 (by omega) (by omega) (fun r' hr' => ⟨ap_B_u hr' hr, ap_rel I⟩)
theorem i_vc_fitting {k : Nat} {u : SX} {v : SY} (I : i_Rel k u v) (hk : k + 4 ≤ 2050) : wpX_fitting (fun r => wpY_fitting (fun r' => r' = r ∧ i_Rel (k + 4) u v) v) u := by
  obtain ⟨W, H, P, L, B, w, h, C, rfl, rfl, I⟩ := I
  exact ap_xfit I _ (ap_yfit I.2.1 I.2.2.2.1 _ ⟨congrArg nI (ap_fit I.2.1).symm, ap_rel I⟩)
theorem i_vc_clear {k : Nat} {u : SX} {v : SY} (I : i_Rel k u v) (hk : k + 4 ≤ 2050) : wpX_clear (fun r u' => wpY_clear (fun r' v' => r' = r ∧ i_Rel (k + 4) u' v') v) u := by
  obtain ⟨W, H, P, L, B, w, h, C, rfl, rfl, I⟩ := I
  refine ap_xn _ (ap_xclr _ _ (ap_yn _ (ap_yclr _ _ (fun D hD => ⟨rfl, ap_rel (ap_new I.1 I.2.1 I.2.2.1 I.2.2.2.1 (fun i hi => if_pos hi) hD)⟩))))
end
