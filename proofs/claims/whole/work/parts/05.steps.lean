/-! what each scan knows at its head, and how it goes on -/
def ap_N (g : Nat → Nat → Prop) (y x : Nat) : Prop := ∀ x' y', g x' y' → y < y' ∨ (y = y' ∧ x ≤ x')
theorem ap_N_0 {g : Nat → Nat → Prop} : ap_N g 0 0 := by
  intro x' y' _
  omega
theorem ap_N_s {g : Nat → Nat → Prop} {y x : Nat} (h : ap_N g y x) (n : ¬ g x y) : ap_N g y (x + 1) := by
  intro x' y' q
  have h1 := h x' y' q
  by_cases e : x' = x ∧ y' = y
  · rw [e.1, e.2] at q
    exact absurd q n
  · omega
theorem ap_N_r {g : Nat → Nat → Prop} {y x : Nat} (h : ap_N g y x) (n : ∀ x', g x' y → x' < x) : ap_N g (y + 1) 0 := by
  intro x' y' q
  have h1 := h x' y' q
  by_cases e : y' = y
  · have q' := q
    rw [e] at q'
    have := n x' q'
    omega
  · omega
theorem ap_N_e {g : Nat → Nat → Prop} {y x : Nat} (h : ap_N g y x) (n : ∀ x' y', g x' y' → y' < y) : ap_B g (-3) := by
  refine Or.inr ⟨rfl, fun x' y' q => ?_⟩
  have h1 := h x' y' q
  have h2 := n x' y' q
  omega
theorem ap_N_g {g : Nat → Nat → Prop} {y x : Nat} (h : ap_N g y x) (q : g x y) (hx : x < 16) (hy : y < 16) : ap_B g (nI (256 * y + x)) :=
  Or.inl ⟨x, y, hx, hy, q, rfl, h⟩
def ap_Q (F : Nat → Nat → Prop) (x a y j i : Nat) : Prop := ∀ c r, x ≤ c → c < x + a → y ≤ r → (r < j ∨ (r = j ∧ c < i)) → F c r
theorem ap_Q_0 {F : Nat → Nat → Prop} {x a y : Nat} : ap_Q F x a y y x := by
  intro c r h1 h2 h3 h4
  omega
theorem ap_Q_s {F : Nat → Nat → Prop} {x a y j i : Nat} (h : ap_Q F x a y j i) (f : F i j) : ap_Q F x a y j (i + 1) := by
  intro c r h1 h2 h3 h4
  by_cases e : c = i ∧ r = j
  · rw [e.1, e.2]; exact f
  · exact h c r h1 h2 h3 (by omega)
theorem ap_Q_r {F : Nat → Nat → Prop} {x a y j : Nat} (h : ap_Q F x a y j (x + a)) : ap_Q F x a y (j + 1) x := by
  intro c r h1 h2 h3 h4
  exact h c r h1 h2 h3 (by omega)
theorem ap_Q_e {W H : Nat} {F : Nat → Nat → Prop} {x a y b : Nat} (h : ap_Q F x a y (y + b) x) (h1 : x + a ≤ W) (h2 : y + b ≤ H) : ap_G W H F x y a b :=
  ⟨h1, h2, fun i j a1 a2 a3 a4 => h i j a1 a2 a3 (Or.inl a4)⟩
def ap_R (C D : Nat → Int32) (x a y : Nat) (v : Int32) (j i : Nat) : Prop :=
  ∀ c r, c < 16 → r < 16 → D (16 * r + c) = (if x ≤ c ∧ c < x + a ∧ y ≤ r ∧ (r < j ∨ (r = j ∧ c < i)) then v else C (16 * r + c))
theorem ap_R_0 {C : Nat → Int32} {x a y : Nat} {v : Int32} : ap_R C C x a y v y x := by
  intro c r _ _
  rw [if_neg (by omega)]
theorem ap_R_s {C D : Nat → Int32} {x a y : Nat} {v : Int32} {j i : Nat} (h : ap_R C D x a y v j i) (h1 : x ≤ i) (h2 : i < x + a) (h3 : y ≤ j) (h4 : i < 16) : ap_R C (upd D (16 * j + i) v) x a y v j (i + 1) := by
  intro c r hc hr
  by_cases e : c = i ∧ r = j
  · obtain ⟨rfl, rfl⟩ := e
    rw [pk_us, if_pos (by omega)]
  · rw [pk_un (by omega), h c r hc hr]
    by_cases q : x ≤ c ∧ c < x + a ∧ y ≤ r ∧ (r < j ∨ (r = j ∧ c < i))
    · rw [if_pos q, if_pos (by omega)]
    · rw [if_neg q, if_neg (by omega)]
theorem ap_R_r {C D : Nat → Int32} {x a y : Nat} {v : Int32} {j : Nat} (h : ap_R C D x a y v j (x + a)) : ap_R C D x a y v (j + 1) x := by
  intro c r hc hr
  rw [h c r hc hr]
  by_cases q : x ≤ c ∧ c < x + a ∧ y ≤ r ∧ (r < j ∨ (r = j ∧ c < x + a))
  · rw [if_pos q, if_pos (by omega)]
  · rw [if_neg q, if_neg (by omega)]
theorem ap_R_e {C D : Nat → Int32} {x a y b : Nat} {v : Int32} (h : ap_R C D x a y v (y + b) x) (h1 : x + a ≤ 16) (h2 : y + b ≤ 16) : ap_pt C D x y a b v := by
  refine ⟨fun i j a1 a2 a3 a4 => ?_, fun i j a1 a2 a3 => ?_⟩
  · rw [h i j (by omega) (by omega), if_pos (by omega)]
  · rw [h i j a1 a2, if_neg (by omega)]
/-- the smallest unused number -/
def ap_U (P : Nat → Bool) (i : Nat) : Prop := i < 20 ∧ P i = false ∧ ∀ j, j < i → P j = true
theorem ap_U_u {P : Nat → Bool} {i j : Nat} (a : ap_U P i) (b : ap_U P j) : i = j := by
  obtain ⟨a1, a2, a3⟩ := a
  obtain ⟨b1, b2, b3⟩ := b
  rcases Nat.lt_trichotomy i j with c | c | c
  · have := b3 i c
    rw [a2] at this
    exact Bool.noConfusion this
  · exact c
  · have := a3 j c
    rw [b2] at this
    exact Bool.noConfusion this
/-- how many are placed among the first n -/
def ap_n (P : Nat → Bool) (n : Nat) : Nat := ap_S (fun i => if P i = true then 1 else 0) n
theorem ap_n_l (P : Nat → Bool) (n : Nat) : ap_n P n ≤ n := by
  have := ap_S_l (f := fun i => if P i = true then 1 else 0) (c := 1) n (fun i _ => by
    show (if P i = true then 1 else 0) ≤ 1
    split <;> omega)
  unfold ap_n
  omega
theorem ap_n_t {P : Nat → Bool} (n : Nat) (h : ∀ i, i < n → P i = true) : ap_n P n = n := by
  unfold ap_n
  rw [ap_S_c (g := fun _ => 1) n (fun i hi => if_pos (h i hi)), ap_S_1s, Nat.one_mul]
theorem ap_n_f {P : Nat → Bool} {k : Nat} (hk : P k = false) (n : Nat) : k < n → ap_n P n < n := by
  induction n with
  | zero => intro h; omega
  | succ n ih =>
    intro h
    have e : ap_n P (n + 1) = ap_n P n + (if P n = true then 1 else 0) := rfl
    by_cases c : k = n
    · rw [c] at hk
      rw [e, if_neg (by rw [hk]; exact Bool.noConfusion)]
      have := ap_n_l P n
      omega
    · have h1 := ih (by omega)
      have h2 : (if P n = true then 1 else 0) ≤ 1 := by split <;> omega
      omega
theorem ap_n_s (P : Nat → Bool) (n : Nat) : ap_n P (n + 1) = ap_n P n + (if P n = true then 1 else 0) := rfl
/-- the greatest area among those seen -/
def ap_l (W H : Nat) (F : Nat → Nat → Prop) (Q : Nat → Nat → Nat → Nat → Prop) (r : Nat) : Prop :=
  (∀ x y w h, 1 ≤ w → 1 ≤ h → Q x y w h → ap_G W H F x y w h → w * h ≤ r) ∧
  (r = 0 ∨ ∃ x y w h, 1 ≤ w ∧ 1 ≤ h ∧ ap_G W H F x y w h ∧ w * h = r)
theorem ap_l_0 {W H : Nat} {F : Nat → Nat → Prop} {Q : Nat → Nat → Nat → Nat → Prop} (h : ∀ x y w h, Q x y w h → ¬ ap_G W H F x y w h) : ap_l W H F Q 0 :=
  ⟨fun x y w h' _ _ q g => absurd g (h x y w h' q), Or.inl rfl⟩
theorem ap_l_m {W H : Nat} {F : Nat → Nat → Prop} {Q Q' : Nat → Nat → Nat → Nat → Prop} {r : Nat} (a : ap_l W H F Q r) (h : ∀ x y w h, 1 ≤ w → 1 ≤ h → Q' x y w h → ap_G W H F x y w h → Q x y w h ∨ w * h ≤ r) : ap_l W H F Q' r := by
  refine ⟨fun x y w h' h1 h2 q g => ?_, a.2⟩
  rcases h x y w h' h1 h2 q g with c | c
  · exact a.1 x y w h' h1 h2 c g
  · exact c
theorem ap_l_j {W H : Nat} {F : Nat → Nat → Prop} {Q Q' Q'' : Nat → Nat → Nat → Nat → Prop} {r s t : Nat} (a : ap_l W H F Q r) (b : ap_l W H F Q' s) (hr : r ≤ t) (hs : s ≤ t) (ht : t = r ∨ t = s) (h : ∀ x y w h, 1 ≤ w → 1 ≤ h → Q'' x y w h → ap_G W H F x y w h → Q x y w h ∨ Q' x y w h) : ap_l W H F Q'' t := by
  refine ⟨fun x y w h' h1 h2 q g => ?_, ?_⟩
  · rcases h x y w h' h1 h2 q g with c | c
    · exact Nat.le_trans (a.1 x y w h' h1 h2 c g) hr
    · exact Nat.le_trans (b.1 x y w h' h1 h2 c g) hs
  · rcases ht with e | e
    · rw [e]; exact a.2
    · rw [e]; exact b.2
theorem ap_l_L {W H : Nat} {F : Nat → Nat → Prop} {Q : Nat → Nat → Nat → Nat → Prop} {r : Nat} (a : ap_l W H F Q r) (h : ∀ x y w h, 1 ≤ w → 1 ≤ h → ap_G W H F x y w h → Q x y w h) : ap_L W H F r := by
  refine ⟨fun x y w h' g => ?_, a.2⟩
  by_cases e : 1 ≤ w
  · by_cases e' : 1 ≤ h'
    · exact a.1 x y w h' e e' (h x y w h' e e' g) g
    · have : h' = 0 := by omega
      rw [this, Nat.mul_zero]; exact Nat.zero_le _
  · have : w = 0 := by omega
    rw [this, Nat.zero_mul]; exact Nat.zero_le _
/-- one row's widest rectangle -/
theorem ap_l_w {W H : Nat} {F : Nat → Nat → Prop} {x y h w : Nat} (hh : 1 ≤ h) (a : ap_w W H F x y h w) : ap_l W H F (fun x' y' _ h' => x' = x ∧ y' = y ∧ h' = h) (h * w) := by
  refine ⟨fun x' y' w' h' h1 h2 q g => ?_, ?_⟩
  · obtain ⟨rfl, rfl, rfl⟩ := q
    have : w' ≤ w := by
      by_cases e : w' ≤ w
      · exact e
      · exact absurd (ap_G_s (x' := x') (y' := y') (w' := w + 1) (h' := h') g (by omega) (by omega) (by omega) (by omega)) a.2
    rw [Nat.mul_comm h' w]
    exact Nat.mul_le_mul_right h' this
  · by_cases e : w = 0
    · left; rw [e, Nat.mul_zero]
    · right
      rcases a.1 with c | c
      · exact absurd c e
      · exact ⟨x, y, w, h, by omega, hh, c, Nat.mul_comm w h⟩
theorem ap_16 (j i : Nat) : (16 : Int32) * nI j + nI i = nI (16 * j + i) := by
  rw [show (16 : Int32) = nI 16 from rfl, pk_mul, nI_add]
theorem ap_256 (j i : Nat) : (256 : Int32) * nI j + nI i = nI (256 * j + i) := by
  rw [show (256 : Int32) = nI 256 from rfl, pk_mul, nI_add]
def ap_b (b : Bool) : Int32 := if b = true then 1 else 0
theorem ap_b_t {b : Bool} (h : b = true) : ap_b b = 1 := by rw [h]; rfl
theorem ap_b_f {b : Bool} (h : b = false) : ap_b b = 0 := by rw [h]; rfl
theorem ap_b_0 {b : Bool} : ap_b b = 0 ↔ b = false := by cases b <;> decide
theorem ap_nt {b : Bool} (h : ¬ b = false) : b = true := by cases b; exact absurd rfl h; rfl
theorem ap_nf {b : Bool} (h : ¬ b = true) : b = false := by cases b; rfl; exact absurd rfl h
/-- arrays of naturals and of booleans, stored into -/
theorem ap_up (f : Nat → Nat) (k v : Nat) : upd (fun i => nI (f i)) k (nI v) = fun i => nI (ap_u f k v i) := by
  funext j
  by_cases e : j = k
  · rw [e, pk_us, ap_us]
  · rw [pk_un e, ap_un e]
theorem ap_upb (f : Nat → Bool) (k : Nat) (v : Bool) : upd (fun i => ap_b (f i)) k (ap_b v) = fun i => ap_b (ap_u f k v i) := by
  funext j
  by_cases e : j = k
  · rw [e, pk_us, ap_us]
  · rw [pk_un e, ap_un e]
