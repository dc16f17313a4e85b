/-! rectangles of free cells: good places, holes, the greatest, what fits -/
def ap_G (W H : Nat) (F : Nat → Nat → Prop) (x y w h : Nat) : Prop :=
  x + w ≤ W ∧ y + h ≤ H ∧ ∀ i j, x ≤ i → i < x + w → y ≤ j → j < y + h → F i j
def ap_M (W H : Nat) (F : Nat → Nat → Prop) (x y w h : Nat) : Prop :=
  1 ≤ w ∧ 1 ≤ h ∧ ap_G W H F x y w h ∧ ¬ ap_G W H F x y (w + 1) h ∧ ¬ ap_G W H F x y w (h + 1) ∧
  (∀ x', x = x' + 1 → ¬ ap_G W H F x' y (w + 1) h) ∧ (∀ y', y = y' + 1 → ¬ ap_G W H F x y' w (h + 1))
def ap_w (W H : Nat) (F : Nat → Nat → Prop) (x y h w : Nat) : Prop :=
  (w = 0 ∨ ap_G W H F x y w h) ∧ ¬ ap_G W H F x y (w + 1) h
def ap_t (W H : Nat) (F : Nat → Nat → Prop) (x y w h : Nat) : Prop :=
  (h = 0 ∨ ap_G W H F x y w h) ∧ ¬ ap_G W H F x y w (h + 1)
section
variable {W H : Nat} {F : Nat → Nat → Prop}
theorem ap_G_s {x y w h x' y' w' h' : Nat} (g : ap_G W H F x y w h) (a : x ≤ x') (b : x' + w' ≤ x + w) (c : y ≤ y') (d : y' + h' ≤ y + h) : ap_G W H F x' y' w' h' := by
  obtain ⟨g1, g2, g3⟩ := g
  exact ⟨by omega, by omega, fun i j h1 h2 h3 h4 => g3 i j (by omega) (by omega) (by omega) (by omega)⟩
theorem ap_G_u {x y w h k : Nat} (g : ap_G W H F x y w h) (g' : ap_G W H F x (y + h) w k) : ap_G W H F x y w (h + k) := by
  obtain ⟨g1, g2, g3⟩ := g
  obtain ⟨g4, g5, g6⟩ := g'
  refine ⟨g1, by omega, fun i j h1 h2 h3 h4 => ?_⟩
  by_cases e : j < y + h
  · exact g3 i j h1 h2 h3 e
  · exact g6 i j h1 h2 (by omega) (by omega)
theorem ap_G_r {x y w h k : Nat} (g : ap_G W H F x y w h) (g' : ap_G W H F (x + w) y k h) : ap_G W H F x y (w + k) h := by
  obtain ⟨g1, g2, g3⟩ := g
  obtain ⟨g4, g5, g6⟩ := g'
  refine ⟨by omega, g2, fun i j h1 h2 h3 h4 => ?_⟩
  by_cases e : i < x + w
  · exact g3 i j h1 e h3 h4
  · exact g6 i j (by omega) (by omega) h3 h4
theorem ap_w_u {x y h w w' : Nat} (a : ap_w W H F x y h w) (b : ap_w W H F x y h w') : w = w' := by
  obtain ⟨a1, a2⟩ := a
  obtain ⟨b1, b2⟩ := b
  rcases Nat.lt_trichotomy w w' with c | c | c
  · rcases b1 with b1 | b1
    · omega
    · exact absurd (ap_G_s (x' := x) (y' := y) (w' := w + 1) (h' := h) b1 (by omega) (by omega) (by omega) (by omega)) a2
  · exact c
  · rcases a1 with a1 | a1
    · omega
    · exact absurd (ap_G_s (x' := x) (y' := y) (w' := w' + 1) (h' := h) a1 (by omega) (by omega) (by omega) (by omega)) b2
theorem ap_t_u {x y h h' w : Nat} (a : ap_t W H F x y w h) (b : ap_t W H F x y w h') : h = h' := by
  obtain ⟨a1, a2⟩ := a
  obtain ⟨b1, b2⟩ := b
  rcases Nat.lt_trichotomy h h' with c | c | c
  · rcases b1 with b1 | b1
    · omega
    · exact absurd (ap_G_s (x' := x) (y' := y) (w' := w) (h' := h + 1) b1 (by omega) (by omega) (by omega) (by omega)) a2
  · exact c
  · rcases a1 with a1 | a1
    · omega
    · exact absurd (ap_G_s (x' := x) (y' := y) (w' := w) (h' := h' + 1) a1 (by omega) (by omega) (by omega) (by omega)) b2
theorem ap_M_w {x y w h : Nat} (m : ap_M W H F x y w h) : ap_w W H F x y h w := ⟨Or.inr m.2.2.1, m.2.2.2.1⟩
theorem ap_M_t {x y w h : Nat} (m : ap_M W H F x y w h) : ap_t W H F x y w h := ⟨Or.inr m.2.2.1, m.2.2.2.2.1⟩
theorem ap_hol (x y : Nat) : ap_S (fun k => ap_i (∃ w, ap_M W H F x y w (k + 1))) (H - y) = ap_S (fun k => ap_i (∃ h, ap_M W H F x y (k + 1) h)) W := by
  have e1 : ap_S (fun k => ap_i (∃ w, ap_M W H F x y w (k + 1))) (H - y) = ap_S (fun k => ap_i (∃ w, ap_M W H F x y w (k + 1))) H := by
    refine (ap_S_x H (Nat.sub_le _ _) (fun i a b => ap_i_f ?_)).symm
    intro ⟨w, q⟩
    have := q.2.2.1.2.1
    omega
  have e2 : ∀ k, k < H → ap_i (∃ w, ap_M W H F x y w (k + 1)) = ap_S (fun j => ap_i (ap_M W H F x y (j + 1) (k + 1))) W := by
    intro k _
    rw [ap_S_e (p := fun j => ap_M W H F x y (j + 1) (k + 1)) W (fun i j _ _ a b => by have := ap_w_u (ap_M_w a) (ap_M_w b); omega)]
    refine ap_i_c ⟨?_, ?_⟩
    · intro ⟨w, q⟩
      have q1 := q.1
      have q2 := q.2.2.1.1
      have q3 : w - 1 + 1 = w := by omega
      exact ⟨w - 1, by omega, by rw [q3]; exact q⟩
    · intro ⟨j, _, q⟩
      exact ⟨j + 1, q⟩
  have e3 : ∀ j, j < W → ap_i (∃ h, ap_M W H F x y (j + 1) h) = ap_S (fun k => ap_i (ap_M W H F x y (j + 1) (k + 1))) H := by
    intro k _
    rw [ap_S_e (p := fun j => ap_M W H F x y (k + 1) (j + 1)) H (fun i j _ _ a b => by have := ap_t_u (ap_M_t a) (ap_M_t b); omega)]
    refine ap_i_c ⟨?_, ?_⟩
    · intro ⟨w, q⟩
      have q1 := q.2.1
      have q2 := q.2.2.1.2.1
      have q3 : w - 1 + 1 = w := by omega
      exact ⟨w - 1, by omega, by rw [q3]; exact q⟩
    · intro ⟨j, _, q⟩
      exact ⟨j + 1, q⟩
  rw [e1, ap_S_c H e2, ap_S_c W e3]
  exact ap_S_sw (fun k j => ap_i (ap_M W H F x y (j + 1) (k + 1))) W H
theorem ap_box (t : Nat → Nat → Nat) (hW : W ≤ 16) (hH : H ≤ 16) (hz : ∀ x y, (W ≤ x ∨ H ≤ y) → t x y = 0) : ap_S (fun k => t (k % 16) (k / 16)) 256 = ap_S (fun y => ap_S (fun x => t x y) W) H := by
  have e := ap_S_16 (fun k => t (k % 16) (k / 16)) 16
  have e0 : 16 * 16 = 256 := by decide
  rw [e0] at e
  rw [e]
  have e1 : ∀ y, y < 16 → ap_S (fun x => t ((16 * y + x) % 16) ((16 * y + x) / 16)) 16 = ap_S (fun x => t x y) W := by
    intro y _
    have e2 : ap_S (fun x => t ((16 * y + x) % 16) ((16 * y + x) / 16)) 16 = ap_S (fun x => t x y) 16 := by
      refine ap_S_c 16 (fun x hx => ?_)
      have a : (16 * y + x) % 16 = x := by omega
      have b : (16 * y + x) / 16 = y := by omega
      rw [a, b]
    rw [e2]
    exact ap_S_x 16 hW (fun i a _ => hz i y (Or.inl a))
  rw [ap_S_c 16 e1]
  exact ap_S_x 16 hH (fun i a _ => ap_S_z W (fun j _ => hz j i (Or.inr a)))
noncomputable def ap_nh (W H : Nat) (F : Nat → Nat → Prop) : Nat → Nat := fun k => ap_S (fun j => ap_i (∃ h, ap_M W H F (k % 16) (k / 16) (j + 1) h)) W
theorem ap_holes (hW : W ≤ 16) (hH : H ≤ 16) : ap_S (ap_nh W H F) 256 = ap_S (fun y => ap_S (fun x => ap_S (fun k => ap_i (∃ w, ap_M W H F x y w (k + 1))) (H - y)) W) H := by
  have e := ap_box (W := W) (H := H) (fun x y => ap_S (fun j => ap_i (∃ h, ap_M W H F x y (j + 1) h)) W) hW hH (fun x y q => ap_S_z W (fun j _ => ap_i_f (by
    intro ⟨h, m⟩
    have m1 := m.2.1
    have m2 := m.2.2.1.1
    have m3 := m.2.2.1.2.1
    omega)))
  refine Eq.trans e ?_
  exact ap_S_c H (fun y _ => ap_S_c W (fun x _ => (ap_hol x y).symm))
def ap_L (W H : Nat) (F : Nat → Nat → Prop) (r : Nat) : Prop :=
  (∀ x y w h, ap_G W H F x y w h → w * h ≤ r) ∧ (r = 0 ∨ ∃ x y w h, 1 ≤ w ∧ 1 ≤ h ∧ ap_G W H F x y w h ∧ w * h = r)
def ap_LM (W H : Nat) (F : Nat → Nat → Prop) (r : Nat) : Prop :=
  (∀ x y w h, ap_M W H F x y w h → w * h ≤ r) ∧ (r = 0 ∨ ∃ x y w h, ap_M W H F x y w h ∧ w * h = r)
theorem ap_L_M {r : Nat} (l : ap_L W H F r) : ap_LM W H F r := by
  obtain ⟨l1, l2⟩ := l
  refine ⟨fun x y w h m => l1 x y w h m.2.2.1, ?_⟩
  rcases l2 with l2 | ⟨x, y, w, h, a, b, g, e⟩
  · exact Or.inl l2
  · have gw : ∀ x' y', ¬ ap_G W H F x' y' (w + 1) h := by
      intro x' y' q
      have := l1 _ _ _ _ q
      rw [Nat.succ_mul] at this
      omega
    have gh : ∀ x' y', ¬ ap_G W H F x' y' w (h + 1) := by
      intro x' y' q
      have := l1 _ _ _ _ q
      rw [Nat.mul_succ] at this
      omega
    exact Or.inr ⟨x, y, w, h, ⟨a, b, g, gw _ _, gh _ _, fun x' _ => gw x' y, fun y' _ => gh x y'⟩, e⟩
theorem ap_LM_u {r r' : Nat} (a : ap_LM W H F r) (b : ap_LM W H F r') : r = r' := by
  have key : ∀ {r r' : Nat}, ap_LM W H F r → ap_LM W H F r' → r ≤ r' := by
    intro r r' a b
    rcases a.2 with e | ⟨x, y, w, h, m, e⟩
    · omega
    · have := b.1 _ _ _ _ m
      omega
  exact Nat.le_antisymm (key a b) (key b a)
/-- how many heights fit a width -/
noncomputable def ap_c (W H : Nat) (F : Nat → Nat → Prop) (w : Nat) : Nat := ap_S (fun k => ap_i (∃ x y, ap_G W H F x y w (k + 1))) 16
theorem ap_c_m {w m : Nat} (hH : H ≤ 16) (h1 : ∀ x y h, ap_G W H F x y w h → h ≤ m) (h2 : m = 0 ∨ ∃ x y, ap_G W H F x y w m) : ap_c W H F w = m := by
  have hm : m ≤ 16 := by
    rcases h2 with e | ⟨x, y, g⟩
    · omega
    · have := g.2.1
      omega
  refine ap_S_dn (p := fun k => ∃ x y, ap_G W H F x y w (k + 1)) 16 hm ?_ ?_
  · intro i hi
    rcases h2 with e | ⟨x, y, g⟩
    · omega
    · exact ⟨x, y, ap_G_s g (by omega) (by omega) (by omega) (by omega)⟩
  · intro i hi _ ⟨x, y, g⟩
    have := h1 _ _ _ g
    omega
theorem ap_fit (hW : W ≤ 16) : ap_S (fun k => ap_S (fun j => ap_i (∃ x y, ap_G W H F x y (j + 1) (k + 1))) 16) 16 = ap_S (fun j => ap_c W H F (j + 1)) W := by
  rw [ap_S_sw (fun k j => ap_i (∃ x y, ap_G W H F x y (j + 1) (k + 1))) 16 16]
  refine ap_S_x 16 hW (fun j a _ => ap_S_z 16 (fun k _ => ap_i_f ?_))
  intro ⟨x, y, g⟩
  have := g.1
  omega
end
/-- the answer of a search for the first good place -/
def ap_B (g : Nat → Nat → Prop) (r : Int32) : Prop :=
  (∃ x y, x < 16 ∧ y < 16 ∧ g x y ∧ r = nI (256 * y + x) ∧ ∀ x' y', g x' y' → y < y' ∨ (y = y' ∧ x ≤ x')) ∨ (r = -3 ∧ ∀ x y, ¬ g x y)
theorem ap_B_u {g : Nat → Nat → Prop} {r r' : Int32} (a : ap_B g r) (b : ap_B g r') : r = r' := by
  rcases a with ⟨x, y, hx, hy, gx, e, l⟩ | ⟨e, l⟩
  · rcases b with ⟨x', y', hx', hy', gx', e', l'⟩ | ⟨e', l'⟩
    · have h1 := l _ _ gx'
      have h2 := l' _ _ gx
      have h3 : x = x' := by omega
      have h4 : y = y' := by omega
      rw [e, e', h3, h4]
    · exact absurd gx (l' _ _)
  · rcases b with ⟨x', y', hx', hy', gx', e', l'⟩ | ⟨e', l'⟩
    · exact absurd gx' (l _ _)
    · rw [e, e']
theorem ap_m1 {n : Nat} (h : n < 2 ^ 31) : nI n ≠ -1 := by
  intro e
  have e1 := congrArg Int32.toInt e
  rw [nI_toInt h] at e1
  have e2 : (-1 : Int32).toInt = -1 := by decide
  omega
theorem ap_m3 {n : Nat} (h : n < 2 ^ 31) : nI n ≠ -3 := by
  intro e
  have e1 := congrArg Int32.toInt e
  rw [nI_toInt h] at e1
  have e2 : (-3 : Int32).toInt = -3 := by decide
  omega
theorem ap_m2 {n : Nat} (h : n < 2 ^ 31) : nI n ≠ -2 := by
  intro e
  have e1 := congrArg Int32.toInt e
  rw [nI_toInt h] at e1
  have e2 : (-2 : Int32).toInt = -2 := by decide
  omega
