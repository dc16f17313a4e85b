/-! the state's picture: what covers a cell, the invariant, its keeping -/
def ap_u {α : Type} (f : Nat → α) (k : Nat) (v : α) : Nat → α := fun j => if j = k then v else f j
theorem ap_us {α : Type} {f : Nat → α} {k : Nat} {v : α} : ap_u f k v k = v := if_pos rfl
theorem ap_un {α : Type} {f : Nat → α} {k j : Nat} {v : α} (h : j ≠ k) : ap_u f k v j = f j := if_neg h
def ap_cov (P : Nat → Bool) (L B w h : Nat → Nat) (i x y : Nat) : Prop :=
  P i = true ∧ L i ≤ x ∧ x < L i + w i ∧ B i ≤ y ∧ y < B i + h i
def ap_ov (P : Nat → Bool) (L B w h : Nat → Nat) (i x y a b : Nat) : Prop :=
  P i = true ∧ x < L i + w i ∧ L i < x + a ∧ y < B i + h i ∧ B i < y + b
def ap_F (C : Nat → Int32) (x y : Nat) : Prop := C (16 * y + x) = -1
def ap_I (W H : Nat) (P : Nat → Bool) (L B w h : Nat → Nat) (C : Nat → Int32) : Prop :=
  4 ≤ W ∧ W ≤ 16 ∧ 4 ≤ H ∧ H ≤ 16 ∧
  (∀ i, i < 20 → P i = true → 1 ≤ w i ∧ 1 ≤ h i ∧ L i + w i ≤ W ∧ B i + h i ≤ H) ∧
  (∀ i x y, i < 20 → ap_cov P L B w h i x y → C (16 * y + x) = nI i) ∧
  (∀ x y, x < 16 → y < 16 → (∀ i, i < 20 → ¬ ap_cov P L B w h i x y) → C (16 * y + x) = -1)
/-- C' is C with v painted over a rectangle -/
def ap_pt (C C' : Nat → Int32) (x y a b : Nat) (v : Int32) : Prop :=
  (∀ i j, x ≤ i → i < x + a → y ≤ j → j < y + b → C' (16 * j + i) = v) ∧
  (∀ i j, i < 16 → j < 16 → ¬ (x ≤ i ∧ i < x + a ∧ y ≤ j ∧ j < y + b) → C' (16 * j + i) = C (16 * j + i))
section
variable {W H : Nat} {P : Nat → Bool} {L B w h : Nat → Nat} {C : Nat → Int32}
theorem ap_nI_u {i j : Nat} (hi : i < 20) (hj : j < 20) (e : nI i = nI j) : i = j := (nI_eq (by omega) (by omega)).mp e
theorem ap_F_c (I : ap_I W H P L B w h C) {x y : Nat} (hx : x < 16) (hy : y < 16) : ap_F C x y ↔ ∀ i, i < 20 → ¬ ap_cov P L B w h i x y := by
  obtain ⟨_, _, _, _, _, I6, I7⟩ := I
  constructor
  · intro f i hi c
    have e := I6 i x y hi c
    exact ap_m1 (n := i) (by omega) (e.symm.trans f)
  · exact fun q => I7 x y hx hy q
theorem ap_cov_u (I : ap_I W H P L B w h C) {x y i j : Nat} (hi : i < 20) (hj : j < 20) (a : ap_cov P L B w h i x y) (b : ap_cov P L B w h j x y) : i = j := by
  obtain ⟨_, _, _, _, _, I6, I7⟩ := I
  exact ap_nI_u hi hj ((I6 i x y hi a).symm.trans (I6 j x y hj b))
theorem ap_G_ov (I : ap_I W H P L B w h C) {x y a b : Nat} (ha : 1 ≤ a) (hb : 1 ≤ b) : ap_G W H (ap_F C) x y a b ↔ (x + a ≤ W ∧ y + b ≤ H ∧ ∀ i, i < 20 → ¬ ap_ov P L B w h i x y a b) := by
  have I0 := I
  obtain ⟨I1, I2, I3, I4, I5, I6, I7⟩ := I
  constructor
  · intro ⟨g1, g2, g3⟩
    refine ⟨g1, g2, fun i hi o => ?_⟩
    obtain ⟨o1, o2, o3, o4, o5⟩ := o
    have s := I5 i hi o1
    have key : ∃ c r, x ≤ c ∧ c < x + a ∧ y ≤ r ∧ r < y + b ∧ L i ≤ c ∧ c < L i + w i ∧ B i ≤ r ∧ r < B i + h i := by
      rcases Nat.le_total x (L i) with p | p
      · rcases Nat.le_total y (B i) with q | q
        · exact ⟨L i, B i, by omega, by omega, by omega, by omega, by omega, by omega, by omega, by omega⟩
        · exact ⟨L i, y, by omega, by omega, by omega, by omega, by omega, by omega, by omega, by omega⟩
      · rcases Nat.le_total y (B i) with q | q
        · exact ⟨x, B i, by omega, by omega, by omega, by omega, by omega, by omega, by omega, by omega⟩
        · exact ⟨x, y, by omega, by omega, by omega, by omega, by omega, by omega, by omega, by omega⟩
    obtain ⟨c, r, k1, k2, k3, k4, k5, k6, k7, k8⟩ := key
    exact (ap_F_c I0 (by omega) (by omega)).mp (g3 c r k1 k2 k3 k4) i hi ⟨o1, k5, k6, k7, k8⟩
  · intro ⟨g1, g2, g3⟩
    refine ⟨g1, g2, fun c r h1 h2 h3 h4 => ?_⟩
    refine (ap_F_c I0 (by omega) (by omega)).mpr (fun i hi q => ?_)
    obtain ⟨q1, q2, q3, q4, q5⟩ := q
    exact g3 i hi ⟨q1, by omega, by omega, by omega, by omega⟩
theorem ap_free (I : ap_I W H P L B w h C) : ap_S (fun y => ap_S (fun x => ap_i (ap_F C x y)) W) H + ap_S (fun i => if P i = true then w i * h i else 0) 20 = W * H := by
  have I0 := I
  obtain ⟨I1, I2, I3, I4, I5, I6, I7⟩ := I
  have hcell : ∀ y, y < H → ∀ x, x < W → ap_i (ap_F C x y) + ap_S (fun i => ap_i (ap_cov P L B w h i x y)) 20 = 1 := by
    intro y hy x hx
    rw [ap_S_e (p := fun i => ap_cov P L B w h i x y) 20 (fun i j hi hj a b => ap_cov_u I0 hi hj a b)]
    have f := ap_F_c I0 (x := x) (y := y) (by omega) (by omega)
    by_cases q : ∃ i, i < 20 ∧ ap_cov P L B w h i x y
    · rw [ap_i_t q, ap_i_f (fun z => by
        obtain ⟨i, hi, c⟩ := q
        exact f.mp z i hi c)]
    · rw [ap_i_f q, ap_i_t (f.mpr (fun i hi c => q ⟨i, hi, c⟩))]
  have hrect : ∀ i, i < 20 → (if P i = true then w i * h i else 0) = ap_S (fun y => ap_S (fun x => ap_i (ap_cov P L B w h i x y)) W) H := by
    intro i hi
    by_cases p : P i = true
    · have s := I5 i hi p
      rw [if_pos p]
      have e : ∀ y, y < H → ap_S (fun x => ap_i (ap_cov P L B w h i x y)) W = w i * ap_i (B i ≤ y ∧ y < B i + h i) := by
        intro y _
        by_cases q : B i ≤ y ∧ y < B i + h i
        · rw [ap_i_t q, Nat.mul_one, ← ap_S_iv (L i) (w i) W s.2.2.1]
          refine ap_S_c W (fun x _ => ap_i_c ⟨fun c => ⟨c.2.1, c.2.2.1⟩, fun c => ⟨p, c.1, c.2, q.1, q.2⟩⟩)
        · rw [ap_i_f q, Nat.mul_zero]
          exact ap_S_z W (fun x _ => ap_i_f (fun c => q ⟨c.2.2.2.1, c.2.2.2.2⟩))
      rw [ap_S_c H e, ap_S_k, ap_S_iv (B i) (h i) H s.2.2.2]
    · rw [if_neg p]
      exact (ap_S_z H (fun y _ => ap_S_z W (fun x _ => ap_i_f (fun c => p c.1)))).symm
  have e1 : ap_S (fun i => if P i = true then w i * h i else 0) 20 = ap_S (fun y => ap_S (fun x => ap_S (fun i => ap_i (ap_cov P L B w h i x y)) 20) W) H := by
    rw [ap_S_c 20 hrect, ap_S_sw (fun i y => ap_S (fun x => ap_i (ap_cov P L B w h i x y)) W) H 20]
    exact ap_S_c H (fun y _ => ap_S_sw (fun i x => ap_i (ap_cov P L B w h i x y)) W 20)
  rw [e1, ← ap_S_a]
  have e2 : ∀ y, y < H → ap_S (fun x => ap_i (ap_F C x y)) W + ap_S (fun x => ap_S (fun i => ap_i (ap_cov P L B w h i x y)) 20) W = W := by
    intro y hy
    rw [← ap_S_a, ap_S_c W (hcell y hy), ap_S_1s, Nat.one_mul]
  rw [ap_S_c H e2, ap_S_1s]
theorem ap_put (I : ap_I W H P L B w h C) {id x y a b : Nat} {C' : Nat → Int32} (hi : id < 20) (hp : P id = false) (ha : 1 ≤ a) (hb : 1 ≤ b) (g : ap_G W H (ap_F C) x y a b) (pt : ap_pt C C' x y a b (nI id)) : ap_I W H (ap_u P id true) (ap_u L id x) (ap_u B id y) (ap_u w id a) (ap_u h id b) C' := by
  have I0 := I
  obtain ⟨I1, I2, I3, I4, I5, I6, I7⟩ := I
  obtain ⟨g1, g2, g3⟩ := g
  obtain ⟨p1, p2⟩ := pt
  have cn : ∀ i, i ≠ id → ∀ c r, ap_cov (ap_u P id true) (ap_u L id x) (ap_u B id y) (ap_u w id a) (ap_u h id b) i c r ↔ ap_cov P L B w h i c r := by
    intro i n c r
    unfold ap_cov
    rw [ap_un n, ap_un n, ap_un n, ap_un n, ap_un n]
  have cs : ∀ c r, ap_cov (ap_u P id true) (ap_u L id x) (ap_u B id y) (ap_u w id a) (ap_u h id b) id c r ↔ (x ≤ c ∧ c < x + a ∧ y ≤ r ∧ r < y + b) := by
    intro c r
    unfold ap_cov
    rw [ap_us, ap_us, ap_us, ap_us, ap_us]
    exact ⟨fun q => q.2, fun q => ⟨rfl, q⟩⟩
  refine ⟨I1, I2, I3, I4, ?_, ?_, ?_⟩
  · intro i hi' q
    by_cases n : i = id
    · subst n
      rw [ap_us, ap_us, ap_us, ap_us]
      exact ⟨ha, hb, g1, g2⟩
    · rw [ap_un n] at q
      rw [ap_un n, ap_un n, ap_un n, ap_un n]
      exact I5 i hi' q
  · intro i c r hi' q
    by_cases n : i = id
    · subst n
      have q' := (cs c r).mp q
      exact p1 c r q'.1 q'.2.1 q'.2.2.1 q'.2.2.2
    · have q' := (cn i n c r).mp q
      have s := I5 i hi' q'.1
      have q2 := q'
      obtain ⟨_, d1, d2, d3, d4⟩ := q2
      rw [p2 c r (by omega) (by omega) (fun z => ?_)]
      · exact I6 i c r hi' q'
      · exact (ap_F_c I0 (by omega) (by omega)).mp (g3 c r z.1 z.2.1 z.2.2.1 z.2.2.2) i hi' q'
  · intro c r hc hr q
    have z : ¬ (x ≤ c ∧ c < x + a ∧ y ≤ r ∧ r < y + b) := fun z => q id hi ((cs c r).mpr z)
    rw [p2 c r hc hr z]
    refine I7 c r hc hr (fun i hi' k => ?_)
    by_cases n : i = id
    · subst n
      have := k.1
      rw [hp] at this
      exact Bool.noConfusion this
    · exact q i hi' ((cn i n c r).mpr k)
theorem ap_rmv (I : ap_I W H P L B w h C) {id : Nat} {C' : Nat → Int32} (hi : id < 20) (hp : P id = true) (pt : ap_pt C C' (L id) (B id) (w id) (h id) (-1)) : ap_I W H (ap_u P id false) L B w h C' := by
  have I0 := I
  obtain ⟨I1, I2, I3, I4, I5, I6, I7⟩ := I
  obtain ⟨p1, p2⟩ := pt
  have cn : ∀ i, i ≠ id → ∀ c r, ap_cov (ap_u P id false) L B w h i c r ↔ ap_cov P L B w h i c r := by
    intro i n c r
    unfold ap_cov
    rw [ap_un n]
  have pid : ap_u P id false id = false := ap_us
  refine ⟨I1, I2, I3, I4, ?_, ?_, ?_⟩
  · intro i hi' q
    by_cases n : i = id
    · subst n
      rw [pid] at q
      exact Bool.noConfusion q
    · rw [ap_un n] at q
      exact I5 i hi' q
  · intro i c r hi' q
    by_cases n : i = id
    · subst n
      have := q.1
      rw [pid] at this
      exact Bool.noConfusion this
    · have q' := (cn i n c r).mp q
      have s := I5 i hi' q'.1
      have q2 := q'
      obtain ⟨_, d1, d2, d3, d4⟩ := q2
      rw [p2 c r (by omega) (by omega) (fun z => n (ap_cov_u I0 hi' hi q' ⟨hp, z⟩))]
      exact I6 i c r hi' q'
  · intro c r hc hr q
    by_cases z : L id ≤ c ∧ c < L id + w id ∧ B id ≤ r ∧ r < B id + h id
    · exact p1 c r z.1 z.2.1 z.2.2.1 z.2.2.2
    · rw [p2 c r hc hr z]
      refine I7 c r hc hr (fun i hi' k => ?_)
      by_cases n : i = id
      · subst n
        exact z k.2
      · exact q i hi' ((cn i n c r).mpr k)
theorem ap_new (h1 : 4 ≤ W) (h2 : W ≤ 16) (h3 : 4 ≤ H) (h4 : H ≤ 16) (hp : ∀ i, i < 20 → P i = false) (hc : ∀ k, k < 256 → C k = -1) : ap_I W H P L B w h C := by
  refine ⟨h1, h2, h3, h4, ?_, ?_, ?_⟩
  · intro i hi q
    rw [hp i hi] at q
    exact Bool.noConfusion q
  · intro i x y hi q
    have := q.1
    rw [hp i hi] at this
    exact Bool.noConfusion this
  · intro x y hx hy _
    exact hc _ (by omega)
end
