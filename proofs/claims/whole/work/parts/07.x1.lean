/-! the component's walks: meetings, good places, the best, the widest -/
section
variable {W H : Nat} {P : Nat → Bool} {L B w h : Nat → Nat} {C : Nat → Int32}
theorem ap_xm (I : ap_I W H P L B w h C) (post : Int32 → Prop) (x y a b : Nat) (hx : x < 100) (hy : y < 100) (ha : a < 100) (hb : b < 100)
    (p1 : ∀ i, i < 20 → ap_ov P L B w h i x y a b → post (nI i)) (p2 : (∀ i, i < 20 → ¬ ap_ov P L B w h i x y a b) → post (-3)) :
    wpX_firstMeeting post (ap_X W H P L B w h) (nI x) (nI y) (nI a) (nI b) := by
  obtain ⟨I1, I2, I3, I4, I5, I6, I7⟩ := I
  refine Exists.intro 21 (ap_loop (σ := Unit) (fun n i _ => wX_firstMeeting_3 post (nI x) (nI y) (nI a) (nI b) (nI W) (nI H) (fun i => ap_b (P i)) (fun i => nI (L i)) (fun i => nI (B i)) (fun i => nI (w i)) (fun i => nI (h i)) n (nI i)) (fun i _ => ∀ j, j < i → ¬ ap_ov P L B w h j x y a b) 20 ?_ 21 0 () (by omega) (by omega) lt_0)
  intro n i _ hI hi nx
  refine ap_if (ap_le (a := 20)) (fun c => p2 (fun j hj => hI j (by omega))) (fun c => ?_)
  have hi' : i < 20 := by omega
  have go : ¬ ap_ov P L B w h i x y a b → ∀ z : Int32, z = nI i + 1 → wX_firstMeeting_3 post (nI x) (nI y) (nI a) (nI b) (nI W) (nI H) (fun i => ap_b (P i)) (fun i => nI (L i)) (fun i => nI (B i)) (fun i => nI (w i)) (fun i => nI (h i)) n z := by
    intro q z ez
    rw [ez, nI_1]
    exact nx () (lt_s hI q) hi'
  have vi : vp_in (nI i) 20 := vp_in_nI hi' (by omega)
  have cl : (nI i).toNatClampNeg = i := nI_clamp (by omega)
  rw [cl]
  refine ⟨vi, br_c (fun e => go (fun o => ?_)) (fun e => ?_)⟩
  · have o1 := o.1
    rw [ap_b_0.mp e] at o1
    exact Bool.noConfusion o1
  · have pi : P i = true := ap_nt (fun z => e (ap_b_f z))
    have s := I5 i hi' pi
    refine ⟨vi, vi, ap_if ap_lea (fun c1 => go (fun o => by have := o.2.1; omega)) (fun c1 => ⟨vi, ap_if ap_lea (fun c2 => go (fun o => by have := o.2.2.1; omega)) (fun c2 => ⟨vi, vi, ap_if ap_lea (fun c3 => go (fun o => by have := o.2.2.2.1; omega)) (fun c3 => ⟨vi, ap_if ap_lea (fun c4 => go (fun o => by have := o.2.2.2.2; omega)) (fun c4 => ?_)⟩)⟩)⟩)⟩
    exact p1 i hi' ⟨pi, by omega, by omega, by omega, by omega⟩
theorem ap_xg (I : ap_I W H P L B w h C) (post : Int32 → Prop) (x y a b : Nat) (hx : x < 100) (hy : y < 100) (ha : a < 100) (hb : b < 100) (ha1 : 1 ≤ a) (hb1 : 1 ≤ b)
    (p1 : ap_G W H (ap_F C) x y a b → post 1) (p0 : ¬ ap_G W H (ap_F C) x y a b → post 0) :
    wpX_isGood post (ap_X W H P L B w h) (nI x) (nI y) (nI a) (nI b) := by
  have g := ap_G_ov I (x := x) (y := y) ha1 hb1
  have I2 := I.2.1
  have I4 := I.2.2.2.1
  refine br_f (nI_pos (by omega)) (br_f (nI_pos (by omega)) (ap_if ap_lta (fun c => p0 (fun q => by have := q.1; omega)) (fun c1 => ap_if ap_lea (fun c2 => ?_) (fun c2 => p0 (fun q => by have := q.2.1; omega)))))
  exact ap_xm I _ x y a b hx hy ha hb (fun i hi o => br_f (ap_m3 (by omega)) (p0 (fun q => (g.mp q).2.2 i hi o))) (fun q => br_t rfl (p1 (g.mpr ⟨by omega, c2, q⟩)))
theorem ap_xgl (I : ap_I W H P L B w h C) (post : Int32 → Prop) (x y a b : Nat) (hx : x < 100) (hy : y < 100) (ha : a < 100) (hb : b < 100) (ha1 : 1 ≤ a) (hb1 : 1 ≤ b)
    (p1 : (∃ x', x = x' + 1 ∧ ap_G W H (ap_F C) x' y a b) → post 1) (p0 : ¬ (∃ x', x = x' + 1 ∧ ap_G W H (ap_F C) x' y a b) → post 0) :
    wpX_isGood post (ap_X W H P L B w h) (nI x - 1) (nI y) (nI a) (nI b) := by
  cases x with
  | zero => exact br_t ap_neg1 (p0 (fun ⟨x', e, _⟩ => by omega))
  | succ x' =>
    rw [nI_pred]
    exact ap_xg I post x' y a b (by omega) hy ha hb ha1 hb1 (fun q => p1 ⟨x', rfl, q⟩) (fun q => p0 (fun ⟨x2, e, k⟩ => q (by
      have e2 : x' = x2 := by omega
      rw [e2]; exact k)))
theorem ap_xgd (I : ap_I W H P L B w h C) (post : Int32 → Prop) (x y a b : Nat) (hx : x < 100) (hy : y < 100) (ha : a < 100) (hb : b < 100) (ha1 : 1 ≤ a) (hb1 : 1 ≤ b)
    (p1 : (∃ y', y = y' + 1 ∧ ap_G W H (ap_F C) x y' a b) → post 1) (p0 : ¬ (∃ y', y = y' + 1 ∧ ap_G W H (ap_F C) x y' a b) → post 0) :
    wpX_isGood post (ap_X W H P L B w h) (nI x) (nI y - 1) (nI a) (nI b) := by
  cases y with
  | zero => exact br_f (nI_pos (by omega)) (br_t ap_neg1 (p0 (fun ⟨x', e, _⟩ => by omega)))
  | succ y' =>
    rw [nI_pred]
    exact ap_xg I post x y' a b hx (by omega) ha hb ha1 hb1 (fun q => p1 ⟨y', rfl, q⟩) (fun q => p0 (fun ⟨x2, e, k⟩ => q (by
      have e2 : y' = x2 := by omega
      rw [e2]; exact k)))
theorem ap_xb (I : ap_I W H P L B w h C) (post : Int32 → Prop) (a b : Nat) (ha1 : 1 ≤ a) (hb1 : 1 ≤ b) (ha : a < 100) (hb : b < 100)
    (p : ∀ r, ap_B (fun x y => ap_G W H (ap_F C) x y a b) r → post r) : wpX_findBest post (ap_X W H P L B w h) (nI a) (nI b) := by
  have I2 := I.2.1
  have I4 := I.2.2.2.1
  have inner : ∀ (J : Int32 → Prop) (y : Nat), y + b ≤ H → (ap_N (fun x y => ap_G W H (ap_F C) x y a b) (y + 1) 0 → J (nI (y + 1))) → ap_N (fun x y => ap_G W H (ap_F C) x y a b) y 0 →
      ∃ n, wX_findBest_15 post J (nI a) (nI b) (nI y) (nI W) (nI H) (fun i => ap_b (P i)) (fun i => nI (L i)) (fun i => nI (B i)) (fun i => nI (w i)) (fun i => nI (h i)) n 0 := by
    intro J y hy hJ hN
    refine ⟨17, ap_loop (σ := Unit) (fun n x _ => wX_findBest_15 post J (nI a) (nI b) (nI y) (nI W) (nI H) (fun i => ap_b (P i)) (fun i => nI (L i)) (fun i => nI (B i)) (fun i => nI (w i)) (fun i => nI (h i)) n (nI x)) (fun x _ => ap_N (fun x y => ap_G W H (ap_F C) x y a b) y x) 16 ?_ 17 0 () (by omega) (by omega) hN⟩
    intro n x _ hI hx nx
    refine ap_if ap_lta (fun c => nm_r (nI_1 y) (hJ (ap_N_r hI (fun x' q => by have := q.1; omega)))) (fun c => ?_)
    refine ap_xg I _ x y a b (by omega) (by omega) ha hb ha1 hb1 (fun q => br_f ap_10 ?_) (fun q => br_t rfl (nm_r (nI_1 x) (nx () (ap_N_s hI q) (by omega))))
    rw [ap_256]
    exact p _ (ap_N_g hI q (by omega) (by omega))
  refine Exists.intro 18 (ap_loop (σ := Unit) (fun n y _ => wX_findBest_2 post (nI a) (nI b) (nI W) (nI H) (fun i => ap_b (P i)) (fun i => nI (L i)) (fun i => nI (B i)) (fun i => nI (w i)) (fun i => nI (h i)) n (nI y)) (fun y _ => ap_N (fun x y => ap_G W H (ap_F C) x y a b) y 0) 16 ?_ 18 0 () (by omega) (by omega) ap_N_0)
  intro n y _ hI hy ny
  exact ap_if ap_lta (fun c => p _ (ap_N_e hI (fun x' y' q => by have := q.2.1; omega))) (fun c => inner _ y (by omega) (fun hN => ny () hN (by omega)) hI)
theorem ap_xw (I : ap_I W H P L B w h C) (post : Int32 → Prop) (x y k : Nat) (hx : x < 50) (hy : y < 50) (hk : k < 50) (hk1 : 1 ≤ k)
    (p : ∀ v, v ≤ 16 → ap_w W H (ap_F C) x y k v → post (nI v)) : wpX_widestFrom post (ap_X W H P L B w h) (nI x) (nI y) (nI k) := by
  have I2 := I.2.1
  have I4 := I.2.2.2.1
  refine Exists.intro 17 (ap_loop (σ := Unit) (fun n v _ => wX_widestFrom_6 post (nI x) (nI y) (nI k) (nI W) (nI H) (fun i => ap_b (P i)) (fun i => nI (L i)) (fun i => nI (B i)) (fun i => nI (w i)) (fun i => nI (h i)) n (nI v) (nI (v + 1))) (fun v _ => v = 0 ∨ ap_G W H (ap_F C) x y v k) 16 ?_ 17 0 () (by omega) (by omega) (Or.inl rfl))
  intro n v _ hI hv nx
  refine ap_if ap_lta (fun c => p v hv ⟨hI, fun q => by have := q.1; omega⟩) (fun c => ?_)
  exact ap_xg I _ x y (v + 1) k (by omega) (by omega) (by omega) (by omega) (by omega) hk1 (fun q => br_f ap_10 (nm_r (nI_1 (v + 1)) (nx () (Or.inr q) (by omega)))) (fun q => br_t rfl (p v hv ⟨hI, q⟩))
theorem ap_xgr (I : ap_I W H P L B w h C) (post : Int32 → Prop) (x y a b : Nat) (hx : x < 50) (hy : y < 50) (ha : a < 50) (hb : b < 50) (ha1 : 1 ≤ a) (hb1 : 1 ≤ b)
    (p1 : ap_gr W H (ap_F C) x y a b → post 1) (p0 : ¬ ap_gr W H (ap_F C) x y a b → post 0) :
    wpX_growsLeftOrUpOrDown post (ap_X W H P L B w h) (nI x) (nI y) (nI a) (nI b) := by
  unfold wpX_growsLeftOrUpOrDown
  dsimp only
  rw [nI_1 a, nI_1 b]
  refine ap_xgl I _ x y (a + 1) b (by omega) (by omega) (by omega) (by omega) (by omega) hb1 (fun q => br_f ap_10 (p1 (Or.inl q))) (fun q1 => br_t rfl ?_)
  refine ap_xg I _ x y a (b + 1) (by omega) (by omega) (by omega) (by omega) ha1 (by omega) (fun q => br_f ap_10 (p1 (Or.inr (Or.inl q)))) (fun q2 => br_t rfl ?_)
  refine ap_xgd I _ x y a (b + 1) (by omega) (by omega) (by omega) (by omega) ha1 (by omega) (fun q => br_f ap_10 (p1 (Or.inr (Or.inr q)))) (fun q3 => br_t rfl ?_)
  refine p0 (fun g => ?_)
  rcases g with g | g | g
  · exact q1 g
  · exact q2 g
  · exact q3 g
end
