/-! the component's walks: counts, sums, the greatest -/
section
variable {W H : Nat} {P : Nat → Bool} {L B w h : Nat → Nat} {C : Nat → Int32}
/-- how many holes begin at a place, by height -/
noncomputable def ap_hc (W H : Nat) (F : Nat → Nat → Prop) (x y k : Nat) : Nat := ap_i (∃ v, ap_M W H F x y v (k + 1))
theorem ap_xch (I : ap_I W H P L B w h C) (post : Int32 → Prop) (x y : Nat) (hx : x < 50) (hy : y < H)
    (p : post (nI (ap_S (fun k => ap_i (∃ v, ap_M W H (ap_F C) x y v (k + 1))) (H - y)))) : wpX_countHolesFrom post (ap_X W H P L B w h) (nI x) (nI y) := by
  have I2 := I.2.1
  have I4 := I.2.2.2.1
  refine Exists.intro 17 (ap_loop (σ := Unit) (fun n k _ => wX_countHolesFrom_5 post (nI x) (nI y) (nI W) (nI H) (fun i => ap_b (P i)) (fun i => nI (L i)) (fun i => nI (B i)) (fun i => nI (w i)) (fun i => nI (h i)) n (nI (ap_S (fun k => ap_i (∃ v, ap_M W H (ap_F C) x y v (k + 1))) k)) (nI (k + 1))) (fun k _ => k ≤ H - y) 16 ?_ 17 0 () (by omega) (by omega) (Nat.zero_le _))
  intro n k _ hI hk nx
  refine ap_if ap_lta (fun c => ?_) (fun c => ?_)
  · have e : k = H - y := by omega
    rw [e]
    exact p
  · have go : ∀ (s : Nat), ap_i (∃ v, ap_M W H (ap_F C) x y v (k + 1)) = s → ∀ z : Int32, z = nI (k + 1) + 1 → wX_countHolesFrom_5 post (nI x) (nI y) (nI W) (nI H) (fun i => ap_b (P i)) (fun i => nI (L i)) (fun i => nI (B i)) (fun i => nI (w i)) (fun i => nI (h i)) n (nI (ap_S (fun k => ap_i (∃ v, ap_M W H (ap_F C) x y v (k + 1))) k + s)) z := by
      intro s e z ez
      rw [ez, nI_1, ← e]
      exact nx () (by omega) (by omega)
    refine ap_xw I _ x y (k + 1) (by omega) (by omega) (by omega) (by omega) (fun v hv hw => ?_)
    refine ap_if ap_le0 (fun c0 => go 0 (ap_i_f ?_)) (fun c0 => ?_)
    · intro ⟨v', m⟩
      have e := ap_w_u (ap_M_w m) hw
      have := m.1
      omega
    · have gm := ap_gr_M hw (by omega) (by omega)
      refine ap_xgr I _ x y v (k + 1) (by omega) (by omega) (by omega) (by omega) (by omega) (by omega) (fun g => br_f ap_10 (go 0 (ap_i_f (fun m => gm.mp m g)))) (fun g => br_t rfl (nm_r (nI_1 _) (go 1 (ap_i_t (gm.mpr g)))))
theorem ap_xholes (I : ap_I W H P L B w h C) (post : Int32 → Prop)
    (p : post (nI (ap_S (fun y => ap_S (fun x => ap_S (fun k => ap_i (∃ v, ap_M W H (ap_F C) x y v (k + 1))) (H - y)) W) H))) : wpX_holes post (ap_X W H P L B w h) := by
  have I2 := I.2.1
  have I4 := I.2.2.2.1
  have inner : ∀ (J : Int32 → Int32 → Prop) (y s : Nat), y < H → J (nI (s + ap_S (fun x => ap_S (fun k => ap_i (∃ v, ap_M W H (ap_F C) x y v (k + 1))) (H - y)) W)) (nI (y + 1)) →
      ∃ n, wX_holes_14 post J (nI y) (nI W) (nI H) (fun i => ap_b (P i)) (fun i => nI (L i)) (fun i => nI (B i)) (fun i => nI (w i)) (fun i => nI (h i)) n (nI s) 0 := by
    intro J y s hy hJ
    refine ⟨W + 1, ap_loop (σ := Unit) (fun n x _ => wX_holes_14 post J (nI y) (nI W) (nI H) (fun i => ap_b (P i)) (fun i => nI (L i)) (fun i => nI (B i)) (fun i => nI (w i)) (fun i => nI (h i)) n (nI (s + ap_S (fun x => ap_S (fun k => ap_i (∃ v, ap_M W H (ap_F C) x y v (k + 1))) (H - y)) x)) (nI x)) (fun _ _ => True) W ?_ (W + 1) 0 () (by omega) (by omega) trivial⟩
    intro n x _ _ hx nx
    refine ap_if ap_le (fun c => nm_r (nI_1 y) ?_) (fun c => ?_)
    · have e : x = W := by omega
      rw [e]
      exact hJ
    · refine ap_xch I _ x y (by omega) hy (nm_r (nI_add _ _) (nm_r (nI_1 x) ?_))
      rw [Nat.add_assoc s]
      exact nx () trivial (by omega)
  refine Exists.intro (H + 1) (ap_loop (σ := Unit) (fun n y _ => wX_holes_4 post (nI W) (nI H) (fun i => ap_b (P i)) (fun i => nI (L i)) (fun i => nI (B i)) (fun i => nI (w i)) (fun i => nI (h i)) n (nI (ap_S (fun y => ap_S (fun x => ap_S (fun k => ap_i (∃ v, ap_M W H (ap_F C) x y v (k + 1))) (H - y)) W) y)) (nI y)) (fun _ _ => True) H ?_ (H + 1) 0 () (by omega) (by omega) trivial)
  intro n y _ _ hy ny
  refine ap_if ap_le (fun c => ?_) (fun c => ?_)
  · have e : y = H := by omega
    rw [e]
    exact p
  · exact inner _ y _ (by omega) (ny () trivial (by omega))
theorem ap_xla (I : ap_I W H P L B w h C) (post : Int32 → Prop) (x y : Nat) (hx : x < 50) (hy : y < H)
    (p : ∀ r, r ≤ 256 → ap_l W H (ap_F C) (fun x' y' _ _ => x' = x ∧ y' = y) r → post (nI r)) : wpX_largestFreeAreaFrom post (ap_X W H P L B w h) (nI x) (nI y) := by
  have I2 := I.2.1
  have I4 := I.2.2.2.1
  refine Exists.intro 17 (ap_loop (σ := Nat) (fun n k r => wX_largestFreeAreaFrom_5 post (nI x) (nI y) (nI W) (nI H) (fun i => ap_b (P i)) (fun i => nI (L i)) (fun i => nI (B i)) (fun i => nI (w i)) (fun i => nI (h i)) n (nI r) (nI (k + 1))) (fun k r => r ≤ 256 ∧ ap_l W H (ap_F C) (fun x' y' _ h' => x' = x ∧ y' = y ∧ h' ≤ k) r) 16 ?_ 17 0 0 (by omega) (by omega) ⟨by omega, ?_⟩)
  · intro n k r hI hk nx
    obtain ⟨hr, hl⟩ := hI
    refine ap_if ap_lta (fun c => p r hr (ap_l_m hl (fun x' y' w' h' _ _ q g => Or.inl ⟨q.1, q.2, ?_⟩))) (fun c => ?_)
    · have := g.2.1
      have := q.2
      omega
    · refine ap_xw I _ x y (k + 1) (by omega) (by omega) (by omega) (by omega) (fun v hv hw => nm_r (pk_mul _ _) ?_)
      have h16 : k + 1 ≤ 16 := by omega
      have hm : (k + 1) * v ≤ 256 := Nat.le_trans (Nat.mul_le_mul h16 hv) (by omega)
      have hlw := ap_l_w (h := k + 1) (by omega) hw
      refine ap_if ap_le (fun c1 => nm_r (nI_1 (k + 1)) ?_) (fun c1 => nm_r (nI_1 (k + 1)) ?_)
      · refine nx r ⟨hr, ap_l_j hl hlw (by omega) c1 (Or.inl rfl) ?_⟩ (by omega)
        intro x' y' w' h' _ _ q _
        obtain ⟨q1, q2, q3⟩ := q
        by_cases e : h' = k + 1
        · exact Or.inr ⟨q1, q2, e⟩
        · exact Or.inl ⟨q1, q2, by omega⟩
      · refine nx ((k + 1) * v) ⟨hm, ap_l_j hl hlw (by omega) (by omega) (Or.inr rfl) ?_⟩ (by omega)
        intro x' y' w' h' _ _ q _
        obtain ⟨q1, q2, q3⟩ := q
        by_cases e : h' = k + 1
        · exact Or.inr ⟨q1, q2, e⟩
        · exact Or.inl ⟨q1, q2, by omega⟩
  · refine ⟨fun x' y' w' h' _ h2 q _ => ?_, Or.inl rfl⟩
    have := q.2.2
    omega
theorem ap_xlh (I : ap_I W H P L B w h C) (post : Int32 → Prop) (p : ∀ r, r ≤ 256 → ap_L W H (ap_F C) r → post (nI r)) : wpX_largestHole post (ap_X W H P L B w h) := by
  have I2 := I.2.1
  have I4 := I.2.2.2.1
  have inner : ∀ (J : Int32 → Int32 → Prop) (y s : Nat), y < H → s ≤ 256 → ap_l W H (ap_F C) (fun _ y' _ _ => y' < y) s → (∀ t, t ≤ 256 → ap_l W H (ap_F C) (fun _ y' _ _ => y' < y + 1) t → J (nI t) (nI (y + 1))) →
      ∃ n, wX_largestHole_14 post J (nI y) (nI W) (nI H) (fun i => ap_b (P i)) (fun i => nI (L i)) (fun i => nI (B i)) (fun i => nI (w i)) (fun i => nI (h i)) n (nI s) 0 := by
    intro J y s hy hs hl0 hJ
    refine ⟨W + 1, ap_loop (σ := Nat) (fun n x r => wX_largestHole_14 post J (nI y) (nI W) (nI H) (fun i => ap_b (P i)) (fun i => nI (L i)) (fun i => nI (B i)) (fun i => nI (w i)) (fun i => nI (h i)) n (nI r) (nI x)) (fun x r => r ≤ 256 ∧ ap_l W H (ap_F C) (fun x' y' _ _ => y' < y ∨ (y' = y ∧ x' < x)) r) W ?_ (W + 1) 0 s (by omega) (by omega) ⟨hs, ?_⟩⟩
    · intro n x r hI hx nx
      obtain ⟨hr, hl⟩ := hI
      refine ap_if ap_le (fun c => nm_r (nI_1 y) (hJ r hr (ap_l_m hl ?_))) (fun c => ?_)
      · intro x' y' w' h' h1 _ q g
        have := g.1
        left
        show y' < y ∨ (y' = y ∧ x' < x)
        have q' : y' < y + 1 := q
        omega
      · refine ap_xla I _ x y (by omega) hy (fun t ht hlt => ?_)
        have jn : ∀ x' y' w' h' : Nat, 1 ≤ w' → 1 ≤ h' → (y' < y ∨ (y' = y ∧ x' < x + 1)) → ap_G W H (ap_F C) x' y' w' h' → (y' < y ∨ (y' = y ∧ x' < x)) ∨ (x' = x ∧ y' = y) := by
          intro x' y' w' h' _ _ q _
          omega
        refine ap_if ap_le (fun c1 => nm_r (nI_1 x) (nx r ⟨hr, ap_l_j hl hlt (by omega) c1 (Or.inl rfl) jn⟩ (by omega))) (fun c1 => nm_r (nI_1 x) (nx t ⟨ht, ap_l_j hl hlt (by omega) (by omega) (Or.inr rfl) jn⟩ (by omega)))
    · refine ap_l_m hl0 (fun x' y' w' h' _ _ q _ => Or.inl ?_)
      show y' < y
      have q' : y' < y ∨ (y' = y ∧ x' < 0) := q
      omega
  refine Exists.intro (H + 1) (ap_loop (σ := Nat) (fun n y r => wX_largestHole_4 post (nI W) (nI H) (fun i => ap_b (P i)) (fun i => nI (L i)) (fun i => nI (B i)) (fun i => nI (w i)) (fun i => nI (h i)) n (nI r) (nI y)) (fun y r => r ≤ 256 ∧ ap_l W H (ap_F C) (fun _ y' _ _ => y' < y) r) H ?_ (H + 1) 0 0 (by omega) (by omega) ⟨by omega, ?_⟩)
  · intro n y r hI hy ny
    obtain ⟨hr, hl⟩ := hI
    refine ap_if ap_le (fun c => p r hr (ap_l_L hl ?_)) (fun c => ?_)
    · intro x' y' w' h' _ h1 g
      have := g.2.1
      show y' < y
      omega
    · exact inner _ y r (by omega) hr hl (fun t ht hlt => ny t ⟨ht, hlt⟩ (by omega))
  · refine ⟨fun x' y' w' h' _ _ q _ => absurd q (Nat.not_lt_zero _), Or.inl rfl⟩
theorem ap_xn (post : Int32 → Prop) (p : post (nI (ap_n P 20))) : wpX_countPlaced post (ap_X W H P L B w h) := by
  refine Exists.intro 21 (ap_loop (σ := Unit) (fun n i _ => wX_countPlaced_4 post (nI W) (nI H) (fun i => ap_b (P i)) (fun i => nI (L i)) (fun i => nI (B i)) (fun i => nI (w i)) (fun i => nI (h i)) n (nI (ap_n P i)) (nI i)) (fun _ _ => True) 20 ?_ 21 0 () (by omega) (by omega) trivial)
  intro n i _ _ hi nx
  refine ap_if (ap_le (a := 20)) (fun c => ?_) (fun c => ?_)
  · have e : i = 20 := by omega
    rw [e]
    exact p
  · have cl : (nI i).toNatClampNeg = i := nI_clamp (by omega)
    have s := nx () trivial (by omega)
    rw [ap_n_s] at s
    rw [cl]
    refine ⟨vp_in_nI (by omega) (by omega), br_c (fun e => nm_r (nI_1 i) ?_) (fun e => nm_r (nI_1 _) (nm_r (nI_1 i) ?_))⟩
    · have e' : P i = false := ap_b_0.mp e
      rw [if_neg (by rw [e']; exact Bool.noConfusion)] at s
      exact s
    · have e' : P i = true := ap_nt (fun z => e (ap_b_f z))
      rw [if_pos e'] at s
      exact s
theorem ap_xf (I : ap_I W H P L B w h C) (post : Int32 → Prop) (p : post (nI (ap_S (fun y => ap_S (fun x => ap_i (ap_F C x y)) W) H))) : wpX_freeCells post (ap_X W H P L B w h) := by
  have fr := ap_free I
  refine nm_r (pk_mul W H) (Exists.intro 21 ?_)
  have st : nI (W * H) = nI (W * H) - nI (ap_S (fun i => if P i = true then w i * h i else 0) 0) := by
    show nI (W * H) = nI (W * H) - nI 0
    rw [nI_0]
    exact (Int32.sub_zero _).symm
  rw [st]
  refine ap_loop (σ := Unit) (fun n i _ => wX_freeCells_12 post (nI W) (nI H) (fun i => ap_b (P i)) (fun i => nI (L i)) (fun i => nI (B i)) (fun i => nI (w i)) (fun i => nI (h i)) n (nI (W * H) - nI (ap_S (fun i => if P i = true then w i * h i else 0) i)) (nI i)) (fun _ _ => True) 20 ?_ 21 0 () (by omega) (by omega) trivial
  intro n i _ _ hi nx
  refine ap_if (ap_le (a := 20)) (fun c => ?_) (fun c => ?_)
  · have e : i = 20 := by omega
    rw [e, pk_sub (by omega)]
    have e2 : W * H - ap_S (fun i => if P i = true then w i * h i else 0) 20 = ap_S (fun y => ap_S (fun x => ap_i (ap_F C x y)) W) H := by omega
    rw [e2]
    exact p
  · have cl : (nI i).toNatClampNeg = i := nI_clamp (by omega)
    have vi : vp_in (nI i) 20 := vp_in_nI (by omega) (by omega)
    have s := nx () trivial (by omega)
    rw [ap_S_s] at s
    rw [cl]
    refine ⟨vi, br_c (fun e => nm_r (nI_1 i) ?_) (fun e => ⟨vi, vi, nm_r (ap_ssub _ _ _ _) (nm_r (nI_1 i) ?_)⟩)⟩
    · have e' : P i = false := ap_b_0.mp e
      rw [if_neg (by rw [e']; exact Bool.noConfusion)] at s
      exact s
    · have e' : P i = true := ap_nt (fun z => e (ap_b_f z))
      rw [if_pos e'] at s
      exact s
theorem ap_xfit (I : ap_I W H P L B w h C) (post : Int32 → Prop) (p : post (nI (ap_S (fun k => ap_S (fun j => ap_i (∃ x y, ap_G W H (ap_F C) x y (j + 1) (k + 1))) 16) 16))) : wpX_fitting post (ap_X W H P L B w h) := by
  have inner : ∀ (J : Int32 → Int32 → Prop) (k s : Nat), k < 16 → J (nI (s + ap_S (fun j => ap_i (∃ x y, ap_G W H (ap_F C) x y (j + 1) (k + 1))) 16)) (nI (k + 1 + 1)) →
      ∃ n, wX_fitting_12 post J (nI (k + 1)) (nI W) (nI H) (fun i => ap_b (P i)) (fun i => nI (L i)) (fun i => nI (B i)) (fun i => nI (w i)) (fun i => nI (h i)) n (nI s) 1 := by
    intro J k s hk hJ
    refine ⟨17, ap_loop (σ := Unit) (fun n j _ => wX_fitting_12 post J (nI (k + 1)) (nI W) (nI H) (fun i => ap_b (P i)) (fun i => nI (L i)) (fun i => nI (B i)) (fun i => nI (w i)) (fun i => nI (h i)) n (nI (s + ap_S (fun j => ap_i (∃ x y, ap_G W H (ap_F C) x y (j + 1) (k + 1))) j)) (nI (j + 1))) (fun _ _ => True) 16 ?_ 17 0 () (by omega) (by omega) trivial⟩
    intro n j _ _ hj nx
    refine ap_if (ap_lt (a := 16)) (fun c => nm_r (nI_1 (k + 1)) ?_) (fun c => ?_)
    · have e : j = 16 := by omega
      rw [e]
      exact hJ
    · have go : ∀ (t : Nat), ap_i (∃ x y, ap_G W H (ap_F C) x y (j + 1) (k + 1)) = t → ∀ z : Int32, z = nI (j + 1) + 1 → wX_fitting_12 post J (nI (k + 1)) (nI W) (nI H) (fun i => ap_b (P i)) (fun i => nI (L i)) (fun i => nI (B i)) (fun i => nI (w i)) (fun i => nI (h i)) n (nI (s + ap_S (fun j => ap_i (∃ x y, ap_G W H (ap_F C) x y (j + 1) (k + 1))) j + t)) z := by
        intro t e z ez
        rw [ez, nI_1, ← e]
        rw [Nat.add_assoc s]
        exact nx () trivial (by omega)
      refine ap_xb I _ (j + 1) (k + 1) (by omega) (by omega) (by omega) (by omega) (fun r hr => ?_)
      rcases hr with ⟨x, y, hx, hy, g, e, _⟩ | ⟨e, ng⟩
      · rw [e]
        exact br_f (ap_m3 (by omega)) (nm_r (nI_1 _) (go 1 (ap_i_t ⟨x, y, g⟩)))
      · rw [e]
        exact br_t rfl (go 0 (ap_i_f (fun ⟨x, y, g⟩ => ng x y g)))
  refine Exists.intro 17 (ap_loop (σ := Unit) (fun n k _ => wX_fitting_4 post (nI W) (nI H) (fun i => ap_b (P i)) (fun i => nI (L i)) (fun i => nI (B i)) (fun i => nI (w i)) (fun i => nI (h i)) n (nI (ap_S (fun k => ap_S (fun j => ap_i (∃ x y, ap_G W H (ap_F C) x y (j + 1) (k + 1))) 16) k)) (nI (k + 1))) (fun _ _ => True) 16 ?_ 17 0 () (by omega) (by omega) trivial)
  intro n k _ _ hk nk
  refine ap_if (ap_lt (a := 16)) (fun c => ?_) (fun c => ?_)
  · have e : k = 16 := by omega
    rw [e]
    exact p
  · exact inner _ k _ (by omega) (nk () trivial (by omega))
theorem ap_xs (post : Int32 → Prop) (p1 : ∀ i, ap_U P i → post (nI i)) (p2 : (∀ i, i < 20 → P i = true) → post (-2)) : wpX_smallestUnusedNumber post (ap_X W H P L B w h) := by
  refine Exists.intro 21 (ap_loop (σ := Unit) (fun n i _ => wX_smallestUnusedNumber_2 post (nI W) (nI H) (fun i => ap_b (P i)) (fun i => nI (L i)) (fun i => nI (B i)) (fun i => nI (w i)) (fun i => nI (h i)) n (nI i)) (fun i _ => ∀ j, j < i → P j = true) 20 ?_ 21 0 () (by omega) (by omega) lt_0)
  intro n i _ hI hi nx
  refine ap_if (ap_le (a := 20)) (fun c => p2 (fun j hj => hI j (by omega))) (fun c => ?_)
  have cl : (nI i).toNatClampNeg = i := nI_clamp (by omega)
  rw [cl]
  refine ⟨vp_in_nI (by omega) (by omega), br_c (fun e => p1 i ⟨by omega, ap_b_0.mp e, hI⟩) (fun e => nm_r (nI_1 i) (nx () (lt_s hI (ap_nt (fun z => e (ap_b_f z)))) (by omega)))⟩
end
