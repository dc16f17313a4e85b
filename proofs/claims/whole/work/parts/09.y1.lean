/-! the reference's walks that only read -/
section
variable {W H : Nat} {P : Nat → Bool} {L B w h : Nat → Nat} {C : Nat → Int32}
theorem ap_yg (hW : W ≤ 16) (hH : H ≤ 16) (post : Int32 → Prop) (x y a b : Nat) (hx : x < 100) (hy : y < 100) (ha : a < 100) (hb : b < 100)
    (p1 : ap_G W H (ap_F C) x y a b → post 1) (p0 : ¬ ap_G W H (ap_F C) x y a b → post 0) :
    wpY_good post (ap_Y W H P L B w h C) (nI x) (nI y) (nI a) (nI b) := by
  refine br_f (nI_pos (by omega)) (br_f (nI_pos (by omega)) (ap_if ap_lta (fun c => p0 (fun q => by have := q.1; omega)) (fun c1 => ap_if ap_lea (fun c2 => ?_) (fun c2 => p0 (fun q => by have := q.2.1; omega)))))
  have inner : ∀ (J : Int32 → Prop) (j : Nat), y ≤ j → j < y + b → ap_Q (ap_F C) x a y j x → (ap_Q (ap_F C) x a y (j + 1) x → J (nI (j + 1))) →
      ∃ n, wY_good_46 post J (nI x) (nI y) (nI a) (nI b) (nI j) (nI W) (nI H) C (fun i => nI (L i)) (fun i => nI (B i)) (fun i => nI (w i)) (fun i => nI (h i)) (fun i => ap_b (P i)) n (nI x) := by
    intro J j hj1 hj2 hQ hJ
    refine ⟨x + a + 1, ap_loop (σ := Unit) (fun n i _ => wY_good_46 post J (nI x) (nI y) (nI a) (nI b) (nI j) (nI W) (nI H) C (fun i => nI (L i)) (fun i => nI (B i)) (fun i => nI (w i)) (fun i => nI (h i)) (fun i => ap_b (P i)) n (nI i)) (fun i _ => x ≤ i ∧ ap_Q (ap_F C) x a y j i) (x + a) ?_ (x + a + 1) x () (by omega) (by omega) ⟨Nat.le_refl _, hQ⟩⟩
    intro n i _ hI hi nx
    obtain ⟨hi1, hq⟩ := hI
    refine ap_if ap_lea (fun c => nm_r (nI_1 j) (hJ (ap_Q_r ?_))) (fun c => ?_)
    · have e : i = x + a := by omega
      rw [e] at hq
      exact hq
    · rw [ap_16, nI_clamp (by omega)]
      refine ⟨vp_in_nI (by omega) (by omega), br_c (fun e => nm_r (nI_1 i) (nx () ⟨by omega, ap_Q_s hq e⟩ (by omega))) (fun e => p0 (fun q => e (q.2.2 i j hi1 (by omega) hj1 hj2)))⟩
  refine Exists.intro (y + b + 1) (ap_loop (σ := Unit) (fun n j _ => wY_good_34 post (nI x) (nI y) (nI a) (nI b) (nI W) (nI H) C (fun i => nI (L i)) (fun i => nI (B i)) (fun i => nI (w i)) (fun i => nI (h i)) (fun i => ap_b (P i)) n (nI j)) (fun j _ => y ≤ j ∧ ap_Q (ap_F C) x a y j x) (y + b) ?_ (y + b + 1) y () (by omega) (by omega) ⟨Nat.le_refl _, ap_Q_0⟩)
  intro n j _ hI hj nj
  obtain ⟨hj1, hq⟩ := hI
  refine ap_if ap_lea (fun c => p1 (ap_Q_e ?_ (by omega) c2)) (fun c => inner _ j hj1 (by omega) hq (fun q => nj () ⟨by omega, q⟩ (by omega)))
  have e : j = y + b := by omega
  rw [e] at hq
  exact hq
theorem ap_ygl (hW : W ≤ 16) (hH : H ≤ 16) (post : Int32 → Prop) (x y a b : Nat) (hx : x < 100) (hy : y < 100) (ha : a < 100) (hb : b < 100)
    (p1 : (∃ x', x = x' + 1 ∧ ap_G W H (ap_F C) x' y a b) → post 1) (p0 : ¬ (∃ x', x = x' + 1 ∧ ap_G W H (ap_F C) x' y a b) → post 0) :
    wpY_good post (ap_Y W H P L B w h C) (nI x - 1) (nI y) (nI a) (nI b) := by
  cases x with
  | zero => exact br_t ap_neg1 (p0 (fun ⟨x', e, _⟩ => by omega))
  | succ x' =>
    rw [nI_pred]
    exact ap_yg hW hH post x' y a b (by omega) hy ha hb (fun q => p1 ⟨x', rfl, q⟩) (fun q => p0 (fun ⟨x2, e, k⟩ => q (by
      have e2 : x' = x2 := by omega
      rw [e2]; exact k)))
theorem ap_ygd (hW : W ≤ 16) (hH : H ≤ 16) (post : Int32 → Prop) (x y a b : Nat) (hx : x < 100) (hy : y < 100) (ha : a < 100) (hb : b < 100)
    (p1 : (∃ y', y = y' + 1 ∧ ap_G W H (ap_F C) x y' a b) → post 1) (p0 : ¬ (∃ y', y = y' + 1 ∧ ap_G W H (ap_F C) x y' a b) → post 0) :
    wpY_good post (ap_Y W H P L B w h C) (nI x) (nI y - 1) (nI a) (nI b) := by
  cases y with
  | zero => exact br_f (nI_pos (by omega)) (br_t ap_neg1 (p0 (fun ⟨x', e, _⟩ => by omega)))
  | succ y' =>
    rw [nI_pred]
    exact ap_yg hW hH post x y' a b hx (by omega) ha hb (fun q => p1 ⟨y', rfl, q⟩) (fun q => p0 (fun ⟨x2, e, k⟩ => q (by
      have e2 : y' = x2 := by omega
      rw [e2]; exact k)))
theorem ap_yb (hW : W ≤ 16) (hH : H ≤ 16) (post : Int32 → Prop) (a b : Nat) (ha1 : 1 ≤ a) (hb1 : 1 ≤ b) (ha : a < 100) (hb : b < 100)
    (p : ∀ r, ap_B (fun x y => ap_G W H (ap_F C) x y a b) r → post r) : wpY_best post (ap_Y W H P L B w h C) (nI a) (nI b) := by
  have inner : ∀ (J : Int32 → Prop) (y : Nat), y < H → (ap_N (fun x y => ap_G W H (ap_F C) x y a b) (y + 1) 0 → J (nI (y + 1))) → ap_N (fun x y => ap_G W H (ap_F C) x y a b) y 0 →
      ∃ n, wY_best_13 post J (nI a) (nI b) (nI y) (nI W) (nI H) C (fun i => nI (L i)) (fun i => nI (B i)) (fun i => nI (w i)) (fun i => nI (h i)) (fun i => ap_b (P i)) n 0 := by
    intro J y hy hJ hN
    refine ⟨W + 1, ap_loop (σ := Unit) (fun n x _ => wY_best_13 post J (nI a) (nI b) (nI y) (nI W) (nI H) C (fun i => nI (L i)) (fun i => nI (B i)) (fun i => nI (w i)) (fun i => nI (h i)) (fun i => ap_b (P i)) n (nI x)) (fun x _ => ap_N (fun x y => ap_G W H (ap_F C) x y a b) y x) W ?_ (W + 1) 0 () (by omega) (by omega) hN⟩
    intro n x _ hI hx nx
    refine ap_if ap_le (fun c => nm_r (nI_1 y) (hJ (ap_N_r hI (fun x' q => by have := q.1; omega)))) (fun c => ?_)
    refine ap_yg hW hH _ x y a b (by omega) (by omega) ha hb (fun q => br_f ap_10 ?_) (fun q => br_t rfl (nm_r (nI_1 x) (nx () (ap_N_s hI q) (by omega))))
    rw [ap_256]
    exact p _ (ap_N_g hI q (by omega) (by omega))
  refine Exists.intro (H + 1) (ap_loop (σ := Unit) (fun n y _ => wY_best_2 post (nI a) (nI b) (nI W) (nI H) C (fun i => nI (L i)) (fun i => nI (B i)) (fun i => nI (w i)) (fun i => nI (h i)) (fun i => ap_b (P i)) n (nI y)) (fun y _ => ap_N (fun x y => ap_G W H (ap_F C) x y a b) y 0) H ?_ (H + 1) 0 () (by omega) (by omega) ap_N_0)
  intro n y _ hI hy ny
  exact ap_if ap_le (fun c => p _ (ap_N_e hI (fun x' y' q => by have := q.2.1; omega))) (fun c => inner _ y (by omega) (fun hN => ny () hN (by omega)) hI)
theorem ap_yt (hW : W ≤ 16) (hH : H ≤ 16) (post : Int32 → Prop) (x y a : Nat) (ha1 : 1 ≤ a) (hx : x + a ≤ W) (hy : y < H)
    (p : ∀ v, v ≤ 16 → ap_t W H (ap_F C) x y a v → post (nI v)) : wpY_tallest post (ap_Y W H P L B w h C) (nI x) (nI y) (nI a) := by
  refine Exists.intro 17 (ap_loop (σ := Unit) (fun n k _ => wY_tallest_3 post (nI x) (nI y) (nI a) (nI W) (nI H) C (fun i => nI (L i)) (fun i => nI (B i)) (fun i => nI (w i)) (fun i => nI (h i)) (fun i => ap_b (P i)) n (nI (k + 1))) (fun k _ => ap_G W H (ap_F C) x y a k) 16 ?_ 17 0 () (by omega) (by omega) ⟨hx, by omega, fun i j h1 h2 h3 h4 => by omega⟩)
  intro n k _ hI hk nx
  have hk2 := hI.2.1
  have es : nI H - nI y = nI (H - y) := pk_sub (by omega)
  refine ap_if (d := H - y < k + 1) (by rw [es]; exact ap_lt) (fun c => ?_) (fun c => ?_)
  · have e : H - y = k := by omega
    rw [es, e]
    exact p k hk ⟨Or.inr hI, fun q => by have := q.2.1; omega⟩
  · rw [ap_p1 y k]
    refine ap_yg hW hH _ x (y + k) a 1 (by omega) (by omega) (by omega) (by omega) (fun q => br_f ap_10 (nm_r (nI_1 (k + 1)) (nx () (ap_G_u hI q) (by omega)))) (fun q => br_t rfl ?_)
    rw [nI_pred]
    exact p k hk ⟨Or.inr hI, fun g => q (ap_G_s g (by omega) (by omega) (by omega) (by omega))⟩
theorem ap_ytn (post : Int32 → Prop) (x y a : Nat) (hH : H ≤ 16) (hy : H ≤ y) (hy2 : y < 16) (p : ∀ r : Int32, r ≤ 0 → post r) : wpY_tallest post (ap_Y W H P L B w h C) (nI x) (nI y) (nI a) := by
  have e := pk_sub_toInt (a := H) (b := y) (by omega) (by omega)
  have e0 : (0 : Int32).toInt = 0 := by decide
  have e1 : (1 : Int32).toInt = 1 := by decide
  refine Exists.intro 1 (br_t ?_ (p _ ?_))
  · rw [Int32.lt_iff_toInt_lt, e, e1]
    omega
  · rw [Int32.le_iff_toInt_le, e, e0]
    omega
theorem ap_yc (hW : W ≤ 16) (hH : H ≤ 16) (post : Int32 → Prop) (x y a b : Nat) (hx : x < 50) (hy : y < 50) (ha : a < 50) (hb : b < 50)
    (p1 : ap_cl W H (ap_F C) x y a b → post 1) (p0 : ¬ ap_cl W H (ap_F C) x y a b → post 0) :
    wpY_closed post (ap_Y W H P L B w h C) (nI x) (nI y) (nI a) (nI b) := by
  unfold wpY_closed
  dsimp only
  rw [nI_add x a]
  refine ap_ygl hW hH _ x y 1 b (by omega) (by omega) (by omega) (by omega) (fun q => br_f ap_10 (p0 (fun c => c.1 q))) (fun q1 => br_t rfl ?_)
  refine ap_yg hW hH _ (x + a) y 1 b (by omega) (by omega) (by omega) (by omega) (fun q => br_f ap_10 (p0 (fun c => c.2.1 q))) (fun q2 => br_t rfl ?_)
  exact ap_ygd hW hH _ x y a 1 (by omega) (by omega) (by omega) (by omega) (fun q => br_f ap_10 (p0 (fun c => c.2.2 q))) (fun q3 => br_t rfl (p1 ⟨q1, q2, q3⟩))
theorem ap_ya (hW : W ≤ 16) (hH : H ≤ 16) (post : Int32 → Prop) (x y a : Nat) (hx : x < 16) (hy : y < 16) (ha1 : 1 ≤ a) (ha : a ≤ 16)
    (p1 : ∀ v, 1 ≤ v → v ≤ 16 → ap_M W H (ap_F C) x y a v → post (nI (a * v))) (p0 : (∀ v, ¬ ap_M W H (ap_F C) x y a v) → post 0) :
    wpY_areaOfHole post (ap_Y W H P L B w h C) (nI x) (nI y) (nI a) := by
  have e := pk_sub_toInt (a := W) (b := x) (by omega) (by omega)
  refine ap_if (d := x + a ≤ W) ?_ (fun c => ?_) (fun c => p0 (fun v m => c m.2.2.1.1))
  · rw [Int32.le_iff_toInt_le, e, nI_toInt (by omega)]
    omega
  · by_cases hy3 : y < H
    · refine ap_yt hW hH _ x y a ha1 c hy3 (fun v hv t => ap_if ap_le0 (fun c0 => p0 (fun v' m => ?_)) (fun c0 => ?_))
      · have e := ap_t_u (ap_M_t m) t
        have := m.2.1
        omega
      · have cm := ap_cl_M t ha1 (by omega)
        refine ap_yc hW hH _ x y a v (by omega) (by omega) (by omega) (by omega) (fun q => br_f ap_10 ?_) (fun q => br_t rfl (p0 (fun v' m => ?_)))
        · rw [pk_mul]
          exact p1 v (by omega) hv (cm.mpr q)
        · have e := ap_t_u (ap_M_t m) t
          subst e
          exact q (cm.mp m)
    · exact ap_ytn _ x y a hH (by omega) hy (fun r hr => br_t hr (p0 (fun v m => by
        have m1 := m.2.1
        have m2 := m.2.2.1.2.1
        omega)))
theorem ap_yholes (hW : W ≤ 16) (hH : H ≤ 16) (post : Int32 → Prop) (p : post (nI (ap_S (ap_nh W H (ap_F C)) 256))) : wpY_holes post (ap_Y W H P L B w h C) := by
  have inner : ∀ (J : Int32 → Int32 → Prop) (k s : Nat), k < 256 → J (nI (s + ap_nh W H (ap_F C) k)) (nI (k + 1)) →
      ∃ n, wY_holes_13 post J (nI k) (nI W) (nI H) C (fun i => nI (L i)) (fun i => nI (B i)) (fun i => nI (w i)) (fun i => nI (h i)) (fun i => ap_b (P i)) n (nI s) 1 := by
    intro J k s hk hJ
    refine ⟨W + 1, ap_loop (σ := Unit) (fun n j _ => wY_holes_13 post J (nI k) (nI W) (nI H) C (fun i => nI (L i)) (fun i => nI (B i)) (fun i => nI (w i)) (fun i => nI (h i)) (fun i => ap_b (P i)) n (nI (s + ap_S (fun j => ap_i (∃ v, ap_M W H (ap_F C) (k % 16) (k / 16) (j + 1) v)) j)) (nI (j + 1))) (fun _ _ => True) W ?_ (W + 1) 0 () (by omega) (by omega) trivial⟩
    intro n j _ _ hj nx
    refine ap_if ap_lt (fun c => nm_r (nI_1 k) ?_) (fun c => ?_)
    · have e : j = W := by omega
      rw [e]
      exact hJ
    · have go : ∀ (t : Nat), ap_i (∃ v, ap_M W H (ap_F C) (k % 16) (k / 16) (j + 1) v) = t → ∀ z : Int32, z = nI (j + 1) + 1 → wY_holes_13 post J (nI k) (nI W) (nI H) C (fun i => nI (L i)) (fun i => nI (B i)) (fun i => nI (w i)) (fun i => nI (h i)) (fun i => ap_b (P i)) n (nI (s + ap_S (fun j => ap_i (∃ v, ap_M W H (ap_F C) (k % 16) (k / 16) (j + 1) v)) j + t)) z := by
        intro t e z ez
        rw [ez, nI_1, ← e, Nat.add_assoc s]
        exact nx () trivial (by omega)
      rw [ap_and15 hk, ap_shr4 hk]
      refine ap_ya hW hH _ (k % 16) (k / 16) (j + 1) (by omega) (by omega) (by omega) (by omega) (fun v hv1 hv m => ?_) (fun q => ?_)
      · have h16 : j + 1 ≤ 16 := by omega
        have hm : (j + 1) * v ≤ 256 := Nat.le_trans (Nat.mul_le_mul h16 hv) (by omega)
        have hp : 0 < (j + 1) * v := Nat.mul_pos (by omega) hv1
        exact ap_if ap_le0 (fun c0 => absurd c0 (by omega)) (fun c0 => nm_r (nI_1 _) (go 1 (ap_i_t ⟨v, m⟩)))
      · exact br_t (Int32.le_refl 0) (go 0 (ap_i_f (fun ⟨v, m⟩ => q v m)))
  refine Exists.intro 257 (ap_loop (σ := Unit) (fun n k _ => wY_holes_4 post (nI W) (nI H) C (fun i => nI (L i)) (fun i => nI (B i)) (fun i => nI (w i)) (fun i => nI (h i)) (fun i => ap_b (P i)) n (nI (ap_S (ap_nh W H (ap_F C)) k)) (nI k)) (fun _ _ => True) 256 ?_ 257 0 () (by omega) (by omega) trivial)
  intro n k _ _ hk nk
  refine ap_if (ap_le (a := 256)) (fun c => ?_) (fun c => ?_)
  · have e : k = 256 := by omega
    rw [e]
    exact p
  · exact inner _ k _ (by omega) (nk () trivial (by omega))
/-- the greatest hole among those seen -/
def ap_lm (W H : Nat) (F : Nat → Nat → Prop) (Q : Nat → Nat → Nat → Prop) (r : Nat) : Prop :=
  (∀ x y v b, Q x y v → ap_M W H F x y v b → v * b ≤ r) ∧ (r = 0 ∨ ∃ x y v b, ap_M W H F x y v b ∧ v * b = r)
theorem ap_ylh (hW : W ≤ 16) (hH : H ≤ 16) (post : Int32 → Prop) (p : ∀ r, r ≤ 256 → ap_LM W H (ap_F C) r → post (nI r)) : wpY_largestHole post (ap_Y W H P L B w h C) := by
  have inner : ∀ (J : Int32 → Int32 → Prop) (k s : Nat), k < 256 → s ≤ 256 → ap_lm W H (ap_F C) (fun x y _ => 16 * y + x < k) s → (∀ t, t ≤ 256 → ap_lm W H (ap_F C) (fun x y _ => 16 * y + x < k + 1) t → J (nI t) (nI (k + 1))) →
      ∃ n, wY_largestHole_13 post J (nI k) (nI W) (nI H) C (fun i => nI (L i)) (fun i => nI (B i)) (fun i => nI (w i)) (fun i => nI (h i)) (fun i => ap_b (P i)) n (nI s) 1 := by
    intro J k s hk hs hl0 hJ
    refine ⟨W + 1, ap_loop (σ := Nat) (fun n j r => wY_largestHole_13 post J (nI k) (nI W) (nI H) C (fun i => nI (L i)) (fun i => nI (B i)) (fun i => nI (w i)) (fun i => nI (h i)) (fun i => ap_b (P i)) n (nI r) (nI (j + 1))) (fun j r => r ≤ 256 ∧ ap_lm W H (ap_F C) (fun x y v => 16 * y + x < k ∨ (16 * y + x = k ∧ v ≤ j)) r) W ?_ (W + 1) 0 s (by omega) (by omega) ⟨hs, ?_⟩⟩
    · intro n j r hI hj nx
      obtain ⟨hr, hl1, hl2⟩ := hI
      refine ap_if ap_lt (fun c => nm_r (nI_1 k) (hJ r hr ⟨fun x y v b q m => hl1 x y v b ?_ m, hl2⟩)) (fun c => ?_)
      · have q' : 16 * y + x < k + 1 := q
        have := m.2.2.1.1
        show 16 * y + x < k ∨ (16 * y + x = k ∧ v ≤ j)
        omega
      · rw [ap_and15 hk, ap_shr4 hk]
        have sp : ∀ x y v b : Nat, (16 * y + x < k ∨ (16 * y + x = k ∧ v ≤ j + 1)) → ap_M W H (ap_F C) x y v b → (16 * y + x < k ∨ (16 * y + x = k ∧ v ≤ j)) ∨ (x = k % 16 ∧ y = k / 16 ∧ v = j + 1) := by
          intro x y v b q m
          have m1 := m.1
          have m2 := m.2.2.1.1
          omega
        refine ap_ya hW hH _ (k % 16) (k / 16) (j + 1) (by omega) (by omega) (by omega) (by omega) (fun v hv1 hv m => ?_) (fun q => ?_)
        · have h16 : j + 1 ≤ 16 := by omega
          have hm : (j + 1) * v ≤ 256 := Nat.le_trans (Nat.mul_le_mul h16 hv) (by omega)
          have key : ∀ t, r ≤ t → (j + 1) * v ≤ t → ∀ x y v' b : Nat, (16 * y + x < k ∨ (16 * y + x = k ∧ v' ≤ j + 1)) → ap_M W H (ap_F C) x y v' b → v' * b ≤ t := by
            intro t ht1 ht2 x y v' b q m'
            rcases sp x y v' b q m' with c1 | ⟨c1, c2, c3⟩
            · exact Nat.le_trans (hl1 x y v' b c1 m') ht1
            · subst c1 c2 c3
              rw [ap_t_u (ap_M_t m') (ap_M_t m)]
              exact ht2
          refine ap_if ap_le (fun c1 => nm_r (nI_1 (j + 1)) (nx r ⟨hr, key r (Nat.le_refl _) c1, hl2⟩ (by omega))) (fun c1 => nm_r (nI_1 (j + 1)) (nx ((j + 1) * v) ⟨hm, key _ (by omega) (Nat.le_refl _), Or.inr ⟨_, _, _, _, m, rfl⟩⟩ (by omega)))
        · refine br_t (nI_le (a := 0) (Nat.zero_le r) (by omega)) (nm_r (nI_1 (j + 1)) (nx r ⟨hr, fun x y v b c m => ?_, hl2⟩ (by omega)))
          rcases sp x y v b c m with c1 | ⟨c1, c2, c3⟩
          · exact hl1 x y v b c1 m
          · subst c1 c2 c3
            exact absurd m (q b)
    · refine ⟨fun x y v b q m => hl0.1 x y v b ?_ m, hl0.2⟩
      have q' : 16 * y + x < k ∨ (16 * y + x = k ∧ v ≤ 0) := q
      have := m.1
      show 16 * y + x < k
      omega
  refine Exists.intro 257 (ap_loop (σ := Nat) (fun n k r => wY_largestHole_4 post (nI W) (nI H) C (fun i => nI (L i)) (fun i => nI (B i)) (fun i => nI (w i)) (fun i => nI (h i)) (fun i => ap_b (P i)) n (nI r) (nI k)) (fun k r => r ≤ 256 ∧ ap_lm W H (ap_F C) (fun x y _ => 16 * y + x < k) r) 256 ?_ 257 0 0 (by omega) (by omega) ⟨by omega, fun x y v b q _ => absurd q (Nat.not_lt_zero _), Or.inl rfl⟩)
  intro n k r hI hk nk
  obtain ⟨hr, hl⟩ := hI
  refine ap_if (ap_le (a := 256)) (fun c => p r hr ⟨fun x y v b m => hl.1 x y v b ?_ m, hl.2⟩) (fun c => ?_)
  · have m1 := m.1
    have m2 := m.2.1
    have m3 := m.2.2.1.1
    have m4 := m.2.2.1.2.1
    show 16 * y + x < k
    omega
  · exact inner _ k r (by omega) hr hl (fun t ht hlt => nk t ⟨ht, hlt⟩ (by omega))
theorem ap_yfit (hW : W ≤ 16) (hH : H ≤ 16) (post : Int32 → Prop) (p : post (nI (ap_S (fun j => ap_c W H (ap_F C) (j + 1)) W))) : wpY_fitting post (ap_Y W H P L B w h C) := by
  have inner : ∀ (J : Int32 → Int32 → Prop) (j s : Nat), j < W → J (nI (s + ap_c W H (ap_F C) (j + 1))) (nI (j + 1 + 1)) →
      ∃ n, wY_fitting_17 post J (nI s) (nI (j + 1)) (nI W) (nI H) C (fun i => nI (L i)) (fun i => nI (B i)) (fun i => nI (w i)) (fun i => nI (h i)) (fun i => ap_b (P i)) n 0 0 := by
    intro J j s hj hJ
    refine ⟨257, ap_loop (σ := Nat) (fun n k m => wY_fitting_17 post J (nI s) (nI (j + 1)) (nI W) (nI H) C (fun i => nI (L i)) (fun i => nI (B i)) (fun i => nI (w i)) (fun i => nI (h i)) (fun i => ap_b (P i)) n (nI m) (nI k)) (fun k m => m ≤ 16 ∧ (∀ x y b, x < 16 → 16 * y + x < k → ap_G W H (ap_F C) x y (j + 1) b → b ≤ m) ∧ (m = 0 ∨ ∃ x y, ap_G W H (ap_F C) x y (j + 1) m)) 256 ?_ 257 0 0 (by omega) (by omega) ⟨by omega, fun x y b _ q _ => absurd q (Nat.not_lt_zero _), Or.inl rfl⟩⟩
    intro n k m hI hk nx
    obtain ⟨hm, hm1, hm2⟩ := hI
    refine ap_if (ap_le (a := 256)) (fun c => nm_r (nI_add _ _) (nm_r (nI_1 _) ?_)) (fun c => ?_)
    · have e : ap_c W H (ap_F C) (j + 1) = m := by
        refine ap_c_m hH (fun x y b g => ?_) hm2
        have g1 := g.1
        have g2 := g.2.1
        by_cases hy : y < 16
        · exact hm1 x y b (by omega) (by omega) g
        · omega
      rw [← e]
      exact hJ
    · have hk' : k < 256 := by omega
      have fin : ∀ b, b ≤ 16 → (∀ b', ap_G W H (ap_F C) (k % 16) (k / 16) (j + 1) b' → b' ≤ b) → (b = 0 ∨ ap_G W H (ap_F C) (k % 16) (k / 16) (j + 1) b) → wY_fitting_68 post J (wY_fitting_17 post J (nI s) (nI (j + 1)) (nI W) (nI H) C (fun i => nI (L i)) (fun i => nI (B i)) (fun i => nI (w i)) (fun i => nI (h i)) (fun i => ap_b (P i)) n) (nI s) (nI (j + 1)) (nI m) (nI k) (nI b) (nI W) (nI H) C (fun i => nI (L i)) (fun i => nI (B i)) (fun i => nI (w i)) (fun i => nI (h i)) (fun i => ap_b (P i)) := by
        intro b hb q1 q2
        have key : ∀ t, m ≤ t → b ≤ t → ∀ x y b', x < 16 → 16 * y + x < k + 1 → ap_G W H (ap_F C) x y (j + 1) b' → b' ≤ t := by
          intro t t1 t2 x y b' hx hq g
          by_cases e : 16 * y + x = k
          · have ex : x = k % 16 := by omega
            have ey : y = k / 16 := by omega
            rw [ex, ey] at g
            exact Nat.le_trans (q1 b' g) t2
          · exact Nat.le_trans (hm1 x y b' hx (by omega) g) t1
        refine ap_if ap_le (fun c1 => nm_r (nI_1 k) (nx m ⟨hm, key m (Nat.le_refl _) c1, hm2⟩ hk')) (fun c1 => nm_r (nI_1 k) (nx b ⟨hb, key b (by omega) (Nat.le_refl _), ?_⟩ hk'))
        rcases q2 with q2 | q2
        · exact Or.inl q2
        · exact Or.inr ⟨_, _, q2⟩
      rw [ap_and15 hk', ap_shr4 hk']
      refine ap_if ap_lta (fun c1 => fin 0 (by omega) (fun b' g => by have := g.1; omega) (Or.inl rfl)) (fun c1 => ap_if ap_lt (fun c2 => ?_) (fun c2 => fin 0 (by omega) (fun b' g => by have := g.2.1; omega) (Or.inl rfl)))
      refine ap_yt hW hH _ (k % 16) (k / 16) (j + 1) (by omega) (by omega) c2 (fun v hv t => fin v hv (fun b' g => ?_) t.1)
      by_cases e : b' ≤ v
      · exact e
      · exact absurd (ap_G_s g (by omega) (by omega) (by omega) (by omega)) t.2
  refine Exists.intro (W + 1) (ap_loop (σ := Unit) (fun n j _ => wY_fitting_4 post (nI W) (nI H) C (fun i => nI (L i)) (fun i => nI (B i)) (fun i => nI (w i)) (fun i => nI (h i)) (fun i => ap_b (P i)) n (nI (ap_S (fun j => ap_c W H (ap_F C) (j + 1)) j)) (nI (j + 1))) (fun _ _ => True) W ?_ (W + 1) 0 () (by omega) (by omega) trivial)
  intro n j _ _ hj nj
  refine ap_if ap_lt (fun c => ?_) (fun c => ?_)
  · have e : j = W := by omega
    rw [e]
    exact p
  · exact inner _ j _ (by omega) (nj () trivial (by omega))
theorem ap_yn (post : Int32 → Prop) (p : post (nI (ap_n P 20))) : wpY_count post (ap_Y W H P L B w h C) := by
  refine Exists.intro 21 (ap_loop (σ := Unit) (fun n i _ => wY_count_4 post (nI W) (nI H) C (fun i => nI (L i)) (fun i => nI (B i)) (fun i => nI (w i)) (fun i => nI (h i)) (fun i => ap_b (P i)) n (nI (ap_n P i)) (nI i)) (fun _ _ => True) 20 ?_ 21 0 () (by omega) (by omega) trivial)
  intro n i _ _ hi nx
  refine ap_if (ap_le (a := 20)) (fun c => ?_) (fun c => ?_)
  · have e : i = 20 := by omega
    rw [e]
    exact p
  · have cl : (nI i).toNatClampNeg = i := nI_clamp (by omega)
    have s := nx () trivial (by omega)
    rw [ap_n_s] at s
    rw [cl]
    refine ⟨vp_in_nI (by omega) (by omega), br_c (fun e => nm_r (nI_1 i) ?_) (fun e => nm_r (nI_1 _) (nm_r (nI_1 i) ?_))⟩
    · have e' : P i = false := ap_b_0.mp e
      rw [if_neg (by rw [e']; exact Bool.noConfusion)] at s
      exact s
    · have e' : P i = true := ap_nt (fun z => e (ap_b_f z))
      rw [if_pos e'] at s
      exact s
theorem ap_yf (hW : W ≤ 16) (hH : H ≤ 16) (post : Int32 → Prop) (p : post (nI (ap_S (fun y => ap_S (fun x => ap_i (ap_F C x y)) W) H))) : wpY_freeCells post (ap_Y W H P L B w h C) := by
  have inner : ∀ (J : Int32 → Int32 → Prop) (y s : Nat), y < H → J (nI (s + ap_S (fun x => ap_i (ap_F C x y)) W)) (nI (y + 1)) →
      ∃ n, wY_freeCells_14 post J (nI y) (nI W) (nI H) C (fun i => nI (L i)) (fun i => nI (B i)) (fun i => nI (w i)) (fun i => nI (h i)) (fun i => ap_b (P i)) n (nI s) 0 := by
    intro J y s hy hJ
    refine ⟨W + 1, ap_loop (σ := Unit) (fun n x _ => wY_freeCells_14 post J (nI y) (nI W) (nI H) C (fun i => nI (L i)) (fun i => nI (B i)) (fun i => nI (w i)) (fun i => nI (h i)) (fun i => ap_b (P i)) n (nI (s + ap_S (fun x => ap_i (ap_F C x y)) x)) (nI x)) (fun _ _ => True) W ?_ (W + 1) 0 () (by omega) (by omega) trivial⟩
    intro n x _ _ hx nx
    refine ap_if ap_le (fun c => nm_r (nI_1 y) ?_) (fun c => ?_)
    · have e : x = W := by omega
      rw [e]
      exact hJ
    · have go : ∀ (t : Nat), ap_i (ap_F C x y) = t → ∀ z : Int32, z = nI x + 1 → wY_freeCells_14 post J (nI y) (nI W) (nI H) C (fun i => nI (L i)) (fun i => nI (B i)) (fun i => nI (w i)) (fun i => nI (h i)) (fun i => ap_b (P i)) n (nI (s + ap_S (fun x => ap_i (ap_F C x y)) x + t)) z := by
        intro t e z ez
        rw [ez, nI_1, ← e, Nat.add_assoc s]
        exact nx () trivial (by omega)
      rw [ap_16, nI_clamp (by omega)]
      exact ⟨vp_in_nI (by omega) (by omega), br_c (fun e => nm_r (nI_1 _) (go 1 (ap_i_t e))) (fun e => go 0 (ap_i_f e))⟩
  refine Exists.intro (H + 1) (ap_loop (σ := Unit) (fun n y _ => wY_freeCells_4 post (nI W) (nI H) C (fun i => nI (L i)) (fun i => nI (B i)) (fun i => nI (w i)) (fun i => nI (h i)) (fun i => ap_b (P i)) n (nI (ap_S (fun y => ap_S (fun x => ap_i (ap_F C x y)) W) y)) (nI y)) (fun _ _ => True) H ?_ (H + 1) 0 () (by omega) (by omega) trivial)
  intro n y _ _ hy ny
  refine ap_if ap_le (fun c => ?_) (fun c => ?_)
  · have e : y = H := by omega
    rw [e]
    exact p
  · exact inner _ y _ (by omega) (ny () trivial (by omega))
end
