/-! the reference's walks that store; putting down on both sides -/
section
variable {W H : Nat} {P : Nat → Bool} {L B w h : Nat → Nat} {C : Nat → Int32}
theorem ap_ypaint (post : SY → Prop) (id : Nat) (v : Int32) (hi : id < 20) (hL : L id + w id ≤ 16) (hB : B id + h id ≤ 16)
    (p : ∀ D, ap_pt C D (L id) (B id) (w id) (h id) v → post (ap_Y W H P L B w h D)) : wpY_paint post (ap_Y W H P L B w h C) (nI id) v := by
  have vi : vp_in (nI id) 20 := vp_in_nI hi (by omega)
  have cl : (nI id).toNatClampNeg = id := nI_clamp (by omega)
  have inner : ∀ (J : Int32 → (Nat → Int32) → (Nat → Int32) → (Nat → Int32) → (Nat → Int32) → (Nat → Int32) → (Nat → Int32) → Prop) (j : Nat) (D : Nat → Int32), B id ≤ j → j < B id + h id → ap_R C D (L id) (w id) (B id) v j (L id) →
      (∀ D', ap_R C D' (L id) (w id) (B id) v (j + 1) (L id) → J (nI (j + 1)) D' (fun i => nI (L i)) (fun i => nI (B i)) (fun i => nI (w i)) (fun i => nI (h i)) (fun i => ap_b (P i))) →
      ∃ n, wY_paint_32 post J (nI id) v (nI j) (nI W) (nI H) n (nI (L id)) D (fun i => nI (L i)) (fun i => nI (B i)) (fun i => nI (w i)) (fun i => nI (h i)) (fun i => ap_b (P i)) := by
    intro J j D hj1 hj2 hR hJ
    refine ⟨L id + w id + 1, ap_loop (σ := Nat → Int32) (fun n i D => wY_paint_32 post J (nI id) v (nI j) (nI W) (nI H) n (nI i) D (fun i => nI (L i)) (fun i => nI (B i)) (fun i => nI (w i)) (fun i => nI (h i)) (fun i => ap_b (P i))) (fun i D => L id ≤ i ∧ ap_R C D (L id) (w id) (B id) v j i) (L id + w id) ?_ (L id + w id + 1) (L id) D (by omega) (by omega) ⟨Nat.le_refl _, hR⟩⟩
    intro n i D hI hi2 nx
    obtain ⟨hi1, hr⟩ := hI
    refine And.intro vi (And.intro vi ?_)
    rw [cl]
    refine ap_if ap_lea (fun c => nm_r (nI_1 j) (hJ D (ap_R_r ?_))) (fun c => ?_)
    · have e : i = L id + w id := by omega
      rw [e] at hr
      exact hr
    · rw [ap_16, nI_clamp (by omega)]
      exact ⟨vp_in_nI (by omega) (by omega), nm_e (nm_r (nI_1 i) (nx _ ⟨by omega, ap_R_s hr hi1 (by omega) hj1 (by omega)⟩ (by omega)))⟩
  refine And.intro vi ?_
  rw [cl]
  refine nm_e (Exists.intro (B id + h id + 1) (ap_loop (σ := Nat → Int32) (fun n j D => wY_paint_7 post (nI id) v (nI W) (nI H) n (nI j) D (fun i => nI (L i)) (fun i => nI (B i)) (fun i => nI (w i)) (fun i => nI (h i)) (fun i => ap_b (P i))) (fun j D => B id ≤ j ∧ ap_R C D (L id) (w id) (B id) v j (L id)) (B id + h id) ?_ (B id + h id + 1) (B id) C (by omega) (by omega) ⟨Nat.le_refl _, ap_R_0⟩))
  intro n j D hI hj nj
  obtain ⟨hj1, hr⟩ := hI
  refine And.intro vi (And.intro vi ?_)
  rw [cl]
  refine ap_if ap_lea (fun c => p D (ap_R_e ?_ hL hB)) (fun c => ⟨vi, nm_e (inner _ j D hj1 (by omega) hr (fun D' q => nj D' ⟨by omega, q⟩ (by omega)))⟩)
  have e : j = B id + h id := by omega
  rw [e] at hr
  exact hr
theorem ap_ylay (post : Int32 → SY → Prop) (x y a b : Nat) (ex : ∃ i, ap_U P i) (hx : x < 16) (hy : y < 16) (hxa : x + a ≤ 16) (hyb : y + b ≤ 16)
    (p : ∀ i D, ap_U P i → ap_pt C D x y a b (nI i) → post (nI i) (ap_Y W H (ap_u P i true) (ap_u L i x) (ap_u B i y) (ap_u w i a) (ap_u h i b) D)) :
    wpY_lay post (ap_Y W H P L B w h C) (nI (256 * y + x)) (nI a) (nI b) := by
  have key : ∀ t m : Nat, t ≤ 20 → ((m < 20 ∧ P m = false ∧ ∀ j, t ≤ j → j < m → P j = true) ∨ (m = 0 ∧ ∀ j, t ≤ j → j < 20 → P j = true)) →
      wY_lay_7 post (nI (256 * y + x)) (nI a) (nI b) (nI W) (nI H) C (fun i => nI (L i)) (fun i => nI (B i)) (fun i => nI (w i)) (fun i => nI (h i)) (fun i => ap_b (P i)) (t + 1) (nI m) (nI t + (-1)) := by
    intro t
    induction t with
    | zero =>
      intro m _ q
      have u : ap_U P m := by
        rcases q with ⟨q1, q2, q3⟩ | ⟨_, q⟩
        · exact ⟨q1, q2, fun j hj => q3 j (Nat.zero_le _) hj⟩
        · obtain ⟨i, u1, u2, _⟩ := ex
          rw [q i (Nat.zero_le _) u1] at u2
          exact Bool.noConfusion u2
      have um := u.1
      have vi : vp_in (nI m) 20 := vp_in_nI um (by omega)
      have cl : (nI m).toNatClampNeg = m := nI_clamp (by omega)
      have e1 : upd (fun i => ap_b (P i)) m (vp_nar .boolean 1) = fun i => ap_b (ap_u P m true i) := ap_upb P m true
      have e2 : upd (fun i => nI (L i)) m (nI (256 * y + x) &&& 255) = fun i => nI (ap_u L m x i) := by
        rw [ap_and255 (by omega), show (256 * y + x) % 256 = x by omega]
        exact ap_up L m x
      have e3 : upd (fun i => nI (B i)) m (nI (256 * y + x) >>> ((8 : Int32) &&& 31)) = fun i => nI (ap_u B m y i) := by
        rw [ap_shr8 (by omega), show (256 * y + x) / 256 = y by omega]
        exact ap_up B m y
      have e4 : upd (fun i => nI (w i)) m (nI a) = fun i => nI (ap_u w m a i) := ap_up w m a
      have e5 : upd (fun i => nI (h i)) m (nI b) = fun i => nI (ap_u h m b i) := ap_up h m b
      refine br_t (by decide) ?_
      rw [cl]
      refine ⟨vi, nm_r e1 ⟨vi, nm_r e2 ⟨vi, nm_r e3 ⟨vi, nm_r e4 ⟨vi, nm_r e5 ?_⟩⟩⟩⟩⟩
      refine ap_ypaint (P := ap_u P m true) (L := ap_u L m x) (B := ap_u B m y) (w := ap_u w m a) (h := ap_u h m b) _ m (nI m) um (by rw [ap_us, ap_us]; exact hxa) (by rw [ap_us, ap_us]; exact hyb) (fun D pt => ?_)
      rw [ap_us, ap_us, ap_us, ap_us] at pt
      exact p m D u pt
    | succ t ih =>
      intro m ht q
      rw [pk_m1]
      have cl : (nI t).toNatClampNeg = t := nI_clamp (by omega)
      refine br_f (nI_pos (by omega)) ?_
      rw [cl]
      refine ⟨vp_in_nI (by omega) (by omega), br_c (fun e => nm_e (ih t (by omega) (Or.inl ⟨by omega, ap_b_0.mp e, fun j h1 h2 => by omega⟩))) (fun e => nm_e (ih m (by omega) ?_))⟩
      have e' : P t = true := ap_nt (fun z => e (ap_b_f z))
      rcases q with ⟨q1, q2, q3⟩ | ⟨q1, q2⟩
      · refine Or.inl ⟨q1, q2, fun j h1 h2 => ?_⟩
        by_cases c : j = t
        · rw [c]; exact e'
        · exact q3 j (by omega) h2
      · refine Or.inr ⟨q1, fun j h1 h2 => ?_⟩
        by_cases c : j = t
        · rw [c]; exact e'
        · exact q2 j (by omega) h2
  have k0 := key 20 0 (Nat.le_refl _) (Or.inr ⟨rfl, fun j h1 h2 => by omega⟩)
  rw [pk_m1 19] at k0
  exact Exists.intro 21 k0
theorem ap_xput (post : SX → Prop) (i x y a b : Nat) (hi : i < 20) (hx : x < 16) (hy : y < 16)
    (p : post (ap_X W H (ap_u P i true) (ap_u L i x) (ap_u B i y) (ap_u w i a) (ap_u h i b))) : wpX_putDown post (ap_X W H P L B w h) (nI i) (nI (256 * y + x)) (nI a) (nI b) := by
  have vi : vp_in (nI i) 20 := vp_in_nI hi (by omega)
  have cl : (nI i).toNatClampNeg = i := nI_clamp (by omega)
  have e1 : upd (fun i => ap_b (P i)) i (vp_nar .boolean 1) = fun j => ap_b (ap_u P i true j) := ap_upb P i true
  have e2 : upd (fun i => nI (L i)) i (nI (256 * y + x) - nI (256 * y + x) / 256 * 256) = fun j => nI (ap_u L i x j) := by
    rw [ap_rem256 (by omega), show (256 * y + x) % 256 = x by omega]
    exact ap_up L i x
  have e3 : upd (fun i => nI (B i)) i (nI (256 * y + x) / 256) = fun j => nI (ap_u B i y j) := by
    rw [ap_div256 (by omega), show (256 * y + x) / 256 = y by omega]
    exact ap_up B i y
  have e4 : upd (fun i => nI (w i)) i (nI a) = fun j => nI (ap_u w i a j) := ap_up w i a
  have e5 : upd (fun i => nI (h i)) i (nI b) = fun j => nI (ap_u h i b j) := ap_up h i b
  have e256 : ¬ (256 : Int32) = 0 := by decide
  refine And.intro vi ?_
  rw [cl]
  exact nm_r e1 ⟨e256, vi, nm_r e2 ⟨e256, vi, nm_r e3 ⟨vi, nm_r e4 ⟨vi, nm_r e5 p⟩⟩⟩⟩
/-- a spot that was found, put down on both sides -/
theorem ap_spot (I : ap_I W H P L B w h C) {i a b : Nat} {r : Int32} (u : ap_U P i) (ha : 1 ≤ a) (hb : 1 ≤ b) (hr : ap_B (fun x y => ap_G W H (ap_F C) x y a b) r) (hn : ¬ r = -3) :
    ∃ (P' : Nat → Bool) (L' B' w' h' : Nat → Nat), (∀ post : SX → Prop, post (ap_X W H P' L' B' w' h') → wpX_putDown post (ap_X W H P L B w h) (nI i) r (nI a) (nI b)) ∧
      (∀ post : Int32 → SY → Prop, (∀ D, ap_I W H P' L' B' w' h' D → post (nI i) (ap_Y W H P' L' B' w' h' D)) → wpY_lay post (ap_Y W H P L B w h C) r (nI a) (nI b)) := by
  have I2 := I.2.1
  have I4 := I.2.2.2.1
  rcases hr with ⟨x, y, hx, hy, g, e, _⟩ | ⟨e, _⟩
  · have g1 := g.1
    have g2 := g.2.1
    refine ⟨ap_u P i true, ap_u L i x, ap_u B i y, ap_u w i a, ap_u h i b, fun post p => ?_, fun post p => ?_⟩
    · rw [e]
      exact ap_xput post i x y a b u.1 hx hy p
    · rw [e]
      refine ap_ylay post x y a b ⟨i, u⟩ hx hy (by omega) (by omega) (fun j D uj pt => ?_)
      have ej := ap_U_u uj u
      subst ej
      exact p D (ap_put I u.1 u.2.1 ha hb g pt)
  · exact absurd e hn
theorem ap_pl (I : ap_I W H P L B w h C) {i a b : Nat} {r t : Int32} (u : ap_U P i) (ha : 1 ≤ a) (hb : 1 ≤ b) (hr : ap_B (fun x y => ap_G W H (ap_F C) x y a b) r) (ht : t = -3 ∨ ap_B (fun x y => ap_G W H (ap_F C) x y b a) t) :
    ∃ (q : Int32) (P' : Nat → Bool) (L' B' w' h' : Nat → Nat),
      (∀ post : Int32 → SX → Prop, post q (ap_X W H P' L' B' w' h') → wX_place_55 post (nI a) (nI b) (nI i) r t (nI W) (nI H) (fun i => ap_b (P i)) (fun i => nI (L i)) (fun i => nI (B i)) (fun i => nI (w i)) (fun i => nI (h i))) ∧
      (∀ post : Int32 → SY → Prop, (∀ D, ap_I W H P' L' B' w' h' D → post q (ap_Y W H P' L' B' w' h' D)) → wY_place_46 post (nI a) (nI b) r t (nI W) (nI H) C (fun i => nI (L i)) (fun i => nI (B i)) (fun i => nI (w i)) (fun i => nI (h i)) (fun i => ap_b (P i))) := by
  by_cases t3 : t = -3
  · by_cases r3 : r = -3
    · exact ⟨-3, P, L, B, w, h, fun post p => br_t r3 (br_t t3 p), fun post p => br_t r3 (br_t t3 (p C I))⟩
    · obtain ⟨P', L', B', w', h', sX, sY⟩ := ap_spot I u ha hb hr r3
      exact ⟨nI i, P', L', B', w', h', fun post p => br_f r3 (br_t t3 (br_t rfl (sX _ p))), fun post p => br_f r3 (br_t t3 (sY _ p))⟩
  · have ht' : ap_B (fun x y => ap_G W H (ap_F C) x y b a) t := by
      rcases ht with c | c
      · exact absurd c t3
      · exact c
    obtain ⟨P2, L2, B2, w2, h2, tX, tY⟩ := ap_spot I u hb ha ht' t3
    by_cases r3 : r = -3
    · exact ⟨nI i, P2, L2, B2, w2, h2, fun post p => br_t r3 (br_f t3 (br_f t3 (br_t r3 (br_f ap_10 (tX _ p))))), fun post p => br_t r3 (br_f t3 (br_f t3 (br_t r3 (tY _ p))))⟩
    · obtain ⟨P', L', B', w', h', sX, sY⟩ := ap_spot I u ha hb hr r3
      by_cases c : r ≤ t
      · exact ⟨nI i, P', L', B', w', h', fun post p => br_f r3 (br_f t3 (br_f r3 (br_t c (br_t rfl (sX _ p))))), fun post p => br_f r3 (br_f t3 (br_f r3 (br_t c (sY _ p))))⟩
      · exact ⟨nI i, P2, L2, B2, w2, h2, fun post p => br_f r3 (br_f t3 (br_f r3 (br_f c (br_f ap_10 (tX _ p))))), fun post p => br_f r3 (br_f t3 (br_f r3 (br_f c (tY _ p))))⟩
end
