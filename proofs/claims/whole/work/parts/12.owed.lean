/-! the relation and the owed statements -/
/-- both sides hold the same rectangles; the reference's cells show which rectangle covers each -/
def i_Rel (k : Nat) (u : SX) (v : SY) : Prop := ∃ (W H : Nat) (P : Nat → Bool) (L B w h : Nat → Nat) (C : Nat → Int32), u = ap_X W H P L B w h ∧ v = ap_Y W H P L B w h C ∧ ap_I W H P L B w h C
theorem ap_rel {k : Nat} {W H : Nat} {P : Nat → Bool} {L B w h : Nat → Nat} {C : Nat → Int32} (I : ap_I W H P L B w h C) : i_Rel k (ap_X W H P L B w h) (ap_Y W H P L B w h C) := ⟨W, H, P, L, B, w, h, C, rfl, rfl, I⟩
theorem i_up {k : Nat} {u : SX} {v : SY} (h : i_Rel k u v) : i_Rel (k + 4) u v := h
theorem i_vc0 (k0 : Int32) (k1 : Int32) : wpX_init (fun u => wpY_init (fun v => i_Rel 2 u v) k0 k1) k0 k1 := by
  obtain ⟨a, a1, a2, ha⟩ := ap_clamp k0
  obtain ⟨b, b1, b2, hb⟩ := ap_clamp k1
  refine ha _ (hb _ ?_)
  refine ha (fun c => wY_init_75 _ k1 c 0 0 (fun _ => 0) (fun _ => 0) (fun _ => 0) (fun _ => 0) (fun _ => 0) (fun _ => 0)) (hb (fun r => ∃ n, wY_init_105 _ (nI a) r n 0 (fun _ => 0) (fun _ => 0) (fun _ => 0) (fun _ => 0) (fun _ => 0) (fun _ => 0)) (ap_yinit _ a b (fun D hD => ?_)))
  exact ap_rel (P := fun _ => false) (L := fun _ => 0) (B := fun _ => 0) (w := fun _ => 0) (h := fun _ => 0) (ap_new a1 a2 b1 b2 (fun _ _ => rfl) hD)
theorem i_vc_place {k : Nat} {u : SX} {v : SY} (I : i_Rel k u v) (hk : k + 4 ≤ 2050) (v1 : Int32) (v2 : Int32) (v3 : Int32) : wpX_place (fun r u' => wpY_place (fun r' v' => r' = r ∧ i_Rel (k + 4) u' v') v v1 v2 (lw_bz v3)) u v1 v2 (lw_bz v3) := by
  obtain ⟨W, H, P, L, B, w, h, C, rfl, rfl, I⟩ := I
  have I2 := I.2.1
  have I4 := I.2.2.2.1
  unfold wpX_place wpY_place
  dsimp only
  rcases ap_side v1 with b1 | ⟨a, a1, a2, rfl⟩
  · refine ap_xsb b1 (br_t rfl ?_)
    exact ap_ysb1 b1 (br_t rfl ⟨rfl, ap_rel I⟩)
  · refine ap_xsg a1 a2 (br_f ap_10 ?_)
    rcases ap_side v2 with b1 | ⟨b, b1, b2, rfl⟩
    · refine ap_xsb b1 (br_t rfl ?_)
      exact ap_ysb2 a1 a2 b1 (br_t rfl ⟨rfl, ap_rel I⟩)
    · refine ap_xsg b1 b2 (br_f ap_10 ?_)
      refine ap_xs _ (fun i ui => br_f (ap_m2 (by have := ui.1; omega)) ?_) (fun al => br_t rfl ?_)
      · have hn : ¬ nI (ap_n P 20) = 20 := by
          have f := ap_n_f ui.2.1 20 ui.1
          intro e
          have := (nI_eq (a := ap_n P 20) (b := 20) (by omega) (by omega)).mp e
          omega
        refine ap_xb I _ a b a1 b1 (by omega) (by omega) (fun r hr => ?_)
        by_cases z : lw_bz v3 = 0
        · obtain ⟨q, P', L', B', w', h', sX, sY⟩ := ap_pl I ui a1 b1 hr (Or.inl rfl)
          refine br_t z (sX _ ?_)
          refine ap_ysg a1 a2 b1 b2 (br_f ap_10 ?_)
          refine ap_yn _ (br_f hn ?_)
          refine ap_yb I2 I4 _ a b a1 b1 (by omega) (by omega) (fun r' hr' => ?_)
          have er := ap_B_u hr' hr
          subst er
          exact br_t z (sY _ (fun D ID => ⟨rfl, ap_rel ID⟩))
        · refine br_f z ?_
          refine ap_xb I _ b a b1 a1 (by omega) (by omega) (fun t ht => ?_)
          obtain ⟨q, P', L', B', w', h', sX, sY⟩ := ap_pl I ui a1 b1 hr (Or.inr ht)
          refine sX _ ?_
          refine ap_ysg a1 a2 b1 b2 (br_f ap_10 ?_)
          refine ap_yn _ (br_f hn ?_)
          refine ap_yb I2 I4 _ a b a1 b1 (by omega) (by omega) (fun r' hr' => ?_)
          have er := ap_B_u hr' hr
          subst er
          refine br_f z ?_
          refine ap_yb I2 I4 _ b a b1 a1 (by omega) (by omega) (fun t' ht' => ?_)
          have et := ap_B_u ht' ht
          subst et
          exact sY _ (fun D ID => ⟨rfl, ap_rel ID⟩)
      · refine ap_ysg a1 a2 b1 b2 (br_f ap_10 ?_)
        refine ap_yn _ (br_t ?_ ⟨rfl, ap_rel I⟩)
        rw [ap_n_t 20 al]
        rfl
theorem i_vc_remove {k : Nat} {u : SX} {v : SY} (I : i_Rel k u v) (hk : k + 4 ≤ 2050) (v1 : Int32) : wpX_remove (fun r u' => wpY_remove (fun r' v' => r' = r ∧ i_Rel (k + 4) u' v') v v1) u v1 := by
  obtain ⟨W, H, P, L, B, w, h, C, rfl, rfl, I⟩ := I
  have I2 := I.2.1
  have I4 := I.2.2.2.1
  unfold wpX_remove wpY_remove
  dsimp only
  rcases ap_id P v1 with c | ⟨j, hj, t, rfl⟩
  · refine ap_xid0 c (br_t rfl ?_)
    exact ap_yid0 c (br_t rfl ⟨rfl, ap_rel I⟩)
  · have cl : (nI j).toNatClampNeg = j := nI_clamp (by omega)
    have vi : vp_in (nI j) 20 := vp_in_nI hj (by decide)
    have s := I.2.2.2.2.1 j hj t
    have e1 : upd (fun i => ap_b (P i)) j (vp_nar .boolean 0) = fun i => ap_b (ap_u P j false i) := ap_upb P j false
    rw [cl]
    refine ap_xid1 hj t (br_f ap_10 ?_)
    refine ⟨vi, nm_r e1 ?_⟩
    refine ap_xn (P := ap_u P j false) _ ?_
    refine ap_yid1 hj t (br_f ap_10 ?_)
    refine ap_ypaint _ j (-1) hj (by omega) (by omega) (fun D pt => ?_)
    refine ⟨vi, nm_r e1 ?_⟩
    refine ap_yn (P := ap_u P j false) _ ⟨rfl, ?_⟩
    exact ap_rel (ap_rmv I hj t pt)
theorem i_vc_look {k : Nat} {u : SX} {v : SY} (I : i_Rel k u v) (hk : k + 4 ≤ 2050) (v1 : Int32) (v2 : Int32) : wpX_look (fun r => wpY_look (fun r' => r' = r ∧ i_Rel (k + 4) u v) v v1 v2) u v1 v2 := by
  obtain ⟨W, H, P, L, B, w, h, C, rfl, rfl, I⟩ := I
  unfold wpX_look wpY_look
  dsimp only
  rcases ap_id P v1 with c | ⟨j, hj, t, rfl⟩
  · refine ap_xid0 c (br_t rfl ?_)
    exact ap_yid0 c (br_t rfl ⟨rfl, ap_rel I⟩)
  · have vi : vp_in (nI j) 20 := vp_in_nI hj (by decide)
    refine ap_xid1 hj t (br_f ap_10 ?_)
    have ne : ∀ (x : Int32), (v2 < 0 ∨ 3 < v2) → ¬ (x < 0 ∨ 3 < x) → ¬ v2 = x := by
      intro x c d e
      rw [e] at c
      exact d c
    by_cases c0 : v2 < 0
    · refine br_t c0 ?_
      exact ap_yid1 hj t (br_f ap_10 (br_f (ne 0 (Or.inl c0) (by decide)) (br_f (ne 1 (Or.inl c0) (by decide)) (br_f (ne 2 (Or.inl c0) (by decide)) (br_f (ne 3 (Or.inl c0) (by decide)) ⟨rfl, ap_rel I⟩)))))
    · refine br_f c0 ?_
      by_cases c3 : 3 < v2
      · refine br_t c3 ?_
        exact ap_yid1 hj t (br_f ap_10 (br_f (ne 0 (Or.inr c3) (by decide)) (br_f (ne 1 (Or.inr c3) (by decide)) (br_f (ne 2 (Or.inr c3) (by decide)) (br_f (ne 3 (Or.inr c3) (by decide)) ⟨rfl, ap_rel I⟩)))))
      · refine br_f c3 ?_
        by_cases d0 : v2 = 0
        · refine br_t d0 ⟨vi, ?_⟩
          exact ap_yid1 hj t (br_f ap_10 (br_t d0 ⟨vi, rfl, ap_rel I⟩))
        · refine br_f d0 ?_
          by_cases d1 : v2 = 1
          · refine br_t d1 ⟨vi, ?_⟩
            exact ap_yid1 hj t (br_f ap_10 (br_f d0 (br_t d1 ⟨vi, rfl, ap_rel I⟩)))
          · refine br_f d1 ?_
            by_cases d2 : v2 = 2
            · refine br_t d2 ⟨vi, ?_⟩
              exact ap_yid1 hj t (br_f ap_10 (br_f d0 (br_f d1 (br_t d2 ⟨vi, rfl, ap_rel I⟩))))
            · refine br_f d2 ?_
              by_cases d3 : v2 = 3
              · refine br_t d3 ⟨vi, ?_⟩
                exact ap_yid1 hj t (br_f ap_10 (br_f d0 (br_f d1 (br_f d2 (br_t d3 ⟨vi, rfl, ap_rel I⟩)))))
              · exact br_f d3 trivial
theorem i_vc_owner {k : Nat} {u : SX} {v : SY} (I : i_Rel k u v) (hk : k + 4 ≤ 2050) (v1 : Int32) (v2 : Int32) : wpX_owner (fun r => wpY_owner (fun r' => r' = r ∧ i_Rel (k + 4) u v) v v1 v2) u v1 v2 := by
  obtain ⟨W, H, P, L, B, w, h, C, rfl, rfl, I⟩ := I
  have I2 := I.2.1
  have I4 := I.2.2.2.1
  by_cases c1 : v1 < 0
  · exact br_t c1 (br_t c1 ⟨rfl, ap_rel I⟩)
  · by_cases c2 : nI W ≤ v1
    · exact br_f c1 (br_t c2 (br_f c1 (br_t c2 ⟨rfl, ap_rel I⟩)))
    · by_cases c3 : v2 < 0
      · exact br_f c1 (br_f c2 (br_t c3 (br_f c1 (br_f c2 (br_t c3 ⟨rfl, ap_rel I⟩)))))
      · by_cases c4 : v2 < nI H
        · obtain ⟨x, hx, rfl⟩ := nI_of c1
          obtain ⟨y, hy, rfl⟩ := nI_of c3
          have hx' : x < W := by
            rw [nI_leI (by omega) hx] at c2
            omega
          have hy' : y < H := (nI_ltI hy (by omega)).mp c4
          refine br_f c1 (br_f c2 (br_f c3 (br_t c4 ?_)))
          refine ap_xm I _ x y 1 1 (by omega) (by omega) (by omega) (by omega) (fun i hi o => ?_) (fun q => ?_)
          · refine br_f c1 (br_f c2 (br_f c3 (br_t c4 ?_)))
            rw [ap_16, nI_clamp (by omega)]
            obtain ⟨o1, o2, o3, o4, o5⟩ := o
            have e := I.2.2.2.2.2.1 i x y hi ⟨o1, by omega, by omega, by omega, by omega⟩
            exact ⟨vp_in_nI (by omega) (by omega), nm_r e (br_f (ap_m1 (by omega)) ⟨rfl, ap_rel I⟩)⟩
          · refine br_f c1 (br_f c2 (br_f c3 (br_t c4 ?_)))
            rw [ap_16, nI_clamp (by omega)]
            have e := I.2.2.2.2.2.2 x y (by omega) (by omega) (fun i hi o => by
              obtain ⟨o1, o2, o3, o4, o5⟩ := o
              exact q i hi ⟨o1, by omega, by omega, by omega, by omega⟩)
            exact ⟨vp_in_nI (by omega) (by omega), nm_r e (br_t rfl ⟨rfl, ap_rel I⟩)⟩
        · exact br_f c1 (br_f c2 (br_f c3 (br_f c4 (br_f c1 (br_f c2 (br_f c3 (br_f c4 ⟨rfl, ap_rel I⟩)))))))
theorem i_vc_freeCells {k : Nat} {u : SX} {v : SY} (I : i_Rel k u v) (hk : k + 4 ≤ 2050) : wpX_freeCells (fun r => wpY_freeCells (fun r' => r' = r ∧ i_Rel (k + 4) u v) v) u := by
  obtain ⟨W, H, P, L, B, w, h, C, rfl, rfl, I⟩ := I
  exact ap_xf I _ (ap_yf I.2.1 I.2.2.2.1 _ ⟨rfl, ap_rel I⟩)
theorem i_vc_holes {k : Nat} {u : SX} {v : SY} (I : i_Rel k u v) (hk : k + 4 ≤ 2050) : wpX_holes (fun r => wpY_holes (fun r' => r' = r ∧ i_Rel (k + 4) u v) v) u := by
  obtain ⟨W, H, P, L, B, w, h, C, rfl, rfl, I⟩ := I
  exact ap_xholes I _ (ap_yholes I.2.1 I.2.2.2.1 _ ⟨congrArg nI (ap_holes I.2.1 I.2.2.2.1), ap_rel I⟩)
theorem i_vc_largestHole {k : Nat} {u : SX} {v : SY} (I : i_Rel k u v) (hk : k + 4 ≤ 2050) : wpX_largestHole (fun r => wpY_largestHole (fun r' => r' = r ∧ i_Rel (k + 4) u v) v) u := by
  obtain ⟨W, H, P, L, B, w, h, C, rfl, rfl, I⟩ := I
  exact ap_xlh I _ (fun r _ hr => ap_ylh I.2.1 I.2.2.2.1 _ (fun r' _ hr' => ⟨congrArg nI (ap_LM_u hr' (ap_L_M hr)), ap_rel I⟩))
theorem i_vc_bestPlace {k : Nat} {u : SX} {v : SY} (I : i_Rel k u v) (hk : k + 4 ≤ 2050) (v1 : Int32) (v2 : Int32) : wpX_bestPlace (fun r => wpY_bestPlace (fun r' => r' = r ∧ i_Rel (k + 4) u v) v v1 v2) u v1 v2 := by
  obtain ⟨W, H, P, L, B, w, h, C, rfl, rfl, I⟩ := I
  unfold wpX_bestPlace wpY_bestPlace
  dsimp only
  rcases ap_side v1 with b1 | ⟨a, a1, a2, rfl⟩
  · refine ap_xsb b1 (br_t rfl ?_)
    exact ap_ysb1 b1 (br_t rfl ⟨rfl, ap_rel I⟩)
  · refine ap_xsg a1 a2 (br_f ap_10 ?_)
    rcases ap_side v2 with b1 | ⟨b, b1, b2, rfl⟩
    · refine ap_xsb b1 (br_t rfl ?_)
      exact ap_ysb2 a1 a2 b1 (br_t rfl ⟨rfl, ap_rel I⟩)
    · refine ap_xsg b1 b2 (br_f ap_10 ?_)
      refine ap_xb I _ a b a1 b1 (by omega) (by omega) (fun r hr => ?_)
      refine ap_ysg a1 a2 b1 b2 (br_f ap_10 ?_)
      exact ap_yb I.2.1 I.2.2.2.1 _ a b a1 b1 (by omega) (by omega) (fun r' hr' => ⟨ap_B_u hr' hr, ap_rel I⟩)
theorem i_vc_fitting {k : Nat} {u : SX} {v : SY} (I : i_Rel k u v) (hk : k + 4 ≤ 2050) : wpX_fitting (fun r => wpY_fitting (fun r' => r' = r ∧ i_Rel (k + 4) u v) v) u := by
  obtain ⟨W, H, P, L, B, w, h, C, rfl, rfl, I⟩ := I
  exact ap_xfit I _ (ap_yfit I.2.1 I.2.2.2.1 _ ⟨congrArg nI (ap_fit I.2.1).symm, ap_rel I⟩)
theorem i_vc_clear {k : Nat} {u : SX} {v : SY} (I : i_Rel k u v) (hk : k + 4 ≤ 2050) : wpX_clear (fun r u' => wpY_clear (fun r' v' => r' = r ∧ i_Rel (k + 4) u' v') v) u := by
  obtain ⟨W, H, P, L, B, w, h, C, rfl, rfl, I⟩ := I
  refine ap_xn _ (ap_xclr _ _ (ap_yn _ (ap_yclr _ _ (fun D hD => ⟨rfl, ap_rel (ap_new I.1 I.2.1 I.2.2.1 I.2.2.2.1 (fun i hi => if_pos hi) hD)⟩))))
