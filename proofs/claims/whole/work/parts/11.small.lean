/-! arguments of any size: sides, numbers, the start, clearing -/
def ap_bad (v : Int32) : Prop := v < 1 ∨ (¬ v < 1 ∧ 16 < v)
theorem ap_side (v : Int32) : ap_bad v ∨ ∃ a : Nat, 1 ≤ a ∧ a ≤ 16 ∧ v = nI a := by
  by_cases h1 : v < 1
  · exact Or.inl (Or.inl h1)
  · by_cases h2 : 16 < v
    · exact Or.inl (Or.inr ⟨h1, h2⟩)
    · right
      rcases pk_ix v (n := 17) (by decide) with c | c | ⟨j, hj, e⟩
      · exact absurd (Int32.lt_trans c (by decide)) h1
      · refine absurd ?_ h2
        rcases nI_of (x := v) (Int32.not_lt.mpr (Int32.le_trans (by decide) c)) with ⟨j, hj, e⟩
        rw [e] at c ⊢
        have c' := (nI_leI (a := 17) (by omega) hj).mp c
        exact nI_lt (a := 16) (by omega) hj
      · refine ⟨j, ?_, by omega, e⟩
        rcases Nat.eq_zero_or_pos j with z | z
        · rw [e, z] at h1
          exact absurd (by decide) h1
        · exact z
theorem ap_xsb {post : Int32 → Prop} {v : Int32} (b : ap_bad v) (p : post 0) : wpX_isSide post v := by
  rcases b with c | ⟨c1, c2⟩
  · exact br_t c p
  · exact br_f c1 (br_t c2 p)
theorem ap_n1 {a : Nat} (h1 : 1 ≤ a) (h2 : a ≤ 16) : ¬ nI a < 1 := nI_nlt (b := 1) h1 (by omega)
theorem ap_n16 {a : Nat} (h1 : 1 ≤ a) (h2 : a ≤ 16) : ¬ 16 < nI a := nI_nlt (a := 16) h2 (by decide)
theorem ap_xsg {post : Int32 → Prop} {a : Nat} (h1 : 1 ≤ a) (h2 : a ≤ 16) (p : post 1) : wpX_isSide post (nI a) := br_f (ap_n1 h1 h2) (br_f (ap_n16 h1 h2) p)
section
variable {W H : Nat} {P : Nat → Bool} {L B w h : Nat → Nat} {C : Nat → Int32}
theorem ap_ysb1 {post : Int32 → Prop} {v v' : Int32} (b : ap_bad v) (p : post 0) : wpY_isSize post (ap_Y W H P L B w h C) v v' := by
  rcases b with c | ⟨c1, c2⟩
  · exact br_t c p
  · exact br_f c1 (br_t c2 p)
theorem ap_ysb2 {post : Int32 → Prop} {a : Nat} {v' : Int32} (h1 : 1 ≤ a) (h2 : a ≤ 16) (b : ap_bad v') (p : post 0) : wpY_isSize post (ap_Y W H P L B w h C) (nI a) v' := by
  rcases b with c | ⟨c1, c2⟩
  · exact br_f (ap_n1 h1 h2) (br_f (ap_n16 h1 h2) (br_t c p))
  · exact br_f (ap_n1 h1 h2) (br_f (ap_n16 h1 h2) (br_f c1 (br_t c2 p)))
theorem ap_ysg {post : Int32 → Prop} {a b : Nat} (h1 : 1 ≤ a) (h2 : a ≤ 16) (h3 : 1 ≤ b) (h4 : b ≤ 16) (p : post 1) : wpY_isSize post (ap_Y W H P L B w h C) (nI a) (nI b) :=
  br_f (ap_n1 h1 h2) (br_f (ap_n16 h1 h2) (br_f (ap_n1 h3 h4) (br_f (ap_n16 h3 h4) p)))
/-- a number: of no rectangle, or placed -/
theorem ap_id (P : Nat → Bool) (v : Int32) : ((v < 0 ∨ (¬ v < 0 ∧ 20 ≤ v)) ∨ ∃ j : Nat, j < 20 ∧ P j = false ∧ v = nI j) ∨ ∃ j : Nat, j < 20 ∧ P j = true ∧ v = nI j := by
  rcases pk_ix v (n := 20) (by decide) with c | c | ⟨j, hj, e⟩
  · exact Or.inl (Or.inl (Or.inl c))
  · by_cases d : v < 0
    · exact Or.inl (Or.inl (Or.inl d))
    · exact Or.inl (Or.inl (Or.inr ⟨d, c⟩))
  · by_cases d : P j = true
    · exact Or.inr ⟨j, hj, d, e⟩
    · exact Or.inl (Or.inr ⟨j, hj, ap_nf d, e⟩)
theorem ap_xid0 {post : Int32 → Prop} {v : Int32} (c : (v < 0 ∨ (¬ v < 0 ∧ 20 ≤ v)) ∨ ∃ j : Nat, j < 20 ∧ P j = false ∧ v = nI j) (p : post 0) : wpX_isPlaced post (ap_X W H P L B w h) v := by
  rcases c with (c | ⟨c1, c2⟩) | ⟨j, hj, f, e⟩
  · exact br_t c p
  · exact br_f c1 (br_t c2 p)
  · subst e
    have cl : (nI j).toNatClampNeg = j := nI_clamp (by omega)
    refine br_f (nI_pos (by omega)) (br_f (nI_ge (b := 20) hj (by decide)) ?_)
    rw [cl]
    exact ⟨vp_in_nI hj (by decide), br_t (ap_b_f f) p⟩
theorem ap_xid1 {post : Int32 → Prop} {j : Nat} (hj : j < 20) (t : P j = true) (p : post 1) : wpX_isPlaced post (ap_X W H P L B w h) (nI j) := by
  have cl : (nI j).toNatClampNeg = j := nI_clamp (by omega)
  refine br_f (nI_pos (by omega)) (br_f (nI_ge (b := 20) hj (by decide)) ?_)
  rw [cl]
  refine ⟨vp_in_nI hj (by decide), br_f ?_ p⟩
  show ¬ ap_b (P j) = 0
  rw [ap_b_t t]
  exact ap_10
theorem ap_yid0 {post : Int32 → Prop} {v : Int32} (c : (v < 0 ∨ (¬ v < 0 ∧ 20 ≤ v)) ∨ ∃ j : Nat, j < 20 ∧ P j = false ∧ v = nI j) (p : post 0) : wpY_isThere post (ap_Y W H P L B w h C) v := by
  rcases c with (c | ⟨c1, c2⟩) | ⟨j, hj, f, e⟩
  · exact br_t c p
  · exact br_f c1 (br_t c2 p)
  · subst e
    have cl : (nI j).toNatClampNeg = j := nI_clamp (by omega)
    refine br_f (nI_pos (by omega)) (br_f (nI_ge (b := 20) hj (by decide)) ?_)
    rw [cl]
    exact ⟨vp_in_nI hj (by decide), br_t (ap_b_f f) p⟩
theorem ap_yid1 {post : Int32 → Prop} {j : Nat} (hj : j < 20) (t : P j = true) (p : post 1) : wpY_isThere post (ap_Y W H P L B w h C) (nI j) := by
  have cl : (nI j).toNatClampNeg = j := nI_clamp (by omega)
  refine br_f (nI_pos (by omega)) (br_f (nI_ge (b := 20) hj (by decide)) ?_)
  rw [cl]
  refine ⟨vp_in_nI hj (by decide), br_f ?_ p⟩
  show ¬ ap_b (P j) = 0
  rw [ap_b_t t]
  exact ap_10
/-- the first i numbers taken away -/
def ap_z (P : Nat → Bool) (i : Nat) : Nat → Bool := fun j => if j < i then false else P j
theorem ap_z_0 (P : Nat → Bool) : ap_z P 0 = P := by
  funext j
  exact if_neg (Nat.not_lt_zero j)
theorem ap_z_s (P : Nat → Bool) (i : Nat) : upd (fun j => ap_b (ap_z P i j)) i (vp_nar .boolean 0) = fun j => ap_b (ap_z P (i + 1) j) := by
  have e := ap_upb (ap_z P i) i false
  refine Eq.trans e ?_
  funext j
  have e2 : ap_u (ap_z P i) i false j = ap_z P (i + 1) j := by
    unfold ap_z
    by_cases c : j = i
    · rw [c, ap_us, if_pos (by omega)]
    · rw [ap_un c]
      by_cases d : j < i
      · rw [if_pos d, if_pos (by omega)]
      · rw [if_neg d, if_neg (by omega)]
  rw [e2]
theorem ap_xclr (post : Int32 → SX → Prop) (c : Int32) (p : post c (ap_X W H (ap_z P 20) L B w h)) :
    ∃ n, wX_clear_7 post c (nI W) (nI H) n 0 (fun i => ap_b (P i)) (fun i => nI (L i)) (fun i => nI (B i)) (fun i => nI (w i)) (fun i => nI (h i)) := by
  have k := ap_loop (σ := Unit) (fun n i _ => wX_clear_7 post c (nI W) (nI H) n (nI i) (fun j => ap_b (ap_z P i j)) (fun i => nI (L i)) (fun i => nI (B i)) (fun i => nI (w i)) (fun i => nI (h i))) (fun _ _ => True) 20 (by
    intro n i _ _ hi nx
    refine ap_if (ap_le (a := 20)) (fun d => ?_) (fun d => ?_)
    · have e : i = 20 := by omega
      rw [e]
      exact p
    · rw [nI_clamp (by omega)]
      exact ⟨vp_in_nI (by omega) (by omega), nm_r (ap_z_s P i) (nm_r (nI_1 i) (nx () trivial (by omega)))⟩) 21 0 () (by omega) (by omega) trivial
  rw [ap_z_0] at k
  exact ⟨21, k⟩
theorem ap_yclr (post : Int32 → SY → Prop) (c : Int32) (p : ∀ D, (∀ k, k < 256 → D k = -1) → post c (ap_Y W H (ap_z P 20) L B w h D)) :
    ∃ n, wY_clear_7 post c (nI W) (nI H) n 0 C (fun i => nI (L i)) (fun i => nI (B i)) (fun i => nI (w i)) (fun i => nI (h i)) (fun i => ap_b (P i)) := by
  have k := ap_loop (σ := Unit) (fun n i _ => wY_clear_7 post c (nI W) (nI H) n (nI i) C (fun i => nI (L i)) (fun i => nI (B i)) (fun i => nI (w i)) (fun i => nI (h i)) (fun j => ap_b (ap_z P i j))) (fun _ _ => True) 20 (by
    intro n i _ _ hi nx
    refine ap_if (ap_le (a := 20)) (fun d => ?_) (fun d => ?_)
    · have e : i = 20 := by omega
      rw [e]
      refine Exists.intro 257 (ap_loop (σ := Nat → Int32) (fun n k D => wY_clear_28 post c (nI W) (nI H) n (nI k) D (fun i => nI (L i)) (fun i => nI (B i)) (fun i => nI (w i)) (fun i => nI (h i)) (fun j => ap_b (ap_z P 20 j))) (fun k D => ∀ j, j < k → D j = -1) 256 ?_ 257 0 C (by omega) (by omega) lt_0)
      intro n k D hI hk nk
      refine ap_if (ap_le (a := 256)) (fun d => p D (fun j hj => hI j (by omega))) (fun d => ?_)
      rw [nI_clamp (by omega)]
      refine ⟨vp_in_nI (by omega) (by omega), nm_e (nm_r (nI_1 k) (nk _ ?_ (by omega)))⟩
      refine lt_s (fun j hj => ?_) pk_us
      rw [pk_un (by omega)]
      exact hI j hj
    · rw [nI_clamp (by omega)]
      exact ⟨vp_in_nI (by omega) (by omega), nm_r (ap_z_s P i) (nm_r (nI_1 i) (nx () trivial (by omega)))⟩) 21 0 () (by omega) (by omega) trivial
  rw [ap_z_0] at k
  exact ⟨21, k⟩
end
theorem ap_clamp (v : Int32) : ∃ a : Nat, 4 ≤ a ∧ a ≤ 16 ∧ ∀ post : Int32 → Prop, post (nI a) → wpX_clampSheetSide post v := by
  by_cases h1 : 4 ≤ v
  · by_cases h2 : v ≤ 16
    · obtain ⟨j, hj, e⟩ := nI_of2 (x := v) (M := 16) (n := 16) (by decide) (Int32.not_lt.mpr (Int32.le_trans (by decide) h1)) h2
      refine ⟨j, ?_, hj, fun post p => br_t h1 (br_t h2 ?_)⟩
      · rw [e] at h1
        exact (nI_leI (a := 4) (by omega) (by omega)).mp h1
      · rw [e]
        exact p
    · exact ⟨16, by omega, by omega, fun post p => br_t h1 (br_f h2 p)⟩
  · exact ⟨4, by omega, by omega, fun post p => br_f h1 p⟩
theorem ap_yinit (post : SY → Prop) (a b : Nat) (p : ∀ D, (∀ k, k < 256 → D k = -1) → post (nI a, nI b, D, (fun _ => 0), (fun _ => 0), (fun _ => 0), (fun _ => 0), (fun _ => 0))) :
    ∃ n, wY_init_105 post (nI a) (nI b) n 0 (fun _ => 0) (fun _ => 0) (fun _ => 0) (fun _ => 0) (fun _ => 0) (fun _ => 0) := by
  refine ⟨257, ap_loop (σ := Nat → Int32) (fun n k D => wY_init_105 post (nI a) (nI b) n (nI k) D (fun _ => 0) (fun _ => 0) (fun _ => 0) (fun _ => 0) (fun _ => 0)) (fun k D => ∀ j, j < k → D j = -1) 256 ?_ 257 0 (fun _ => 0) (by omega) (by omega) lt_0⟩
  intro n k D hI hk nk
  refine ap_if (ap_le (a := 256)) (fun d => p D (fun j hj => hI j (by omega))) (fun d => ?_)
  rw [nI_clamp (by omega)]
  refine ⟨vp_in_nI (by omega) (by omega), nm_e (nm_r (nI_1 k) (nk _ ?_ (by omega)))⟩
  refine lt_s (fun j hj => ?_) pk_us
  rw [pk_un (by omega)]
  exact hI j hj
