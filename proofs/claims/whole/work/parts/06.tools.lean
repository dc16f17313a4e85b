/-! states by naturals, branches, loops -/
abbrev ap_X (W H : Nat) (P : Nat → Bool) (L B w h : Nat → Nat) : SX :=
  (nI W, nI H, fun i => ap_b (P i), fun i => nI (L i), fun i => nI (B i), fun i => nI (w i), fun i => nI (h i))
abbrev ap_Y (W H : Nat) (P : Nat → Bool) (L B w h : Nat → Nat) (C : Nat → Int32) : SY :=
  (nI W, nI H, C, fun i => nI (L i), fun i => nI (B i), fun i => nI (w i), fun i => nI (h i), fun i => ap_b (P i))
theorem ap_if {c d A B : Prop} (e : c ↔ d) (f : d → A) (g : ¬ d → B) : (c → A) ∧ (¬ c → B) := ⟨fun x => f (e.mp x), fun x => g (fun y => x (e.mpr y))⟩
theorem ap_loop {σ : Type} (V : Nat → Nat → σ → Prop) (J : Nat → σ → Prop) (e : Nat) (hs : ∀ n i s, J i s → i ≤ e → (∀ s', J (i + 1) s' → i < e → V n (i + 1) s') → V (n + 1) i s) : ∀ n i s, i ≤ e → e - i < n → J i s → V n i s := by
  intro n
  induction n with
  | zero => intro i s _ h; exact absurd h (Nat.not_lt_zero _)
  | succ n ih =>
    intro i s hi hn hI
    exact hs n i s hI hi (fun s' h' hl => ih (i + 1) s' (by omega) (by omega) h')
theorem ap_le {a b : Nat} (ha : a < 2 ^ 31 := by omega) (hb : b < 2 ^ 31 := by omega) : nI a ≤ nI b ↔ a ≤ b := nI_leI ha hb
theorem ap_lt {a b : Nat} (ha : a < 2 ^ 31 := by omega) (hb : b < 2 ^ 31 := by omega) : nI a < nI b ↔ a < b := nI_ltI ha hb
theorem ap_lea {a b c : Nat} (ha : a + b < 2 ^ 31 := by omega) (hc : c < 2 ^ 31 := by omega) : nI a + nI b ≤ nI c ↔ a + b ≤ c := by rw [nI_add]; exact nI_leI ha hc
theorem ap_ale {a b c : Nat} (ha : a + b < 2 ^ 31 := by omega) (hc : c < 2 ^ 31 := by omega) : nI c ≤ nI a + nI b ↔ c ≤ a + b := by rw [nI_add]; exact nI_leI hc ha
theorem ap_lta {a b c : Nat} (ha : a + b < 2 ^ 31 := by omega) (hc : c < 2 ^ 31 := by omega) : nI c < nI a + nI b ↔ c < a + b := by rw [nI_add]; exact nI_ltI hc ha
theorem ap_le0 {a : Nat} (ha : a < 2 ^ 31 := by omega) : nI a ≤ 0 ↔ a = 0 := by
  rw [show (0 : Int32) = nI 0 from rfl, nI_leI ha (by omega)]
  omega
theorem ap_10 : ¬ (1 : Int32) = 0 := by decide
theorem ap_vt : vp_nar .boolean 1 = ap_b true := rfl
theorem ap_vf : vp_nar .boolean 0 = ap_b false := rfl
theorem ap_neg1 : (nI 0 - 1 : Int32) < 0 := by decide
theorem ap_p1 (y k : Nat) : nI y + nI (k + 1) - 1 = nI (y + k) := by
  rw [nI_add, ← Nat.add_assoc, nI_pred]
theorem ap_and15 {k : Nat} (h : k < 256) : nI k &&& 15 = nI (k % 16) := pk_andN (by omega) 4 (by decide)
theorem ap_shr4 {k : Nat} (h : k < 256) : nI k >>> ((4 : Int32) &&& 31) = nI (k / 16) := pk_shrN (by omega) _ 4 (by decide)
theorem ap_and255 {k : Nat} (h : k < 65536) : nI k &&& 255 = nI (k % 256) := pk_andN (by omega) 8 (by decide)
theorem ap_shr8 {k : Nat} (h : k < 65536) : nI k >>> ((8 : Int32) &&& 31) = nI (k / 256) := pk_shrN (by omega) _ 8 (by decide)
theorem ap_rem256 {k : Nat} (h : k < 65536) : nI k - nI k / 256 * 256 = nI (k % 256) := pk_rem (by omega) (by decide) (by decide)
theorem ap_div256 {k : Nat} (h : k < 65536) : nI k / 256 = nI (k / 256) := pk_div (by omega) (by decide) (by decide)
theorem ap_ssub (a : Int32) (b c d : Nat) : a - nI b - nI c * nI d = a - nI (b + c * d) := by
  rw [pk_mul, ← nI_add]
  grind
/-- growth of a rectangle by one -/
def ap_gr (W H : Nat) (F : Nat → Nat → Prop) (x y a b : Nat) : Prop :=
  (∃ x', x = x' + 1 ∧ ap_G W H F x' y (a + 1) b) ∨ ap_G W H F x y a (b + 1) ∨ (∃ y', y = y' + 1 ∧ ap_G W H F x y' a (b + 1))
theorem ap_gr_M {W H : Nat} {F : Nat → Nat → Prop} {x y b v : Nat} (a : ap_w W H F x y b v) (hv : 1 ≤ v) (hb : 1 ≤ b) : (∃ v', ap_M W H F x y v' b) ↔ ¬ ap_gr W H F x y v b := by
  constructor
  · intro ⟨v', m⟩ g
    have e := ap_w_u (ap_M_w m) a
    subst e
    obtain ⟨_, _, _, _, m5, m6, m7⟩ := m
    rcases g with ⟨x', e, g⟩ | g | ⟨y', e, g⟩
    · exact m6 x' e g
    · exact m5 g
    · exact m7 y' e g
  · intro g
    rcases a.1 with c | c
    · omega
    · exact ⟨v, hv, hb, c, a.2, fun q => g (Or.inr (Or.inl q)), fun x' e q => g (Or.inl ⟨x', e, q⟩), fun y' e q => g (Or.inr (Or.inr ⟨y', e, q⟩))⟩
def ap_cl (W H : Nat) (F : Nat → Nat → Prop) (x y a b : Nat) : Prop :=
  ¬ (∃ x', x = x' + 1 ∧ ap_G W H F x' y 1 b) ∧ ¬ ap_G W H F (x + a) y 1 b ∧ ¬ (∃ y', y = y' + 1 ∧ ap_G W H F x y' a 1)
theorem ap_cl_M {W H : Nat} {F : Nat → Nat → Prop} {x y a v : Nat} (t : ap_t W H F x y a v) (ha : 1 ≤ a) (hv : 1 ≤ v) : ap_M W H F x y a v ↔ ap_cl W H F x y a v := by
  have g : ap_G W H F x y a v := by
    rcases t.1 with c | c
    · omega
    · exact c
  constructor
  · intro ⟨_, _, _, m4, m5, m6, m7⟩
    refine ⟨fun ⟨x', e, q⟩ => m6 x' e ?_, fun q => m4 (ap_G_r g q), fun ⟨y', e, q⟩ => m7 y' e ?_⟩
    · subst e
      rw [Nat.add_comm a 1]
      exact ap_G_r q g
    · subst e
      rw [Nat.add_comm v 1]
      exact ap_G_u q g
  · intro ⟨c1, c2, c3⟩
    refine ⟨ha, hv, g, fun q => c2 (ap_G_s q (by omega) (by omega) (by omega) (by omega)), t.2, fun x' e q => c1 ⟨x', e, ap_G_s q (by omega) (by omega) (by omega) (by omega)⟩, fun y' e q => c3 ⟨y', e, ap_G_s q (by omega) (by omega) (by omega) (by omega)⟩⟩
