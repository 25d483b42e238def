/-! 05: the value of an expr, as X reckons it: pure -/
def nh_pe (K V w : Nat → Int32) : Nat → Nat → Bool → Nat → Int32 → Int32 → (Nat → Int32) → (Nat → Int32) → Int32
  | 0, _, _, _, t, q, _, _ => t + q
  | f + 1, p, af, d, t, q, oT, oP =>
    if K p = 9 then t + q
    else if K p = 1 then nh_pe K V w f (p + 1) true d t (q * V p) oT oP
    else if K p = 2 then nh_pe K V w f (p + 1) true d t (q * w (V p).toNatClampNeg) oT oP
    else if K p = 3 then nh_pe K V w f (p + 1) false d (t + q) 1 oT oP
    else if K p = 4 then (if af = true then nh_pe K V w f (p + 1) false d (t + q) (-1) oT oP else nh_pe K V w f (p + 1) false d t (-q) oT oP)
    else if K p = 6 then nh_pe K V w f (p + 1) false (d + 1) 0 1 (upd oT d t) (upd oP d q)
    else if K p = 7 then (if d = 0 then nh_pe K V w f (p + 1) true d t q oT oP else nh_pe K V w f (p + 1) true (d - 1) (oT (d - 1)) (oP (d - 1) * (t + q)) oT oP)
    else nh_pe K V w f (p + 1) false d t q oT oP
theorem nh_peS (K V w : Nat → Int32) (f p : Nat) (af : Bool) (d : Nat) (t q : Int32) (oT oP : Nat → Int32) : nh_pe K V w (f + 1) p af d t q oT oP =
    if K p = 9 then t + q
    else if K p = 1 then nh_pe K V w f (p + 1) true d t (q * V p) oT oP
    else if K p = 2 then nh_pe K V w f (p + 1) true d t (q * w (V p).toNatClampNeg) oT oP
    else if K p = 3 then nh_pe K V w f (p + 1) false d (t + q) 1 oT oP
    else if K p = 4 then (if af = true then nh_pe K V w f (p + 1) false d (t + q) (-1) oT oP else nh_pe K V w f (p + 1) false d t (-q) oT oP)
    else if K p = 6 then nh_pe K V w f (p + 1) false (d + 1) 0 1 (upd oT d t) (upd oP d q)
    else if K p = 7 then (if d = 0 then nh_pe K V w f (p + 1) true d t q oT oP else nh_pe K V w f (p + 1) true (d - 1) (oT (d - 1)) (oP (d - 1) * (t + q)) oT oP)
    else nh_pe K V w f (p + 1) false d t q oT oP := rfl
/-- only the values of the names used count, and no stored level that is not open -/
theorem nh_pec {K V w w' : Nat → Int32} : ∀ (f p : Nat) (af : Bool) (d : Nat) (t q : Int32) (oT oP oT' oP' : Nat → Int32),
    (∀ j, p ≤ j → j < p + f → (∀ t, p ≤ t → t ≤ j → K t ≠ 9) → K j = 2 → w (V j).toNatClampNeg = w' (V j).toNatClampNeg) → (∀ j, j < d → oT j = oT' j ∧ oP j = oP' j) →
    nh_pe K V w f p af d t q oT oP = nh_pe K V w' f p af d t q oT' oP' := by
  intro f
  induction f with
  | zero => intros; rfl
  | succ f ih =>
    intro p af d t q oT oP oT' oP' h ho
    rw [nh_peS, nh_peS]
    by_cases h9 : K p = 9
    · rw [if_pos h9, if_pos h9]
    · have hr : ∀ j, p + 1 ≤ j → j < p + 1 + f → (∀ t, p + 1 ≤ t → t ≤ j → K t ≠ 9) → K j = 2 → w (V j).toNatClampNeg = w' (V j).toNatClampNeg := fun j h1 h2 h3 h4 =>
        h j (by omega) (by omega) (fun t ht ht2 => by
          by_cases e : t = p
          · rw [e]; exact h9
          · exact h3 t (by omega) ht2) h4
      rw [if_neg h9, if_neg h9]
      by_cases h1 : K p = 1
      · rw [if_pos h1, if_pos h1]; exact ih _ _ _ _ _ _ _ _ _ hr ho
      rw [if_neg h1, if_neg h1]
      by_cases h2 : K p = 2
      · rw [if_pos h2, if_pos h2, h p (Nat.le_refl p) (by omega) (fun t ht ht2 => by rw [show t = p by omega]; exact h9) h2]
        exact ih _ _ _ _ _ _ _ _ _ hr ho
      rw [if_neg h2, if_neg h2]
      by_cases h3 : K p = 3
      · rw [if_pos h3, if_pos h3]; exact ih _ _ _ _ _ _ _ _ _ hr ho
      rw [if_neg h3, if_neg h3]
      by_cases h4 : K p = 4
      · rw [if_pos h4, if_pos h4]
        by_cases ha : af = true
        · rw [if_pos ha, if_pos ha]; exact ih _ _ _ _ _ _ _ _ _ hr ho
        · rw [if_neg ha, if_neg ha]; exact ih _ _ _ _ _ _ _ _ _ hr ho
      rw [if_neg h4, if_neg h4]
      by_cases h6 : K p = 6
      · rw [if_pos h6, if_pos h6]
        refine ih _ _ _ _ _ _ _ _ _ hr (fun j hj => ?_)
        by_cases e : j = d
        · subst e; rw [pk_us, pk_us, pk_us, pk_us]; exact ⟨rfl, rfl⟩
        · rw [pk_un e, pk_un e, pk_un e, pk_un e]; exact ho j (by omega)
      rw [if_neg h6, if_neg h6]
      by_cases h7 : K p = 7
      · rw [if_pos h7, if_pos h7]
        by_cases hd : d = 0
        · rw [if_pos hd, if_pos hd]; exact ih _ _ _ _ _ _ _ _ _ hr ho
        · rw [if_neg hd, if_neg hd, (ho (d - 1) (by omega)).1, (ho (d - 1) (by omega)).2]
          exact ih _ _ _ _ _ _ _ _ _ hr (fun j hj => ho j (by omega))
      rw [if_neg h7, if_neg h7]
      exact ih _ _ _ _ _ _ _ _ _ hr ho
def nh_z0 : Nat → Int32 := fun _ => 0
def nh_ev (K V : Nat → Int32) (Ln : Nat → Nat) (w : Nat → Int32) (u s : Nat) : Int32 := nh_pe K V w (Ln u - (s + 2)) (u * 32 + s + 2) false 0 0 1 nh_z0 nh_z0
theorem nh_evc {K V w w' : Nat → Int32} {Ln : Nat → Nat} {U N n u s : Nat} (hT : ∀ p, K p = 2 → ∃ m, m < N ∧ V p = nI m) (hN : N ≤ 16) (hf : nh_fs K V Ln U n u s)
    (h : ∀ m, m < N → nh_uq K V Ln U n m → w m = w' m) : nh_ev K V Ln w u s = nh_ev K V Ln w' u s := by
  refine nh_pec _ _ _ _ _ _ _ _ _ _ (fun j h1 h2 h3 h4 => ?_) (fun j hj => absurd hj (Nat.not_lt_zero j))
  obtain ⟨m, hm, hv⟩ := hT j h4
  rw [hv, nI_clamp (by omega)]
  obtain ⟨hk, hs, hs0, _⟩ := hf.2.1
  have ⟨_, hs1⟩ := nh_st0 hk hs hs0
  refine h m hm ⟨u, s, j - u * 32, hf, by omega, by omega, fun t ht ht2 => ?_, by rw [show u * 32 + (j - u * 32) = j by omega]; exact h4, by rw [show u * 32 + (j - u * 32) = j by omega]; exact hv⟩
  by_cases e : t = s + 1
  · rw [e, (nh_st1 hk (by omega) hs1).1]; decide
  · exact h3 (u * 32 + t) (by omega) (by omega)
/-- x is the value of the definition of n -/
def nh_vl (K V : Nat → Int32) (Ln : Nat → Nat) (U n : Nat) (w : Nat → Int32) (x : Int32) : Prop := ∃ u s, nh_fs K V Ln U n u s ∧ x = nh_ev K V Ln w u s
theorem nh_vlc {K V w w' : Nat → Int32} {Ln : Nat → Nat} {U N n : Nat} {x : Int32} (hT : ∀ p, K p = 2 → ∃ m, m < N ∧ V p = nI m) (hN : N ≤ 16) (h : nh_vl K V Ln U n w x)
    (hw : ∀ m, m < N → nh_uq K V Ln U n m → w m = w' m) : nh_vl K V Ln U n w' x := by
  obtain ⟨u, s, hf, he⟩ := h
  exact ⟨u, s, hf, he.trans (nh_evc hT hN hf hw)⟩
theorem nh_vl1 {K V w : Nat → Int32} {Ln : Nat → Nat} {U n : Nat} {x y : Int32} (h : nh_vl K V Ln U n w x) (h' : nh_vl K V Ln U n w y) : x = y := by
  obtain ⟨u, s, hf, he⟩ := h
  obtain ⟨u', s', hf', he'⟩ := h'
  obtain ⟨e1, e2⟩ := nh_fs1 hf hf'
  subst e1 e2
  rw [he, he']
