/-! 12: the reference reads a unit -/
theorem ny_ck {U T N : Nat} {K V ln ue dc us ow st w ch ds po ps pv rc rd fS fP fN : Nat → Int32} {post : Int32 → Prop} {u L : Nat} (hu : u < 8) (hl : ln u = nI L) (hL : L ≤ 32) : ∀ (d i n : Nat), i + d = L → d < n → nh_S K (u * 32) i ≤ 3 → post (nh_er K (u * 32) d i) →
    wY_check_13 post (nI u) (nI (u * 32)) (nI U) (nI T) (nI N) K V ln ue dc us ow st w ch ds po ps pv rc rd fS fP fN n (nI (nh_S K (u * 32) i)) (nI (nh_D K (u * 32) i)) (nI i) := by
  have hcu : (nI u).toNatClampNeg = u := nI_clamp (by omega)
  intro d
  induction d with
  | zero =>
    intro i n hi hn hs hp
    obtain ⟨m, rfl⟩ : ∃ m, n = m + 1 := ⟨n - 1, by omega⟩
    refine ⟨vp_in_nI hu (by decide), ?_⟩
    rw [hcu, hl]
    refine br_t (nI_le (by omega) (by omega)) ?_
    rw [nh_er] at hp
    by_cases e : nh_S K (u * 32) i = 0
    · rw [if_pos e] at hp
      rw [e]
      exact br_t (by decide) hp
    · rw [if_neg e] at hp
      refine br_f (nI_ne0 (by omega) (by omega)) ⟨vp_in_nI hu (by decide), ?_⟩
      rw [show L = i by omega]
      exact hp
  | succ d ih =>
    intro i n hi hn hs hp
    obtain ⟨m, rfl⟩ : ∃ m, n = m + 1 := ⟨n - 1, by omega⟩
    have hD := nh_Dle K (u * 32) i
    rw [nh_er] at hp
    have hS1 := nh_S1 K (u * 32) i
    have hA : ∀ s' d', nh_S K (u * 32) (i + 1) = s' → s' ≤ 3 → nh_D K (u * 32) (i + 1) = d' →
        wY_check_193 post (wY_check_13 post (nI u) (nI (u * 32)) (nI U) (nI T) (nI N) K V ln ue dc us ow st w ch ds po ps pv rc rd fS fP fN m) (nI u) (nI (u * 32)) (nI s') (nI d') (nI i) 1 (nI U) (nI T) (nI N) K V ln ue dc us ow st w ch ds po ps pv rc rd fS fP fN := by
      intro s' d' e1 hs' e2
      subst e1 e2
      rw [if_neg (by omega)] at hp
      exact br_f (by decide) (nm_r (nI_1 i) (ih (i + 1) m (by omega) (by omega) hs' hp))
    have hB : nh_S K (u * 32) (i + 1) = 4 → ∀ x3 x4, wY_check_193 post (wY_check_13 post (nI u) (nI (u * 32)) (nI U) (nI T) (nI N) K V ln ue dc us ow st w ch ds po ps pv rc rd fS fP fN m) (nI u) (nI (u * 32)) x3 x4 (nI i) 0 (nI U) (nI T) (nI N) K V ln ue dc us ow st w ch ds po ps pv rc rd fS fP fN := by
      intro e x3 x4
      rw [if_pos e] at hp
      exact br_t rfl hp
    refine ⟨vp_in_nI hu (by decide), ?_⟩
    rw [hcu, hl]
    refine br_f (nI_ge (by omega) (by omega)) ?_
    rw [nI_add, nI_clamp (n := u * 32 + i) (by omega)]
    refine ⟨vp_in_nI (by omega) (by decide), nm_e ?_⟩
    have hc : nh_S K (u * 32) i = 0 ∨ nh_S K (u * 32) i = 1 ∨ nh_S K (u * 32) i = 2 ∨ nh_S K (u * 32) i = 3 := by omega
    rcases hc with e | e | e | e
    · rw [e] at hS1 ⊢
      rw [nh_n0] at hS1
      refine br_t (by decide) ?_
      by_cases k2 : K (u * 32 + i) = 2
      · rw [if_pos k2] at hS1
        exact br_t k2 (hA 1 _ hS1 (by decide) (nh_Dn (by rw [k2]; decide) (by rw [k2]; decide)))
      · rw [if_neg k2] at hS1
        exact br_f k2 (hB hS1 _ _)
    · rw [e] at hS1 ⊢
      rw [nh_n1] at hS1
      refine br_f (by decide) (br_t (by decide) ?_)
      by_cases k2 : K (u * 32 + i) = 8
      · rw [if_pos k2] at hS1
        exact br_t k2 (hA 2 _ hS1 (by decide) (nh_Dn (by rw [k2]; decide) (by rw [k2]; decide)))
      · rw [if_neg k2] at hS1
        exact br_f k2 (hB hS1 _ _)
    · rw [e] at hS1 ⊢
      rw [nh_n2] at hS1
      refine br_f (by decide) (br_f (by decide) (br_t (by decide) ?_))
      by_cases k1 : K (u * 32 + i) = 1
      · rw [if_pos k1] at hS1
        exact br_t k1 (hA 3 _ hS1 (by decide) (nh_Dn (by rw [k1]; decide) (by rw [k1]; decide)))
      rw [if_neg k1] at hS1
      refine br_f k1 ?_
      by_cases k2 : K (u * 32 + i) = 2
      · rw [if_pos k2] at hS1
        exact br_t k2 (hA 3 _ hS1 (by decide) (nh_Dn (by rw [k2]; decide) (by rw [k2]; decide)))
      rw [if_neg k2] at hS1
      refine br_f k2 ?_
      by_cases k6 : K (u * 32 + i) = 6
      · have k4 : ¬ K (u * 32 + i) = 4 := by rw [k6]; decide
        rw [if_neg k4, if_pos k6] at hS1
        exact br_t k6 (nm_r (nI_1 _) (hA 2 _ hS1 (by decide) (nh_D6 k6)))
      refine br_f k6 ?_
      by_cases k4 : K (u * 32 + i) = 4
      · rw [if_pos k4] at hS1
        exact br_t k4 (hA 2 _ hS1 (by decide) (nh_Dn (by rw [k4]; decide) (by rw [k4]; decide)))
      rw [if_neg k4, if_neg k6] at hS1
      exact br_f k4 (hB hS1 _ _)
    · rw [e] at hS1 ⊢
      rw [nh_n3] at hS1
      refine br_f (by decide) (br_f (by decide) (br_f (by decide) ?_))
      by_cases k3 : K (u * 32 + i) = 3
      · rw [if_pos k3] at hS1
        exact br_t k3 (hA 2 _ hS1 (by decide) (nh_Dn (by rw [k3]; decide) (by rw [k3]; decide)))
      rw [if_neg k3] at hS1
      refine br_f k3 ?_
      by_cases k4 : K (u * 32 + i) = 4
      · rw [if_pos k4] at hS1
        exact br_t k4 (hA 2 _ hS1 (by decide) (nh_Dn (by rw [k4]; decide) (by rw [k4]; decide)))
      rw [if_neg k4] at hS1
      refine br_f k4 ?_
      by_cases k5 : K (u * 32 + i) = 5
      · rw [if_pos k5] at hS1
        exact br_t k5 (hA 2 _ hS1 (by decide) (nh_Dn (by rw [k5]; decide) (by rw [k5]; decide)))
      rw [if_neg k5] at hS1
      refine br_f k5 ?_
      by_cases k7 : K (u * 32 + i) = 7
      · rw [if_pos k7] at hS1
        refine br_t k7 ?_
        by_cases hz : 0 < nh_D K (u * 32) i
        · rw [if_pos hz] at hS1
          refine br_f (nI_nle hz (by omega)) (nm_r ?_ (hA 3 _ hS1 (by decide) (nh_D7 k7)))
          obtain ⟨q, hq⟩ : ∃ q, nh_D K (u * 32) i = q + 1 := ⟨nh_D K (u * 32) i - 1, by omega⟩
          rw [hq]
          exact pk_m1 q
        · rw [if_neg hz] at hS1
          refine br_t ?_ (br_f (by rw [k7]; decide) (hB hS1 _ _))
          rw [show nh_D K (u * 32) i = 0 by omega]; decide
      rw [if_neg k7] at hS1
      refine br_f k7 ?_
      by_cases k9 : K (u * 32 + i) = 9
      · rw [if_pos k9] at hS1
        refine br_t k9 ?_
        by_cases hz : nh_D K (u * 32) i = 0
        · rw [if_pos hz] at hS1
          exact br_t (by rw [hz]; decide) (hA 0 _ hS1 (by decide) (nh_Dn (by rw [k9]; decide) (by rw [k9]; decide)))
        · rw [if_neg hz] at hS1
          exact br_f (nI_ne0 (by omega) (by omega)) (hB hS1 _ _)
      rw [if_neg k9] at hS1
      exact br_f k9 (hB hS1 _ _)
theorem ny_check {U T N : Nat} {K V ln ue dc us ow st w ch ds po ps pv rc rd fS fP fN : Nat → Int32} {post : Int32 → Prop} {u : Nat} (hu : u < 8) (hT : T ≤ 32) (hln : ∀ u, ∃ l, l ≤ T ∧ ln u = nI l) (hp : post (nh_E K ln u)) : wpY_check post (nI U, nI T, nI N, K, V, ln, ue, dc, us, ow, st, w, ch, ds, po, ps, pv, rc, rd, fS, fP, fN) (nI u) := by
  have ⟨h1, h2⟩ := nh_Ln hT hln u
  exact nm_r (nh_e32 u) ⟨nh_L ln u + 1, ny_ck hu h1 (by omega) (nh_L ln u) 0 _ (by omega) (by omega) (by rw [nh_S0]; decide) hp⟩
/-- a row of the table of uses -/
def nh_urow (us : Nat → Int32) (u : Nat) (P : Nat → Prop) : Prop := ∀ m, m < 16 → (us (u * 16 + m) = 1 ∧ P m) ∨ (us (u * 16 + m) = 0 ∧ ¬ P m)
theorem nh_urc {us : Nat → Int32} {u : Nat} {P P' : Nat → Prop} (h : nh_urow us u P) (he : ∀ m, m < 16 → (P' m ↔ P m)) : nh_urow us u P' := by
  intro m hm
  rw [he m hm]
  exact h m hm
theorem ny_sc {U T N : Nat} {K V ln ue dc ow st w ch ds po ps pv rc rd fS fP fN : Nat → Int32} {post : SY → Prop} {u L : Nat} (hu : u < 8) (hN : N ≤ 16) (hl : ln u = nI L) (hL : L ≤ 32) (hTV : nh_TV N K V) (hok : nh_ok K (u * 32) L) :
    ∀ (d i n : Nat) (x4 : Int32) (us : Nat → Int32), i + d = L → d < n → (x4 = 0 ↔ ¬ nh_S K (u * 32) i = 0) → nh_urow us u (nh_uu K V (u * 32) i) →
    (∀ us', nh_urow us' u (nh_uu K V (u * 32) L) → (∀ u' m, u' ≠ u → m < 16 → us' (u' * 16 + m) = us (u' * 16 + m)) → post (nI U, nI T, nI N, K, V, ln, ue, upd dc u (nI (nh_ct K (u * 32) L)), us', ow, st, w, ch, ds, po, ps, pv, rc, rd, fS, fP, fN)) →
    wY_scanUnit_13 post (nI u) (nI (u * 32)) (nI U) (nI T) (nI N) n (nI (nh_ct K (u * 32) i)) x4 (nI i) K V ln ue dc us ow st w ch ds po ps pv rc rd fS fP fN := by
  have hcu : (nI u).toNatClampNeg = u := nI_clamp (by omega)
  have h8 : vp_in (nI u) 8 := vp_in_nI hu (by decide)
  intro d
  induction d with
  | zero =>
    intro i n x4 us hi hn hx hr hp
    obtain ⟨m, rfl⟩ : ∃ m, n = m + 1 := ⟨n - 1, by omega⟩
    have e : i = L := by omega
    subst e
    refine ⟨h8, ?_⟩
    rw [hcu, hl]
    exact br_t (nI_le (Nat.le_refl _) (by omega)) ⟨h8, nm_e (hp us hr (fun _ _ _ _ => rfl))⟩
  | succ d ih =>
    intro i n x4 us hi hn hx hr hp
    obtain ⟨m, rfl⟩ : ∃ m, n = m + 1 := ⟨n - 1, by omega⟩
    have hpin : vp_in (nI (u * 32 + i)) 256 := vp_in_nI (by omega) (by decide)
    refine ⟨h8, ?_⟩
    rw [hcu, hl]
    refine br_f (nI_ge (by omega) (by omega)) ?_
    rw [nI_add, nI_clamp (n := u * 32 + i) (by omega)]
    refine ⟨hpin, nm_e ?_⟩
    by_cases h0 : nh_S K (u * 32) i = 0
    · have ⟨k2, hS1⟩ := nh_st0 hok (by omega) h0
      have hct : nh_ct K (u * 32) (i + 1) = nh_ct K (u * 32) i := by rw [nh_ct, if_neg (by rw [k2]; decide)]
      refine br_f (fun h => hx.mp h h0) (nm_r (nI_1 i) ?_)
      have h1 := ih (i + 1) m 0 us (by omega) (by omega) ⟨fun _ => by omega, fun _ => rfl⟩ (nh_urc hr (fun q _ => nh_uun (fun h => h.1 h0))) hp
      rw [hct] at h1
      exact h1
    · refine br_t (hx.mpr h0) ?_
      by_cases k9 : K (u * 32 + i) = 9
      · have ⟨hS, hS1⟩ := nh_nine hok (by omega) k9
        have hct : nh_ct K (u * 32) (i + 1) = nh_ct K (u * 32) i + 1 := by rw [nh_ct, if_pos k9]
        have h1 := ih (i + 1) m 1 us (by omega) (by omega) ⟨fun h => absurd h (by decide), fun h => absurd hS1 h⟩ (nh_urc hr (fun q _ => nh_uun (fun h => by rw [k9] at h; exact absurd h.2 (by decide)))) hp
        rw [hct] at h1
        exact br_t k9 (nm_r (nI_1 _) (nm_r (nI_1 i) h1))
      · have hct : nh_ct K (u * 32) (i + 1) = nh_ct K (u * 32) i := by rw [nh_ct, if_neg k9]
        refine br_f k9 ?_
        by_cases k2 : K (u * 32 + i) = 2
        · obtain ⟨v, hv, hV⟩ := hTV _ k2
          refine br_t k2 ⟨hpin, ?_⟩
          rw [hV, nh_c16, nI_clamp (n := u * 16 + v) (by omega), nh_vb1]
          refine ⟨vp_in_nI (by omega) (by decide), nm_e (nm_r (nI_1 i) ?_)⟩
          have h1 := ih (i + 1) m x4 (upd us (u * 16 + v) 1) (by omega) (by omega) ⟨fun _ => nh_n9 k9, fun _ => hx.mpr h0⟩ (fun q hq => ?_) (fun us' h2 h3 => hp us' h2 (fun u' q hne hq => ?_))
          · rw [hct] at h1; exact h1
          · rw [nh_uus]
            by_cases e : q = v
            · rw [e, pk_us]; exact Or.inl ⟨rfl, Or.inr ⟨h0, k2, hV⟩⟩
            · rw [pk_un (by omega)]
              rcases hr q hq with ⟨h4, h5⟩ | ⟨h4, h5⟩
              · exact Or.inl ⟨h4, Or.inl h5⟩
              · refine Or.inr ⟨h4, fun h6 => h6.elim h5 (fun h7 => e (nh_im (by rw [← h7.2.2, hV]) (by omega) (by omega)))⟩
          · rw [h3 u' q hne hq, pk_un]
            intro e
            exact hne (by omega)
        · have h1 := ih (i + 1) m x4 us (by omega) (by omega) ⟨fun _ => nh_n9 k9, fun _ => hx.mpr h0⟩ (nh_urc hr (fun q _ => nh_uun (fun h => k2 h.2))) hp
          rw [hct] at h1
          exact br_f k2 (nm_r (nI_1 i) h1)
theorem ny_scan {U T N : Nat} {K V ln ue dc us ow st w ch ds po ps pv rc rd fS fP fN : Nat → Int32} {post : SY → Prop} {u : Nat} (hu : u < 8) (hN : N ≤ 16) (hT : T ≤ 32) (hln : ∀ u, ∃ l, l ≤ T ∧ ln u = nI l) (hTV : nh_TV N K V) (hE : nh_E K ln u = -1) (hus : ∀ m, m < 16 → us (u * 16 + m) = 0)
    (hp : ∀ us', nh_urow us' u (fun m => nh_E K ln u = -1 ∧ nh_uu K V (u * 32) (nh_L ln u) m) → (∀ u' m, u' ≠ u → m < 16 → us' (u' * 16 + m) = us (u' * 16 + m)) → post (nI U, nI T, nI N, K, V, ln, ue, upd dc u (nh_C K ln u), us', ow, st, w, ch, ds, po, ps, pv, rc, rd, fS, fP, fN)) : wpY_scanUnit post (nI U, nI T, nI N, K, V, ln, ue, dc, us, ow, st, w, ch, ds, po, ps, pv, rc, rd, fS, fP, fN) (nI u) := by
  have ⟨h1, h2⟩ := nh_Ln hT hln u
  have hok : nh_ok K (u * 32) (nh_L ln u) := nh_ok_of (by omega) hE
  refine nm_r (nh_e32 u) ⟨nh_L ln u + 1, ny_sc hu hN h1 (by omega) hTV hok (nh_L ln u) 0 _ 1 us (by omega) (by omega) ⟨fun h => absurd h (by decide), fun h => absurd (nh_S0 _ _) h⟩ (fun m hm => Or.inr ⟨hus m hm, nh_uu0⟩) (fun us' h3 h4 => ?_)⟩
  have h5 := hp us' (nh_urc h3 (fun m _ => ⟨fun h => h.2, fun h => ⟨hE, h⟩⟩)) h4
  rw [nh_C, if_pos hE] at h5
  exact h5
theorem ny_fd {U T N : Nat} {K V ln ue dc us ow st w ch ds po ps pv rc rd fS fP fN : Nat → Int32} {post : Int32 → Prop} {u L nm : Nat} (hu : u < 8) (hL0 : nh_L ln u = L) (hl : ln u = nI L) (hL : L ≤ 32) (hok : nh_ok K (u * 32) L) (h1 : ∀ i, nh_df K V (nh_L ln) u i nm → (∀ i', i' < i → ¬ nh_df K V (nh_L ln) u i' nm) → post (nI i)) (h0 : (∀ i, ¬ nh_df K V (nh_L ln) u i nm) → post (-1)) :
    ∀ (d i n : Nat) (x4 : Int32), i + d = L → d < n → (x4 = 0 ↔ ¬ nh_S K (u * 32) i = 0) → (∀ i', i' < i → ¬ nh_df K V (nh_L ln) u i' nm) → wY_findDef_11 post (nI u) (nI nm) (nI (u * 32)) (nI U) (nI T) (nI N) K V ln ue dc us ow st w ch ds po ps pv rc rd fS fP fN n x4 (nI i) := by
  have hcu : (nI u).toNatClampNeg = u := nI_clamp (by omega)
  have h8 : vp_in (nI u) 8 := vp_in_nI hu (by decide)
  intro d
  induction d with
  | zero =>
    intro i n x4 hi hn hx hno
    obtain ⟨m, rfl⟩ : ∃ m, n = m + 1 := ⟨n - 1, by omega⟩
    refine ⟨h8, ?_⟩
    rw [hcu, hl]
    refine br_t (nI_le (by omega) (by omega)) (h0 (fun i' hd => ?_))
    have h2 := hd.2.1
    exact hno i' (by omega) hd
  | succ d ih =>
    intro i n x4 hi hn hx hno
    obtain ⟨m, rfl⟩ : ∃ m, n = m + 1 := ⟨n - 1, by omega⟩
    have hpin : vp_in (nI (u * 32 + i)) 256 := vp_in_nI (by omega) (by decide)
    refine ⟨h8, ?_⟩
    rw [hcu, hl]
    refine br_f (nI_ge (by omega) (by omega)) ?_
    rw [nI_add, nI_clamp (n := u * 32 + i) (by omega)]
    by_cases hs : nh_S K (u * 32) i = 0
    · refine br_f (fun h => hx.mp h hs) ⟨hpin, ?_⟩
      by_cases hv : V (u * 32 + i) = nI nm
      · exact br_t hv (h1 i ⟨by rw [hL0]; exact hok, by omega, hs, hv⟩ hno)
      · refine br_f hv (nm_r (nI_1 i) (ih (i + 1) m 0 (by omega) (by omega) ⟨fun _ => ?_, fun _ => rfl⟩ (fun i' hi' hd => ?_)))
        · rw [(nh_st0 hok (by omega) hs).2]; decide
        · by_cases e : i' = i
          · rw [e] at hd; exact hv hd.2.2.2
          · exact hno i' (by omega) hd
    · have hno1 : ∀ i', i' < i + 1 → ¬ nh_df K V (nh_L ln) u i' nm := fun i' hi' hd => by
        by_cases e : i' = i
        · rw [e] at hd; exact hs hd.2.2.1
        · exact hno i' (by omega) hd
      refine br_t (hx.mpr hs) ⟨hpin, ?_⟩
      by_cases k9 : K (u * 32 + i) = 9
      · have ⟨_, hS1⟩ := nh_nine hok (by omega) k9
        exact br_t k9 (nm_r (nI_1 i) (ih (i + 1) m 1 (by omega) (by omega) ⟨fun h => absurd h (by decide), fun h => absurd hS1 h⟩ hno1))
      · exact br_f k9 (nm_r (nI_1 i) (ih (i + 1) m x4 (by omega) (by omega) ⟨fun _ => nh_n9 k9, fun _ => hx.mpr hs⟩ hno1))
theorem ny_findDef {U T N : Nat} {K V ln ue dc us ow st w ch ds po ps pv rc rd fS fP fN : Nat → Int32} {post : Int32 → Prop} {u nm : Nat} (hu : u < 8) (hT : T ≤ 32) (hln : ∀ u, ∃ l, l ≤ T ∧ ln u = nI l) (hE : nh_E K ln u = -1) (h1 : ∀ i, nh_df K V (nh_L ln) u i nm → (∀ i', i' < i → ¬ nh_df K V (nh_L ln) u i' nm) → post (nI i)) (h0 : (∀ i, ¬ nh_df K V (nh_L ln) u i nm) → post (-1)) : wpY_findDef post (nI U, nI T, nI N, K, V, ln, ue, dc, us, ow, st, w, ch, ds, po, ps, pv, rc, rd, fS, fP, fN) (nI u) (nI nm) := by
  have ⟨h3, h4⟩ := nh_Ln hT hln u
  have hok : nh_ok K (u * 32) (nh_L ln u) := nh_ok_of (by omega) hE
  exact nm_r (nh_e32 u) ⟨nh_L ln u + 1, ny_fd hu rfl h3 (by omega) hok h1 h0 (nh_L ln u) 0 _ 1 (by omega) (by omega) ⟨fun h => absurd h (by decide), fun h => absurd (nh_S0 _ _) h⟩ (fun i' hi' => absurd hi' (Nat.not_lt_zero i'))⟩
