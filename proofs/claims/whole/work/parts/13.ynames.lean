/-! 13: the reference over names: uses, closure, readiness -/
def nh_YF (K V : Nat → Int32) (Ln : Nat → Nat) (U N : Nat) (ow ds : Nat → Int32) : Prop := ∀ n, n < N → (¬ nh_ow K V Ln U n → ow n = -1) ∧ ∀ u s, nh_fs K V Ln U n u s → ow n = nI u ∧ ds n = nI s
theorem nh_YFo {K V : Nat → Int32} {Ln : Nat → Nat} {U N n : Nat} {ow ds : Nat → Int32} (h : nh_YF K V Ln U N ow ds) (hU : U ≤ 8) (hn : n < N) : (0 ≤ ow n ↔ nh_ow K V Ln U n) ∧ (ow n < 0 ↔ ¬ nh_ow K V Ln U n) := by
  rcases Classical.em (nh_ow K V Ln U n) with ho | ho
  · obtain ⟨u, s, hf⟩ := ho
    have hu := hf.1
    rw [((h n hn).2 u s hf).1]
    exact ⟨⟨fun _ => ⟨u, s, hf⟩, fun _ => nI_pos' (by omega)⟩, ⟨fun h => absurd h (nI_pos (by omega)), fun h => absurd ⟨u, s, hf⟩ h⟩⟩
  · rw [(h n hn).1 ho]
    exact ⟨⟨fun h => absurd h (by decide), fun h => absurd h ho⟩, ⟨fun _ => ho, fun _ => by decide⟩⟩
theorem ny_ud29 {U T N : Nat} {K V ln ue dc us ow st w ch ds po ps pv rc rd fS fP fN : Nat → Int32} {post : Int32 → Prop} {n m u s L : Nat} (hU : U ≤ 8) (hL0 : nh_L ln u = L) (hl : ln u = nI L) (hL : L ≤ 32) (hf : nh_fs K V (nh_L ln) U n u s) (h1 : nh_uq K V (nh_L ln) U n m → post 1) (h0 : ¬ nh_uq K V (nh_L ln) U n m → post 0) :
    ∀ (d i k : Nat), i + d = L → d < k → s < i → (∀ t, s < t → t < i → K (u * 32 + t) ≠ 9 ∧ ¬ (K (u * 32 + t) = 2 ∧ V (u * 32 + t) = nI m)) → wY_usesDef_29 post (nI m) (nI u) (nI (u * 32)) (nI U) (nI T) (nI N) K V ln ue dc us ow st w ch ds po ps pv rc rd fS fP fN k (nI i) := by
  have hu := hf.1
  have hcu : (nI u).toNatClampNeg = u := nI_clamp (by omega)
  have h8 : vp_in (nI u) 8 := vp_in_nI (by omega) (by decide)
  intro d
  induction d with
  | zero =>
    intro i k hi hk hs hno
    obtain ⟨q, rfl⟩ : ∃ q, k = q + 1 := ⟨k - 1, by omega⟩
    refine ⟨h8, ?_⟩
    rw [hcu, hl]
    refine br_t (nI_le (by omega) (by omega)) (h0 ?_)
    rintro ⟨u', s', j, hf', hu'⟩
    obtain ⟨e1, e2⟩ := nh_fs1 hf hf'
    rw [e1, e2] at hu'
    have hj := hu'.2.1
    exact (hno j hu'.1 (by omega)).2 ⟨hu'.2.2.2.1, hu'.2.2.2.2⟩
  | succ d ih =>
    intro i k hi hk hs hno
    obtain ⟨q, rfl⟩ : ∃ q, k = q + 1 := ⟨k - 1, by omega⟩
    have hpin : vp_in (nI (u * 32 + i)) 256 := vp_in_nI (by omega) (by decide)
    refine ⟨h8, ?_⟩
    rw [hcu, hl]
    refine br_f (nI_ge (by omega) (by omega)) ?_
    rw [nI_add, nI_clamp (n := u * 32 + i) (by omega)]
    refine ⟨hpin, ?_⟩
    by_cases k9 : K (u * 32 + i) = 9
    · refine br_t k9 (h0 ?_)
      rintro ⟨u', s', j, hf', hu'⟩
      obtain ⟨e1, e2⟩ := nh_fs1 hf hf'
      rw [e1, e2] at hu'
      by_cases hj : j < i
      · exact (hno j hu'.1 hj).2 ⟨hu'.2.2.2.1, hu'.2.2.2.2⟩
      · exact hu'.2.2.1 i hs (by omega) k9
    refine br_f k9 ⟨hpin, ?_⟩
    have hnext : ¬ (K (u * 32 + i) = 2 ∧ V (u * 32 + i) = nI m) → wY_usesDef_29 post (nI m) (nI u) (nI (u * 32)) (nI U) (nI T) (nI N) K V ln ue dc us ow st w ch ds po ps pv rc rd fS fP fN q (nI (i + 1)) := fun hne =>
      ih (i + 1) q (by omega) (by omega) (by omega) (fun t ht1 ht2 => by
        by_cases e : t = i
        · rw [e]; exact ⟨k9, hne⟩
        · exact hno t ht1 (by omega))
    by_cases k2 : K (u * 32 + i) = 2
    · refine br_t k2 ⟨hpin, ?_⟩
      by_cases hv : V (u * 32 + i) = nI m
      · refine br_t hv (h1 ⟨u, s, i, hf, hs, by omega, fun t ht1 ht2 => ?_, k2, hv⟩)
        by_cases e : t = i
        · rw [e]; exact k9
        · exact (hno t ht1 (by omega)).1
      · exact br_f hv (nm_r (nI_1 i) (hnext (fun h => hv h.2)))
    · exact br_f k2 (nm_r (nI_1 i) (hnext (fun h => k2 h.1)))
theorem ny_usesDef {U T N : Nat} {K V ln ue dc us ow st w ch ds po ps pv rc rd fS fP fN : Nat → Int32} {post : Int32 → Prop} {n m : Nat} (hU : U ≤ 8) (hN : N ≤ 16) (hT : T ≤ 32) (hln : ∀ u, ∃ l, l ≤ T ∧ ln u = nI l) (hY : nh_YF K V (nh_L ln) U N ow ds) (hn : n < N)
    (h1 : nh_uq K V (nh_L ln) U n m → post 1) (h0 : ¬ nh_uq K V (nh_L ln) U n m → post 0) : wpY_usesDef post (nI U, nI T, nI N, K, V, ln, ue, dc, us, ow, st, w, ch, ds, po, ps, pv, rc, rd, fS, fP, fN) (nI n) (nI m) := by
  have hcn : (nI n).toNatClampNeg = n := nI_clamp (by omega)
  have h16 : vp_in (nI n) 16 := vp_in_nI (by omega) (by decide)
  refine ⟨h16, ?_⟩
  rw [hcn]
  rcases Classical.em (nh_ow K V (nh_L ln) U n) with ho | ho
  · obtain ⟨u, s, hf⟩ := ho
    have hu := hf.1
    have ⟨e1, e2⟩ := (hY n hn).2 u s hf
    have ⟨hl1, hl2⟩ := nh_Ln hT hln u
    obtain ⟨hk, hs, hs0, _⟩ := hf.2.1
    have hst := nh_st0 hk hs hs0
    have hs1 : s + 2 ≤ nh_L ln u := by
      by_cases e : s + 1 = nh_L ln u
      · have h2 := hk.2
        rw [← e, hst.2] at h2
        exact absurd h2 (by decide)
      · omega
    have k8 := (nh_st1 hk (by omega) hst.2).1
    rw [e2]
    refine nm_r e1 (br_t (nI_pos' (by omega)) (nm_r (nh_e32 u) ⟨h16, nm_r (nI_add s 2) ⟨nh_L ln u - (s + 2) + 1, ?_⟩⟩))
    refine ny_ud29 hU rfl hl1 (by omega) hf h1 h0 (nh_L ln u - (s + 2)) (s + 2) _ (by omega) (by omega) (by omega) (fun t ht1 ht2 => ?_)
    rw [show t = s + 1 by omega, k8]
    exact ⟨by decide, fun h => absurd h.1 (by decide)⟩
  · refine nm_r ((hY n hn).1 ho) (br_f (by decide) (h0 ?_))
    rintro ⟨u, s, _, hf, _⟩
    exact ho ⟨u, s, hf⟩
theorem ny_noOwner {U T N : Nat} {K V ln ue dc us ow st w ch ds po ps pv rc rd fS fP fN : Nat → Int32} {post : Int32 → Prop} {n : Nat} (hU : U ≤ 8) (hN : N ≤ 16) (hT : T ≤ 32) (hln : ∀ u, ∃ l, l ≤ T ∧ ln u = nI l) (hY : nh_YF K V (nh_L ln) U N ow ds) (hn : n < N)
    (h1 : (∃ m, m < N ∧ nh_uq K V (nh_L ln) U n m ∧ ¬ nh_ow K V (nh_L ln) U m) → post 1) (h0 : (∀ m, m < N → nh_uq K V (nh_L ln) U n m → nh_ow K V (nh_L ln) U m) → post 0) : wpY_usesNoOwner post (nI U, nI T, nI N, K, V, ln, ue, dc, us, ow, st, w, ch, ds, po, ps, pv, rc, rd, fS, fP, fN) (nI n) := by
  have key : ∀ (d i k : Nat), i + d = N → d < k → (∀ m, m < i → nh_uq K V (nh_L ln) U n m → nh_ow K V (nh_L ln) U m) → wY_usesNoOwner_2 post (nI n) (nI U) (nI T) (nI N) K V ln ue dc us ow st w ch ds po ps pv rc rd fS fP fN k (nI i) := by
    intro d
    induction d with
    | zero =>
      intro i k hi hk hno
      obtain ⟨q, rfl⟩ : ∃ q, k = q + 1 := ⟨k - 1, by omega⟩
      exact br_t (nI_le (by omega) (by omega)) (h0 (fun m hm => hno m (by omega)))
    | succ d ih =>
      intro i k hi hk hno
      obtain ⟨q, rfl⟩ : ∃ q, k = q + 1 := ⟨k - 1, by omega⟩
      have hiN : i < N := by omega
      refine br_f (nI_ge hiN (by omega)) ⟨vp_in_nI (by omega) (by decide), ?_⟩
      rw [nI_clamp (n := i) (by omega), (nh_YFo hY hU hiN).1]
      refine br_c (fun ho => nm_r (nI_1 i) (ih (i + 1) q (by omega) (by omega) (fun m hm hq => ?_))) (fun ho => ny_usesDef hU hN hT hln hY hn (fun hq => br_f (by decide) (h1 ⟨i, hiN, hq, ho⟩)) (fun hq => br_t rfl (nm_r (nI_1 i) (ih (i + 1) q (by omega) (by omega) (fun m hm hq2 => ?_)))))
      · by_cases e : m = i
        · rw [e]; exact ho
        · exact hno m (by omega) hq
      · by_cases e : m = i
        · rw [e] at hq2; exact absurd hq2 hq
        · exact hno m (by omega) hq2
  exact ⟨N + 1, key N 0 (N + 1) (by omega) (by omega) (fun m hm => absurd hm (Nat.not_lt_zero m))⟩
theorem ny_cv26 {U T N : Nat} {K V ln ue dc us ow st w ch ds po ps pv rc rd fS fP fN : Nat → Int32} {post : SY → Prop} {J : Int32 → (Nat → Int32) → (Nat → Int32) → (Nat → Int32) → (Nat → Int32) → (Nat → Int32) → (Nat → Int32) → (Nat → Int32) → (Nat → Int32) → (Nat → Int32) → (Nat → Int32) → (Nat → Int32) → (Nat → Int32) → (Nat → Int32) → (Nat → Int32) → (Nat → Int32) → (Nat → Int32) → (Nat → Int32) → (Nat → Int32) → (Nat → Int32) → Prop} {O : Nat → Prop} {Q : Nat → Nat → Prop} {k a : Nat} (hN : N ≤ 16) (hk : k < N) (ha : a < N) (hR : nh_TI O Q N k a 0 rc) (hak : nh_rl O Q k a k) (hJ : ∀ rc', nh_TI O Q N k (a + 1) 0 rc' → J (nI (a + 1)) K V ln ue dc us ow st w ch ds po ps pv rc' rd fS fP fN) :
    ∃ n, wY_closeVia_26 post J (nI k) (nI a) (nI U) (nI T) (nI N) n 0 K V ln ue dc us ow st w ch ds po ps pv rc rd fS fP fN := by
  refine loop_0 (σ := Nat → Int32) (fun n i s => wY_closeVia_26 post J (nI k) (nI a) (nI U) (nI T) (nI N) n (nI i) K V ln ue dc us ow st w ch ds po ps pv s rd fS fP fN) (fun i s => nh_TI O Q N k a i s) N rc hR (fun n s h => ?_) (fun n i s hi h hs => ?_)
  · exact br_t (nI_le (Nat.le_refl N) (by omega)) (nm_r (nI_1 a) (hJ s (nh_TIn h)))
  · refine br_f (nI_ge hi (by omega)) ?_
    rw [nh_c16, nI_clamp (n := k * 16 + i) (by omega)]
    refine ⟨vp_in_nI (by omega) (by decide), ?_⟩
    rw [nh_TIk h hk hi]
    refine br_c (fun h1 => nm_r (nI_1 i) (hs _ (nh_TIf h h1))) (fun h1 => ?_)
    rw [nh_c16, nI_clamp (n := a * 16 + i) (by omega), nh_vb1]
    refine ⟨vp_in_nI (by omega) (by decide), nm_e (nm_r (nI_1 i) (hs _ (nh_TIt h hN hi hak ?_ (by decide))))⟩
    exact Classical.not_not.mp h1
theorem ny_closeVia {U T N : Nat} {K V ln ue dc us ow st w ch ds po ps pv rc rd fS fP fN : Nat → Int32} {post : SY → Prop} {O : Nat → Prop} {Q : Nat → Nat → Prop} {k : Nat} (hN : N ≤ 16) (hk : k < N) (hR : nh_TR O Q N k rc) (hp : ∀ rc', nh_TR O Q N (k + 1) rc' → post (nI U, nI T, nI N, K, V, ln, ue, dc, us, ow, st, w, ch, ds, po, ps, pv, rc', rd, fS, fP, fN)) : wpY_closeVia post (nI U, nI T, nI N, K, V, ln, ue, dc, us, ow, st, w, ch, ds, po, ps, pv, rc, rd, fS, fP, fN) (nI k) := by
  refine loop_0 (σ := Nat → Int32) (fun n i s => wY_closeVia_2 post (nI k) (nI U) (nI T) (nI N) n (nI i) K V ln ue dc us ow st w ch ds po ps pv s rd fS fP fN) (fun i s => nh_TI O Q N k i 0 s) N rc (nh_TI0 hR) (fun n s h => ?_) (fun n i s hi h hs => ?_)
  · exact br_t (nI_le (Nat.le_refl N) (by omega)) (hp s (nh_TIe h))
  · refine br_f (nI_ge hi (by omega)) ?_
    rw [nh_c16, nI_clamp (n := i * 16 + k) (by omega)]
    refine ⟨vp_in_nI (by omega) (by decide), ?_⟩
    rw [nh_TIi h hk hi]
    exact br_c (fun h1 => nm_r (nI_1 i) (hs _ (nh_TIs h h1))) (fun h1 => ny_cv26 hN hk hi h (Classical.not_not.mp h1) (fun rc' h' => hs rc' h'))
theorem ny_depState {U T N : Nat} {K V ln ue dc us ow st w ch ds po ps pv rc rd fS fP fN : Nat → Int32} {post : Int32 → Prop} {n : Nat} (hU : U ≤ 8) (hN : N ≤ 16) (hT : T ≤ 32) (hln : ∀ u, ∃ l, l ≤ T ∧ ln u = nI l) (hY : nh_YF K V (nh_L ln) U N ow ds) (hn : n < N)
    (hm1 : (∃ m, m < N ∧ nh_uq K V (nh_L ln) U n m ∧ rd m = 0) → post (-1))
    (h1 : (∃ m, m < N ∧ nh_uq K V (nh_L ln) U n m ∧ ¬ rd m = 0 ∧ ¬ st m = 1) → post 1)
    (h0 : (∀ m, m < N → nh_uq K V (nh_L ln) U n m → ¬ rd m = 0 ∧ st m = 1) → post 0) : wpY_depState post (nI U, nI T, nI N, K, V, ln, ue, dc, us, ow, st, w, ch, ds, po, ps, pv, rc, rd, fS, fP, fN) (nI n) := by
  have key : ∀ (d i k : Nat) (x2 : Int32), i + d = N → d < k → (x2 = 0 → ∀ m, m < i → nh_uq K V (nh_L ln) U n m → ¬ rd m = 0 ∧ st m = 1) → (¬ x2 = 0 → ∃ m, m < i ∧ nh_uq K V (nh_L ln) U n m ∧ ¬ rd m = 0 ∧ ¬ st m = 1) → wY_depState_4 post (nI n) (nI U) (nI T) (nI N) K V ln ue dc us ow st w ch ds po ps pv rc rd fS fP fN k x2 (nI i) := by
    intro d
    induction d with
    | zero =>
      intro i k x2 hi hk ha hb
      obtain ⟨q, rfl⟩ : ∃ q, k = q + 1 := ⟨k - 1, by omega⟩
      refine br_t (nI_le (by omega) (by omega)) (br_c (fun h => h0 (fun m hm => ha h m (by omega))) (fun h => h1 ?_))
      obtain ⟨m, hm, h2⟩ := hb h
      exact ⟨m, by omega, h2⟩
    | succ d ih =>
      intro i k x2 hi hk ha hb
      obtain ⟨q, rfl⟩ : ∃ q, k = q + 1 := ⟨k - 1, by omega⟩
      have hiN : i < N := by omega
      have h16 : vp_in (nI i) 16 := vp_in_nI (by omega) (by decide)
      have hb1 : ¬ x2 = 0 → ∃ m, m < i + 1 ∧ nh_uq K V (nh_L ln) U n m ∧ ¬ rd m = 0 ∧ ¬ st m = 1 := fun h => by
        obtain ⟨m, hm, h2⟩ := hb h
        exact ⟨m, by omega, h2⟩
      refine br_f (nI_ge hiN (by omega)) (ny_usesDef hU hN hT hln hY hn (fun hq => br_f (by decide) ⟨h16, ?_⟩) (fun hq => br_t rfl (nm_r (nI_1 i) (ih (i + 1) q x2 (by omega) (by omega) (fun h m hm hq2 => ?_) hb1))))
      · rw [nI_clamp (n := i) (by omega)]
        refine br_c (fun hr => hm1 ⟨i, hiN, hq, hr⟩) (fun hr => ⟨h16, br_c (fun hs => nm_r (nI_1 i) (ih (i + 1) q x2 (by omega) (by omega) (fun h m hm hq2 => ?_) hb1)) (fun hs => nm_r (nI_1 i) (ih (i + 1) q 1 (by omega) (by omega) (fun h => absurd h (by decide)) (fun _ => ⟨i, by omega, hq, hr, hs⟩)))⟩)
        by_cases e : m = i
        · rw [e]; exact ⟨hr, hs⟩
        · exact ha h m (by omega) hq2
      · by_cases e : m = i
        · rw [e] at hq2; exact absurd hq2 hq
        · exact ha h m (by omega) hq2
  exact ⟨N + 1, key N 0 (N + 1) 0 (by omega) (by omega) (fun _ m hm => absurd hm (Nat.not_lt_zero m)) (fun h => absurd rfl h)⟩
