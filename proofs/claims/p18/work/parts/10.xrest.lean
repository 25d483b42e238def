/-! 10: X's values, rounds, publishing -/
theorem nx_tok {U T N : Nat} {on ok fl tt pr : Int32} {K V ln ue dc uu ow st w ch no ns nr es nu re oT oP : Nat → Int32} {post : St2 → Prop} {p d : Nat} {af : Bool} {x : Int32} (hN : N ≤ 16) (hTV : nh_TV N K V) (hd : d < 32) (hx : x = 0 ↔ ¬ af = true)
    (h1 : K p = 1 → post (nI U, nI T, nI N, on, ok, fl, nI d, tt, pr * V p, K, V, ln, ue, dc, uu, ow, st, w, ch, no, ns, nr, es, nu, re, oT, oP)) (h2 : K p = 2 → post (nI U, nI T, nI N, on, ok, fl, nI d, tt, pr * nr (V p).toNatClampNeg, K, V, ln, ue, dc, uu, ow, st, w, ch, no, ns, nr, es, nu, re, oT, oP)) (h3 : K p = 3 → post (nI U, nI T, nI N, on, ok, fl, nI d, tt + pr, 1, K, V, ln, ue, dc, uu, ow, st, w, ch, no, ns, nr, es, nu, re, oT, oP))
    (h4 : K p = 4 → af = true → post (nI U, nI T, nI N, on, ok, fl, nI d, tt + pr, -1, K, V, ln, ue, dc, uu, ow, st, w, ch, no, ns, nr, es, nu, re, oT, oP)) (h4' : K p = 4 → ¬ af = true → post (nI U, nI T, nI N, on, ok, fl, nI d, tt, -pr, K, V, ln, ue, dc, uu, ow, st, w, ch, no, ns, nr, es, nu, re, oT, oP))
    (h6 : K p = 6 → post (nI U, nI T, nI N, on, ok, fl, nI (d + 1), 0, 1, K, V, ln, ue, dc, uu, ow, st, w, ch, no, ns, nr, es, nu, re, upd oT d tt, upd oP d pr)) (h7 : K p = 7 → d = 0 → post (nI U, nI T, nI N, on, ok, fl, nI d, tt, pr, K, V, ln, ue, dc, uu, ow, st, w, ch, no, ns, nr, es, nu, re, oT, oP)) (h7' : K p = 7 → ¬ d = 0 → post (nI U, nI T, nI N, on, ok, fl, nI (d - 1), oT (d - 1), oP (d - 1) * (tt + pr), K, V, ln, ue, dc, uu, ow, st, w, ch, no, ns, nr, es, nu, re, oT, oP))
    (h0 : ¬ K p = 1 → ¬ K p = 2 → ¬ K p = 3 → ¬ K p = 4 → ¬ K p = 6 → ¬ K p = 7 → post (nI U, nI T, nI N, on, ok, fl, nI d, tt, pr, K, V, ln, ue, dc, uu, ow, st, w, ch, no, ns, nr, es, nu, re, oT, oP)) : wpX_evaluateToken post (nI U, nI T, nI N, on, ok, fl, nI d, tt, pr, K, V, ln, ue, dc, uu, ow, st, w, ch, no, ns, nr, es, nu, re, oT, oP) (K p) (V p) x := by
  have hdin : vp_in (nI d) 32 := vp_in_nI hd (by decide)
  have hcd : (nI d).toNatClampNeg = d := nI_clamp (by omega)
  by_cases k1 : K p = 1
  · refine br_f (by rw [k1]; decide) (br_f (by rw [k1]; decide) (br_t k1 (nm_e (h1 k1))))
  by_cases k2 : K p = 2
  · obtain ⟨m, hm, hv⟩ := hTV p k2
    refine br_f (by rw [k2]; decide) (br_f (by rw [k2]; decide) (br_f k1 (br_t k2 ⟨?_, nm_e (h2 k2)⟩)))
    rw [hv]; exact vp_in_nI (by omega) (by decide)
  by_cases k3 : K p = 3
  · exact br_f (by rw [k3]; decide) (br_f (by rw [k3]; decide) (br_f k1 (br_f k2 (br_t k3 (nm_e (h3 k3))))))
  by_cases k4 : K p = 4
  · refine br_f (by rw [k4]; decide) (br_f (by rw [k4]; decide) (br_f k1 (br_f k2 (br_f k3 (br_t k4 ?_)))))
    by_cases ha : af = true
    · exact br_f (fun h => hx.mp h ha) (nm_e (h4 k4 ha))
    · exact br_t (hx.mpr ha) (nm_e (h4' k4 ha))
  by_cases k6 : K p = 6
  · refine br_f (by rw [k6]; decide) (br_f (by rw [k6]; decide) (br_f k1 (br_f k2 (br_f k3 (br_f k4 (br_f (by rw [k6]; decide) (br_t k6 ?_)))))))
    refine br_f (nI_ge (b := 32) hd (by decide)) ⟨hdin, ?_⟩
    rw [hcd]
    exact nm_e ⟨hdin, nm_e (nm_r (nI_1 d) (h6 k6))⟩
  by_cases k7 : K p = 7
  · refine br_f (by rw [k7]; decide) (br_f (by rw [k7]; decide) (br_f k1 (br_f k2 (br_f k3 (br_f k4 (br_f (by rw [k7]; decide) (br_f k6 (br_t k7 ?_))))))))
    by_cases hz : d = 0
    · subst hz; exact br_t (by decide) (h7 k7 rfl)
    · refine br_f (nI_nle (by omega) (by omega)) (nm_r (e' := nI (d - 1)) ?_ ⟨vp_in_nI (by omega) (by decide), ?_⟩)
      · obtain ⟨q, rfl⟩ : ∃ q, d = q + 1 := ⟨d - 1, by omega⟩
        exact nI_pred q
      · rw [nI_clamp (n := d - 1) (by omega)]
        exact nm_e ⟨vp_in_nI (by omega) (by decide), nm_e (h7' k7 hz)⟩
  have h00 := h0 k1 k2 k3 k4 k6 k7
  exact br_c (fun _ => h00) (fun _ => br_c (fun _ => h00) (fun _ => br_f k1 (br_f k2 (br_f k3 (br_f k4 (br_c (fun _ => h00) (fun _ => br_f k6 (br_f k7 trivial))))))))
theorem nx_ev {U T N : Nat} {on ok fl : Int32} {K V ln ue dc uu ow st w ch no ns nr es nu re : Nat → Int32} {post : Int32 → St2 → Prop} {e : Nat} (hN : N ≤ 16) (hTV : nh_TV N K V) (he : e ≤ 256) : ∀ (f p n : Nat) (af : Bool) (x : Int32) (d : Nat) (tt pr : Int32) (oT oP : Nat → Int32), p + f = e → f < n → d + f ≤ 32 → (x = 0 ↔ ¬ af = true) →
    (∀ dp' tt' pr' oT' oP', post (nh_pe K V nr f p af d tt pr oT oP) (nI U, nI T, nI N, on, ok, fl, dp', tt', pr', K, V, ln, ue, dc, uu, ow, st, w, ch, no, ns, nr, es, nu, re, oT', oP')) → wX_evaluate_52 post (nI e) n x (nI p) (nI U) (nI T) (nI N) on ok fl (nI d) tt pr K V ln ue dc uu ow st w ch no ns nr es nu re oT oP := by
  intro f
  induction f with
  | zero =>
    intro p n af x d tt pr oT oP hpe hn hd hx hp
    obtain ⟨m, rfl⟩ : ∃ m, n = m + 1 := ⟨n - 1, by omega⟩
    exact br_t (nI_le (by omega) (by omega)) (hp _ _ _ _ _)
  | succ f ih =>
    intro p n af x d tt pr oT oP hpe hn hd hx hp
    obtain ⟨m, rfl⟩ : ∃ m, n = m + 1 := ⟨n - 1, by omega⟩
    have hpin : vp_in (nI p) 256 := vp_in_nI (by omega) (by decide)
    refine br_f (nI_ge (by omega) (by omega)) ⟨hpin, ?_⟩
    rw [nI_clamp (n := p) (by omega)]
    rw [nh_peS] at hp
    by_cases k9 : K p = 9
    · rw [if_pos k9] at hp
      exact br_t k9 (hp _ _ _ _ _)
    rw [if_neg k9] at hp
    refine br_f k9 ⟨hpin, hpin, ?_⟩
    have T1 : (1 : Int32) = 0 ↔ ¬ true = true := ⟨fun h => absurd h (by decide), fun h => absurd rfl h⟩
    have T0 : (0 : Int32) = 0 ↔ ¬ false = true := ⟨fun _ => by decide, fun _ => rfl⟩
    refine nx_tok hN hTV (by omega) hx (fun k1 => ?_) (fun k2 => ?_) (fun k3 => ?_) (fun k4 ha => ?_) (fun k4 ha => ?_) (fun k6 => ?_) (fun k7 hz => ?_) (fun k7 hz => ?_) (fun k1 k2 k3 k4 k6 k7 => ?_)
    · rw [if_pos k1] at hp
      exact ⟨hpin, br_t k1 (nm_r (nI_1 p) (ih (p + 1) m true 1 d _ _ _ _ (by omega) (by omega) (by omega) T1 hp))⟩
    · have k1 : ¬ K p = 1 := by rw [k2]; decide
      rw [if_neg k1, if_pos k2] at hp
      exact ⟨hpin, br_f k1 ⟨hpin, br_t k2 (nm_r (nI_1 p) (ih (p + 1) m true 1 d _ _ _ _ (by omega) (by omega) (by omega) T1 hp))⟩⟩
    · have k1 : ¬ K p = 1 := by rw [k3]; decide
      have k2 : ¬ K p = 2 := by rw [k3]; decide
      have k7 : ¬ K p = 7 := by rw [k3]; decide
      rw [if_neg k1, if_neg k2, if_pos k3] at hp
      exact ⟨hpin, br_f k1 ⟨hpin, br_f k2 ⟨hpin, br_f k7 (nm_r (nI_1 p) (ih (p + 1) m false 0 d _ _ _ _ (by omega) (by omega) (by omega) T0 hp))⟩⟩⟩
    · have k1 : ¬ K p = 1 := by rw [k4]; decide
      have k2 : ¬ K p = 2 := by rw [k4]; decide
      have k3 : ¬ K p = 3 := by rw [k4]; decide
      have k7 : ¬ K p = 7 := by rw [k4]; decide
      rw [if_neg k1, if_neg k2, if_neg k3, if_pos k4, if_pos ha] at hp
      exact ⟨hpin, br_f k1 ⟨hpin, br_f k2 ⟨hpin, br_f k7 (nm_r (nI_1 p) (ih (p + 1) m false 0 d _ _ _ _ (by omega) (by omega) (by omega) T0 hp))⟩⟩⟩
    · have k1 : ¬ K p = 1 := by rw [k4]; decide
      have k2 : ¬ K p = 2 := by rw [k4]; decide
      have k3 : ¬ K p = 3 := by rw [k4]; decide
      have k7 : ¬ K p = 7 := by rw [k4]; decide
      rw [if_neg k1, if_neg k2, if_neg k3, if_pos k4, if_neg ha] at hp
      exact ⟨hpin, br_f k1 ⟨hpin, br_f k2 ⟨hpin, br_f k7 (nm_r (nI_1 p) (ih (p + 1) m false 0 d _ _ _ _ (by omega) (by omega) (by omega) T0 hp))⟩⟩⟩
    · have k1 : ¬ K p = 1 := by rw [k6]; decide
      have k2 : ¬ K p = 2 := by rw [k6]; decide
      have k3 : ¬ K p = 3 := by rw [k6]; decide
      have k4 : ¬ K p = 4 := by rw [k6]; decide
      have k7 : ¬ K p = 7 := by rw [k6]; decide
      rw [if_neg k1, if_neg k2, if_neg k3, if_neg k4, if_pos k6] at hp
      exact ⟨hpin, br_f k1 ⟨hpin, br_f k2 ⟨hpin, br_f k7 (nm_r (nI_1 p) (ih (p + 1) m false 0 (d + 1) _ _ _ _ (by omega) (by omega) (by omega) T0 hp))⟩⟩⟩
    · have k1 : ¬ K p = 1 := by rw [k7]; decide
      have k2 : ¬ K p = 2 := by rw [k7]; decide
      have k3 : ¬ K p = 3 := by rw [k7]; decide
      have k4 : ¬ K p = 4 := by rw [k7]; decide
      have k6 : ¬ K p = 6 := by rw [k7]; decide
      rw [if_neg k1, if_neg k2, if_neg k3, if_neg k4, if_neg k6, if_pos k7, if_pos hz] at hp
      exact ⟨hpin, br_f k1 ⟨hpin, br_f k2 ⟨hpin, br_t k7 (nm_r (nI_1 p) (ih (p + 1) m true 1 d _ _ _ _ (by omega) (by omega) (by omega) T1 hp))⟩⟩⟩
    · have k1 : ¬ K p = 1 := by rw [k7]; decide
      have k2 : ¬ K p = 2 := by rw [k7]; decide
      have k3 : ¬ K p = 3 := by rw [k7]; decide
      have k4 : ¬ K p = 4 := by rw [k7]; decide
      have k6 : ¬ K p = 6 := by rw [k7]; decide
      rw [if_neg k1, if_neg k2, if_neg k3, if_neg k4, if_neg k6, if_pos k7, if_neg hz] at hp
      exact ⟨hpin, br_f k1 ⟨hpin, br_f k2 ⟨hpin, br_t k7 (nm_r (nI_1 p) (ih (p + 1) m true 1 (d - 1) _ _ _ _ (by omega) (by omega) (by omega) T1 hp))⟩⟩⟩
    · rw [if_neg k1, if_neg k2, if_neg k3, if_neg k4, if_neg k6, if_neg k7] at hp
      exact ⟨hpin, br_f k1 ⟨hpin, br_f k2 ⟨hpin, br_f k7 (nm_r (nI_1 p) (ih (p + 1) m false 0 d _ _ _ _ (by omega) (by omega) (by omega) T0 hp))⟩⟩⟩
theorem nx_evaluate {U T N : Nat} {on ok fl dp tt pr : Int32} {K V ln ue dc uu ow st w ch no ns nr es nu re oT oP : Nat → Int32} {post : Int32 → St2 → Prop} {n u s : Nat} (hU : U ≤ 8) (hN : N ≤ 16) (hT : T ≤ 32) (hln : ∀ u, ∃ l, l ≤ T ∧ ln u = nI l) (hTV : nh_TV N K V) (hn : n < N) (hX : nh_XF K V (nh_L ln) U N no es nu on) (hf : nh_fs K V (nh_L ln) U n u s)
    (hp : ∀ dp' tt' pr' oT' oP', post (nh_ev K V (nh_L ln) nr u s) (nI U, nI T, nI N, on, ok, fl, dp', tt', pr', K, V, ln, ue, dc, uu, ow, st, w, ch, no, ns, nr, es, nu, re, oT', oP')) : wpX_evaluate post (nI U, nI T, nI N, on, ok, fl, dp, tt, pr, K, V, ln, ue, dc, uu, ow, st, w, ch, no, ns, nr, es, nu, re, oT, oP) (nI n) := by
  have ⟨hl1, hl2⟩ := nh_Ln hT hln u
  have ⟨ho, he⟩ := (hX n hn).2.2.2 u s hf
  have hu := hf.1
  obtain ⟨hk, hs, hs0, _⟩ := hf.2.1
  have hs1 : s + 2 ≤ nh_L ln u := by
    have h1 := (nh_st0 hk hs hs0).2
    by_cases e : s + 1 = nh_L ln u
    · have h2 := hk.2
      rw [← e, h1] at h2
      exact absurd h2 (by decide)
    · omega
  have h16 : vp_in (nI n) 16 := vp_in_nI (by omega) (by decide)
  refine ⟨h16, ?_⟩
  rw [nI_clamp (n := n) (by omega), ho, he, nI_clamp (n := u) (by omega), hl1]
  refine nm_r (nh_e32 u) ⟨h16, vp_in_nI (by omega) (by decide), nm_r (nI_add _ _) ⟨h16, nm_r (nI_add _ _) ⟨nh_L ln u - (s + 2) + 1, ?_⟩⟩⟩
  refine nx_ev hN hTV (by omega) (nh_L ln u - (s + 2)) (u * 32 + (s + 2)) _ false 0 0 0 1 oT oP (by omega) (by omega) (by omega) ⟨fun _ => by decide, fun _ => rfl⟩ (fun dp' tt' pr' oT' oP' => ?_)
  rw [nh_pec (w' := nr) _ _ _ _ _ _ oT oP nh_z0 nh_z0 (fun _ _ _ _ _ => rfl) (fun j hj => absurd hj (Nat.not_lt_zero j))]
  exact hp dp' tt' pr' oT' oP'
theorem nx_uses {U T N : Nat} {on ok fl dp tt pr : Int32} {K V ln ue dc uu ow st w ch no ns nr es nu re oT oP : Nat → Int32} {post : St2 → Prop} {r i : Nat} (hU : U ≤ 8) (hN : N ≤ 16) (hT : T ≤ 32) (hln : ∀ u, ∃ l, l ≤ T ∧ ln u = nI l) (hTV : nh_TV N K V) (hi : i < N) (hX : nh_XF K V (nh_L ln) U N no es nu on)
    (hR : nh_XR (nh_ow K V (nh_L ln) U) (nh_uq K V (nh_L ln) U) (nh_vl K V (nh_L ln) U) N r i ns nr fl ok) (hs : ns i = -1)
    (hp : ∀ ns' nr' fl' ok' dp' tt' pr' oT' oP', nh_XR (nh_ow K V (nh_L ln) U) (nh_uq K V (nh_L ln) U) (nh_vl K V (nh_L ln) U) N r (i + 1) ns' nr' fl' ok' → post (nI U, nI T, nI N, on, ok', fl', dp', tt', pr', K, V, ln, ue, dc, uu, ow, st, w, ch, no, ns', nr', es, nu, re, oT', oP')) : wpX_decideFromUses post (nI U, nI T, nI N, on, ok, fl, dp, tt, pr, K, V, ln, ue, dc, uu, ow, st, w, ch, no, ns, nr, es, nu, re, oT, oP) (nI i) := by
  have hci : (nI i).toNatClampNeg = i := nI_clamp (by omega)
  have h16 : vp_in (nI i) 16 := vp_in_nI (by omega) (by decide)
  refine ⟨h16, ?_⟩
  rw [hci]
  refine br_c (fun h => ⟨h16, br_c (fun h2 => ⟨h16, nm_e ?_⟩) (fun h2 => ?_)⟩) (fun h => ?_)
  · obtain ⟨u, s, hf⟩ := (nh_XRp hR hi hs).1.1
    refine nx_evaluate hU hN hT hln hTV hi hX hf (fun dp' tt' pr' oT' oP' => ⟨h16, nm_e (nm_e (hp _ _ _ _ dp' tt' pr' oT' oP' (nh_XRo (fun n w w' x h1 h2 => nh_vlc hTV hN h1 h2) hR hN hi hs (fun m hm hq => ?_) ⟨u, s, hf, rfl⟩)))⟩)
    exact nh_anz.mp h2 m (by omega) (((hX i hi).2.1 m (by omega)).mpr hq)
  · refine hp _ _ _ _ _ _ _ _ _ (nh_XRs hR hi hs (fun m hm hq hb => nh_az.mp h m (by omega) (((hX i hi).2.1 m (by omega)).mpr hq) hb) ?_)
    rcases Classical.em (∃ m, m < N ∧ nh_uq K V (nh_L ln) U i m ∧ ¬ bt ok m = true) with h3 | h3
    · exact h3
    · refine absurd (nh_anz.mpr (fun m hm hb => ?_)) h2
      have hq := ((hX i hi).2.1 m hm).mp hb
      rcases Classical.em (bt ok m = true) with h4 | h4
      · exact h4
      · exact absurd ⟨m, nh_uqN hTV hN hm hq, hq, h4⟩ h3
  · refine nx_fail (by omega) (hp _ _ _ _ _ _ _ _ _ (nh_XRb hR hN hi hs ?_))
    rcases Classical.em (∃ m, m < N ∧ nh_uq K V (nh_L ln) U i m ∧ bt fl m = true) with h3 | h3
    · exact h3
    · refine absurd (nh_az.mpr (fun m hm hb hb2 => ?_)) h
      have hq := ((hX i hi).2.1 m hm).mp hb
      exact h3 ⟨m, nh_uqN hTV hN hm hq, hq, hb2⟩
theorem nx_r12 {U T N : Nat} {on : Int32} {K V ln ue dc uu ow st w ch no es nu re : Nat → Int32} {post : St2 → Prop} {J : Int32 → Int32 → Int32 → Int32 → Int32 → Int32 → Int32 → Int32 → Int32 → Int32 → (Nat → Int32) → (Nat → Int32) → (Nat → Int32) → (Nat → Int32) → (Nat → Int32) → (Nat → Int32) → (Nat → Int32) → (Nat → Int32) → (Nat → Int32) → (Nat → Int32) → (Nat → Int32) → (Nat → Int32) → (Nat → Int32) → (Nat → Int32) → (Nat → Int32) → (Nat → Int32) → (Nat → Int32) → (Nat → Int32) → Prop} {r : Nat} (hU : U ≤ 8) (hN : N ≤ 16) (hT : T ≤ 32) (hln : ∀ u, ∃ l, l ≤ T ∧ ln u = nI l) (hTV : nh_TV N K V) (hX : nh_XF K V (nh_L ln) U N no es nu on)
    (hJ : ∀ ns nr fl ok dp tt pr oT oP, nh_XR (nh_ow K V (nh_L ln) U) (nh_uq K V (nh_L ln) U) (nh_vl K V (nh_L ln) U) N (r + 1) 0 ns nr fl ok → J (nI (r + 1)) (nI U) (nI T) (nI N) on ok fl dp tt pr K V ln ue dc uu ow st w ch no ns nr es nu re oT oP) :
    ∀ (d i n : Nat) (ns nr : Nat → Int32) (fl ok dp tt pr : Int32) (oT oP : Nat → Int32), i + d = N → d < n → nh_XR (nh_ow K V (nh_L ln) U) (nh_uq K V (nh_L ln) U) (nh_vl K V (nh_L ln) U) N r i ns nr fl ok → wX_decideTheRest_12 post J (nI r) n (nI i) (nI U) (nI T) (nI N) on ok fl dp tt pr K V ln ue dc uu ow st w ch no ns nr es nu re oT oP := by
  intro d
  induction d with
  | zero =>
    intro i n ns nr fl ok dp tt pr oT oP hid hn hR
    obtain ⟨m, rfl⟩ : ∃ m, n = m + 1 := ⟨n - 1, by omega⟩
    have e : i = N := by omega
    subst e
    exact br_t (nI_le (Nat.le_refl _) (by omega)) (nm_r (nI_1 r) (hJ ns nr fl ok dp tt pr oT oP (nh_XRe hR)))
  | succ d ih =>
    intro i n ns nr fl ok dp tt pr oT oP hid hn hR
    obtain ⟨m, rfl⟩ : ∃ m, n = m + 1 := ⟨n - 1, by omega⟩
    have hi : i < N := by omega
    refine br_f (nI_ge hi (by omega)) ⟨vp_in_nI (by omega) (by decide), ?_⟩
    rw [nI_clamp (n := i) (by omega)]
    by_cases hs : ns i = -1
    · exact br_t hs (nx_uses hU hN hT hln hTV hi hX hR hs (fun ns' nr' fl' ok' dp' tt' pr' oT' oP' h => nm_r (nI_1 i) (ih (i + 1) m _ _ _ _ _ _ _ _ _ (by omega) (by omega) h)))
    · exact br_f hs (nm_r (nI_1 i) (ih (i + 1) m _ _ _ _ _ _ _ _ _ (by omega) (by omega) (nh_XRk hR hs)))
theorem nx_r2 {U T N : Nat} {on : Int32} {K V ln ue dc uu ow st w ch no es nu re : Nat → Int32} {post : St2 → Prop} (hU : U ≤ 8) (hN : N ≤ 16) (hT : T ≤ 32) (hln : ∀ u, ∃ l, l ≤ T ∧ ln u = nI l) (hTV : nh_TV N K V) (hX : nh_XF K V (nh_L ln) U N no es nu on)
    (hp : ∀ ns nr fl ok dp tt pr oT oP, nh_sol (nh_ow K V (nh_L ln) U) (nh_uq K V (nh_L ln) U) (nh_vl K V (nh_L ln) U) N ns nr → post (nI U, nI T, nI N, on, ok, fl, dp, tt, pr, K, V, ln, ue, dc, uu, ow, st, w, ch, no, ns, nr, es, nu, re, oT, oP)) :
    ∀ (d r n : Nat) (ns nr : Nat → Int32) (fl ok dp tt pr : Int32) (oT oP : Nat → Int32), r + d = N → d < n → nh_XR (nh_ow K V (nh_L ln) U) (nh_uq K V (nh_L ln) U) (nh_vl K V (nh_L ln) U) N r 0 ns nr fl ok → wX_decideTheRest_2 post n (nI r) (nI U) (nI T) (nI N) on ok fl dp tt pr K V ln ue dc uu ow st w ch no ns nr es nu re oT oP := by
  intro d
  induction d with
  | zero =>
    intro r n ns nr fl ok dp tt pr oT oP hid hn hR
    obtain ⟨m, rfl⟩ : ∃ m, n = m + 1 := ⟨n - 1, by omega⟩
    have e : r = N := by omega
    subst e
    exact br_t (nI_le (Nat.le_refl _) (by omega)) (hp ns nr fl ok dp tt pr oT oP (nh_XRf hR))
  | succ d ih =>
    intro r n ns nr fl ok dp tt pr oT oP hid hn hR
    obtain ⟨m, rfl⟩ : ∃ m, n = m + 1 := ⟨n - 1, by omega⟩
    exact br_f (nI_ge (by omega) (by omega)) ⟨N + 1, nx_r12 hU hN hT hln hTV hX (fun ns' nr' fl' ok' dp' tt' pr' oT' oP' h => ih (r + 1) m _ _ _ _ _ _ _ _ _ (by omega) (by omega) h) N 0 (N + 1) ns nr fl ok dp tt pr oT oP (by omega) (by omega) hR⟩
theorem nx_p67 {U T N : Nat} {on ok fl dp tt pr : Int32} {K V ln ue dc uu ow st w ch no ns nr es nu re oT oP : Nat → Int32} {post : Int32 → St2 → Prop} {J : Int32 → Int32 → (Nat → Int32) → (Nat → Int32) → (Nat → Int32) → (Nat → Int32) → (Nat → Int32) → (Nat → Int32) → (Nat → Int32) → (Nat → Int32) → (Nat → Int32) → (Nat → Int32) → (Nat → Int32) → (Nat → Int32) → (Nat → Int32) → (Nat → Int32) → (Nat → Int32) → (Nat → Int32) → (Nat → Int32) → (Nat → Int32) → Prop} {i : Nat} {c : Nat → Int32} {z : Int32} (hi : i < 16) (hz : z = 0 ∨ z = 1) (hc : c i = z)
    (hJ : J (nI (nh_cc c (i + 1))) (nI (i + 1)) K V ln ue dc uu (nh_mx (i + 1) no ow) (nh_mx (i + 1) ns st) (nh_mx (i + 1) nr w) (nh_mx (i + 1) c ch) no ns nr es nu re oT oP) :
    wX_publishNames_67 post J (nI (nh_cc c i)) (nI i) z (nI i) (nI U) (nI T) (nI N) on ok fl dp tt pr K V ln ue dc uu (nh_mx i no ow) (nh_mx i ns st) (nh_mx i nr w) (nh_mx i c ch) no ns nr es nu re oT oP := by
  have h16 : vp_in (nI i) 16 := vp_in_nI hi (by decide)
  have hci : (nI i).toNatClampNeg = i := nI_clamp (by omega)
  have h80 : ∀ y, J y (nI (i + 1)) K V ln ue dc uu (nh_mx (i + 1) no ow) (nh_mx (i + 1) ns st) (nh_mx (i + 1) nr w) (nh_mx (i + 1) c ch) no ns nr es nu re oT oP →
      wX_publishNames_80 post J y (nI i) (nI U) (nI T) (nI N) on ok fl dp tt pr K V ln ue dc uu (nh_mx i no ow) (nh_mx i ns st) (nh_mx i nr w) (nh_mx (i + 1) c ch) no ns nr es nu re oT oP := by
    intro y hy
    refine ⟨h16, h16, ?_⟩
    rw [hci]
    exact nm_r (nh_mxs i no ow) ⟨h16, h16, nm_r (nh_mxs i ns st) ⟨h16, h16, nm_r (nh_mxs i nr w) (nm_r (nI_1 i) hy)⟩⟩
  have hv : vp_nar .boolean z = c i := by
    rw [hc]
    rcases hz with e | e
    · rw [e]; exact nh_vb0
    · rw [e]; exact nh_vb1
  refine ⟨h16, ?_⟩
  rw [hci, hv]
  refine nm_r (nh_mxs i c ch) ⟨h16, ?_⟩
  rw [nh_mxl (Nat.lt_succ_self i), hc]
  rcases hz with e | e
  · have e2 : nh_cc c (i + 1) = nh_cc c i := by rw [nh_cc, if_pos (hc.trans e)]
    rw [e2] at hJ
    exact br_t e (h80 _ hJ)
  · have e2 : nh_cc c (i + 1) = nh_cc c i + 1 := by rw [nh_cc, if_neg (by rw [hc, e]; decide)]
    rw [e2] at hJ
    exact br_f (by rw [e]; decide) (nm_r (nI_1 _) (h80 _ hJ))
theorem nx_pub {U T N : Nat} {on ok fl dp tt pr : Int32} {K V ln ue dc uu ow st w ch no ns nr es nu re oT oP : Nat → Int32} {post : Int32 → St2 → Prop} (hN : N ≤ 16) (hp : post (nI (nh_cc (nh_ch ow st w no ns nr) N)) (nI U, nI T, nI N, on, ok, fl, dp, tt, pr, K, V, ln, ue, dc, uu, nh_mx N no ow, nh_mx N ns st, nh_mx N nr w, nh_mx N (nh_ch ow st w no ns nr) ch, no, ns, nr, es, nu, re, oT, oP)) : wpX_publishNames post (nI U, nI T, nI N, on, ok, fl, dp, tt, pr, K, V, ln, ue, dc, uu, ow, st, w, ch, no, ns, nr, es, nu, re, oT, oP) := by
  have key : ∀ (d i n : Nat), i + d = N → d < n → wX_publishNames_4 post (nI U) (nI T) (nI N) on ok fl dp tt pr n (nI (nh_cc (nh_ch ow st w no ns nr) i)) (nI i) K V ln ue dc uu (nh_mx i no ow) (nh_mx i ns st) (nh_mx i nr w) (nh_mx i (nh_ch ow st w no ns nr) ch) no ns nr es nu re oT oP := by
    intro d
    induction d with
    | zero =>
      intro i n hid hn
      obtain ⟨m, rfl⟩ : ∃ m, n = m + 1 := ⟨n - 1, by omega⟩
      have e : i = N := by omega
      subst e
      exact br_t (nI_le (Nat.le_refl _) (by omega)) hp
    | succ d ih =>
      intro i n hid hn
      obtain ⟨m, rfl⟩ : ∃ m, n = m + 1 := ⟨n - 1, by omega⟩
      have hi : i < 16 := by omega
      have h16 : vp_in (nI i) 16 := vp_in_nI hi (by decide)
      have hJ := ih (i + 1) m (by omega) (by omega)
      refine br_f (nI_ge (by omega) (by omega)) ⟨h16, h16, ?_⟩
      rw [nI_clamp (n := i) (by omega), nh_mxg (Nat.le_refl i), nh_mxg (Nat.le_refl i), nh_mxg (Nat.le_refl i)]
      by_cases e1 : ow i = no i
      · refine br_t e1 ⟨h16, h16, ?_⟩
        by_cases e2 : st i = ns i
        · refine br_t e2 ⟨h16, h16, ?_⟩
          by_cases e3 : w i = nr i
          · exact br_t e3 (nx_p67 hi (Or.inl rfl) (if_pos ⟨e1, e2, e3⟩) hJ)
          · exact br_f e3 (nx_p67 hi (Or.inr rfl) (if_neg (fun h => e3 h.2.2)) hJ)
        · exact br_f e2 (nx_p67 hi (Or.inr rfl) (if_neg (fun h => e2 h.2.1)) hJ)
      · exact br_f e1 (nx_p67 hi (Or.inr rfl) (if_neg (fun h => e1 h.1)) hJ)
  have h0 := key N 0 (N + 1) (by omega) (by omega)
  rw [nh_mx0, nh_mx0, nh_mx0, nh_mx0] at h0
  exact ⟨N + 1, h0⟩
