/-! 15: the reference builds -/
def nh_hi (N : Nat) (f g : Nat → Int32) : Prop := ∀ n, N ≤ n → f n = g n
theorem nh_hiu {N i : Nat} {f g : Nat → Int32} {v : Int32} (h : nh_hi N f g) (hi : i < N) : nh_hi N (upd f i v) g := fun n hn => by
  rw [pk_un (by omega)]; exact h n hn
theorem nh_mxq {N : Nat} {f f' g : Nat → Int32} (h : ∀ n, n < N → f' n = f n) (h2 : nh_hi N f' g) : f' = nh_mx N f g := by
  funext n
  by_cases e : n < N
  · rw [nh_mxl e, h n e]
  · rw [nh_mxg (by omega), h2 n (by omega)]
theorem ny_p591 {U T N : Nat} {K V ln ue dc us ow st w ch ds po ps pv rc rd fS fP fN : Nat → Int32} {post : Int32 → SY → Prop} {J : Int32 → Int32 → (Nat → Int32) → (Nat → Int32) → (Nat → Int32) → (Nat → Int32) → (Nat → Int32) → (Nat → Int32) → (Nat → Int32) → (Nat → Int32) → (Nat → Int32) → (Nat → Int32) → (Nat → Int32) → (Nat → Int32) → (Nat → Int32) → (Nat → Int32) → (Nat → Int32) → (Nat → Int32) → (Nat → Int32) → (Nat → Int32) → (Nat → Int32) → Prop} {i : Nat} {c : Nat → Int32} {z : Int32} (hi : i < 16) (hz : z = 0 ∨ z = 1) (hc : c i = z)
    (hJ : J (nI (nh_cc c (i + 1))) (nI (i + 1)) K V ln ue dc us ow st w (nh_mx (i + 1) c ch) ds po ps pv rc rd fS fP fN) : wY_build_591 post J (nI (nh_cc c i)) (nI i) z (nI i) (nI U) (nI T) (nI N) K V ln ue dc us ow st w (nh_mx i c ch) ds po ps pv rc rd fS fP fN := by
  have h16 : vp_in (nI i) 16 := vp_in_nI hi (by decide)
  have hci : (nI i).toNatClampNeg = i := nI_clamp (by omega)
  have hv : vp_nar .boolean z = c i := by
    rw [hc]
    rcases hz with e | e
    · rw [e]; exact nh_vb0
    · rw [e]; exact nh_vb1
  refine ⟨h16, ?_⟩
  rw [hci, hv]
  refine nm_r (nh_mxs i c ch) ⟨h16, ?_⟩
  rw [nh_mxl (Nat.lt_succ_self i), hc]
  rcases hz with e | e
  · have e2 : nh_cc c (i + 1) = nh_cc c i := by rw [nh_cc, if_pos (hc.trans e)]
    rw [e2] at hJ
    exact br_t e (nm_r (nI_1 i) hJ)
  · have e2 : nh_cc c (i + 1) = nh_cc c i + 1 := by rw [nh_cc, if_neg (by rw [hc, e]; decide)]
    rw [e2] at hJ
    exact br_f (by rw [e]; decide) (nm_r (nI_1 _) (nm_r (nI_1 i) hJ))
theorem ny_528 {U T N : Nat} {K V ln ue dc us ow st w ch ds po ps pv rc rd fS fP fN : Nat → Int32} {post : Int32 → SY → Prop} (hN : N ≤ 16) (hp : post (nI (nh_cc (nh_ch ow st w po ps pv) N)) (nI U, nI T, nI N, K, V, ln, ue, dc, us, ow, st, w, nh_mx N (nh_ch ow st w po ps pv) ch, ds, po, ps, pv, rc, rd, fS, fP, fN)) : ∃ n, wY_build_528 post (nI U) (nI T) (nI N) n 0 0 K V ln ue dc us ow st w ch ds po ps pv rc rd fS fP fN := by
  have key : ∀ (d i n : Nat), i + d = N → d < n → wY_build_528 post (nI U) (nI T) (nI N) n (nI (nh_cc (nh_ch ow st w po ps pv) i)) (nI i) K V ln ue dc us ow st w (nh_mx i (nh_ch ow st w po ps pv) ch) ds po ps pv rc rd fS fP fN := by
    intro d
    induction d with
    | zero =>
      intro i n hid hn
      obtain ⟨m, rfl⟩ : ∃ m, n = m + 1 := ⟨n - 1, by omega⟩
      have e : i = N := by omega
      subst e
      exact br_t (nI_le (Nat.le_refl _) (by omega)) hp
    | succ d ih =>
      intro i n hid hn
      obtain ⟨m, rfl⟩ : ∃ m, n = m + 1 := ⟨n - 1, by omega⟩
      have hi : i < 16 := by omega
      have h16 : vp_in (nI i) 16 := vp_in_nI hi (by decide)
      have hJ := ih (i + 1) m (by omega) (by omega)
      refine br_f (nI_ge (by omega) (by omega)) ⟨h16, h16, ?_⟩
      rw [nI_clamp (n := i) (by omega)]
      by_cases e1 : ow i = po i
      · refine br_t e1 ⟨h16, h16, ?_⟩
        by_cases e2 : st i = ps i
        · refine br_t e2 ⟨h16, h16, ?_⟩
          by_cases e3 : w i = pv i
          · exact br_t e3 (ny_p591 hi (Or.inl rfl) (if_pos ⟨e1, e2, e3⟩) hJ)
          · exact br_f e3 (ny_p591 hi (Or.inr rfl) (if_neg (fun h => e3 h.2.2)) hJ)
        · exact br_f e2 (ny_p591 hi (Or.inr rfl) (if_neg (fun h => e2 h.2.1)) hJ)
      · exact br_f e1 (ny_p591 hi (Or.inr rfl) (if_neg (fun h => e1 h.1)) hJ)
  have h0 := key N 0 (N + 1) (by omega) (by omega)
  rw [nh_mx0] at h0
  exact ⟨N + 1, h0⟩
theorem ny_427 {U T N : Nat} {K V ln ue dc us ow ch ds po ps pv rc : Nat → Int32} {post : Int32 → SY → Prop} {J : Int32 → Int32 → Int32 → Int32 → (Nat → Int32) → (Nat → Int32) → (Nat → Int32) → (Nat → Int32) → (Nat → Int32) → (Nat → Int32) → (Nat → Int32) → (Nat → Int32) → (Nat → Int32) → (Nat → Int32) → (Nat → Int32) → (Nat → Int32) → (Nat → Int32) → (Nat → Int32) → (Nat → Int32) → (Nat → Int32) → (Nat → Int32) → (Nat → Int32) → (Nat → Int32) → Prop} {r : Nat} {sX xX st0 w0 : Nat → Int32} (hU : U ≤ 8) (hN : N ≤ 16) (hT : T ≤ 32) (hln : ∀ u, ∃ l, l ≤ T ∧ ln u = nI l) (hTV : nh_TV N K V) (hY : nh_YF K V (nh_L ln) U N ow ds)
    (hsol : nh_sol (nh_ow K V (nh_L ln) U) (nh_uq K V (nh_L ln) U) (nh_vl K V (nh_L ln) U) N sX xX)
    (hJ : ∀ st w rd fS fP fN, nh_YS (nh_ow K V (nh_L ln) U) (nh_uq K V (nh_L ln) U) N (r + 1) 0 sX xX st w rd → nh_hi N st st0 → nh_hi N w w0 → J (nI (r + 1)) (nI U) (nI T) (nI N) K V ln ue dc us ow st w ch ds po ps pv rc rd fS fP fN) :
    ∀ (d i k : Nat) (st w rd fS fP fN : Nat → Int32), i + d = N → d < k → nh_YS (nh_ow K V (nh_L ln) U) (nh_uq K V (nh_L ln) U) N r i sX xX st w rd → nh_hi N st st0 → nh_hi N w w0 → wY_build_427 post J (nI r) k (nI i) (nI U) (nI T) (nI N) K V ln ue dc us ow st w ch ds po ps pv rc rd fS fP fN := by
  intro d
  induction d with
  | zero =>
    intro i k st w rd fS fP fN hid hk hS h1 h2
    obtain ⟨m, rfl⟩ : ∃ m, k = m + 1 := ⟨k - 1, by omega⟩
    have e : i = N := by omega
    subst e
    exact br_t (nI_le (Nat.le_refl _) (by omega)) (nm_r (nI_1 r) (hJ st w rd fS fP fN (nh_YSe hS) h1 h2))
  | succ d ih =>
    intro i k st w rd fS fP fN hid hk hS h1 h2
    obtain ⟨m, rfl⟩ : ∃ m, k = m + 1 := ⟨k - 1, by omega⟩
    have hi : i < N := by omega
    have h16 : vp_in (nI i) 16 := vp_in_nI (by omega) (by decide)
    refine br_f (nI_ge hi (by omega)) ⟨h16, ?_⟩
    rw [nI_clamp (n := i) (by omega)]
    by_cases hr : rd i = 0
    · refine br_t hr (ny_depState hU hN hT hln hY hi (fun hm => ?_) (fun hm => ?_) (fun hm => ?_))
      · exact br_f (by decide) (br_f (by decide) (nm_r (nI_1 i) (ih (i + 1) m st w rd fS fP fN (by omega) (by omega) (nh_YSs hS hm) h1 h2)))
      · have ⟨g1, g2⟩ := nh_YSb hsol hS hi hr hm
        have g3 := nh_YSd (c := 1) hS g1 g2 (by decide)
        rw [nh_uself] at g3
        rw [nh_vb1]
        exact br_f (by decide) (br_t rfl ⟨h16, nm_e ⟨h16, nm_e (nm_r (nI_1 i) (ih (i + 1) m _ w _ fS fP fN (by omega) (by omega) g3 (nh_hiu h1 hi) h2))⟩⟩)
      · obtain ⟨u, s, hf⟩ := ((hS i hi).2.1 hr).1.1
        have ⟨e1, e2⟩ := (hY i hi).2 u s hf
        rw [e1, e2, nh_vb1]
        refine br_t rfl ⟨h16, nm_e ⟨h16, h16, ny_eval hU hN hT hln hTV hf (fun fS' fP' fN' => ⟨h16, nm_e ⟨h16, nm_e (nm_r (nI_1 i) ?_)⟩⟩)⟩⟩
        have ⟨g1, g2⟩ := nh_YSo (O := nh_ow K V (nh_L ln) U) (Q := nh_uq K V (nh_L ln) U) (E := nh_vl K V (nh_L ln) U) (fun n w w' x a b => nh_vlc hTV hN a b) (fun n w x y a b => nh_vl1 a b) hsol hS hi hr hm ⟨u, s, hf, rfl⟩
        exact ih (i + 1) m _ _ _ fS' fP' fN' (by omega) (by omega) (nh_YSd hS g1 g2 (by decide)) (nh_hiu h1 hi) (nh_hiu h2 hi)
    · exact br_f hr (nm_r (nI_1 i) (ih (i + 1) m st w rd fS fP fN (by omega) (by omega) (nh_YSk hS hr) h1 h2))
theorem ny_417 {U T N : Nat} {K V ln ue dc us ow ch ds po ps pv rc : Nat → Int32} {post : Int32 → SY → Prop} {sX xX st0 w0 : Nat → Int32} (hU : U ≤ 8) (hN : N ≤ 16) (hT : T ≤ 32) (hln : ∀ u, ∃ l, l ≤ T ∧ ln u = nI l) (hTV : nh_TV N K V) (hY : nh_YF K V (nh_L ln) U N ow ds)
    (hsol : nh_sol (nh_ow K V (nh_L ln) U) (nh_uq K V (nh_L ln) U) (nh_vl K V (nh_L ln) U) N sX xX)
    (hp : ∀ st w rd fS fP fN, (∀ n, n < N → st n = sX n ∧ w n = xX n) → nh_hi N st st0 → nh_hi N w w0 → post (nI (nh_cc (nh_ch ow st w po ps pv) N)) (nI U, nI T, nI N, K, V, ln, ue, dc, us, ow, st, w, nh_mx N (nh_ch ow st w po ps pv) ch, ds, po, ps, pv, rc, rd, fS, fP, fN)) :
    ∀ (d r k : Nat) (st w rd fS fP fN : Nat → Int32), r + d = N + 1 → d < k → nh_YS (nh_ow K V (nh_L ln) U) (nh_uq K V (nh_L ln) U) N r 0 sX xX st w rd → nh_hi N st st0 → nh_hi N w w0 → wY_build_417 post k (nI r) (nI U) (nI T) (nI N) K V ln ue dc us ow st w ch ds po ps pv rc rd fS fP fN := by
  intro d
  induction d with
  | zero =>
    intro r k st w rd fS fP fN hid hk hS h1 h2
    obtain ⟨m, rfl⟩ : ∃ m, k = m + 1 := ⟨k - 1, by omega⟩
    have e : r = N + 1 := by omega
    subst e
    exact br_t (nI_lt (by omega) (by omega)) (ny_528 hN (hp st w rd fS fP fN (nh_YSf hS) h1 h2))
  | succ d ih =>
    intro r k st w rd fS fP fN hid hk hS h1 h2
    obtain ⟨m, rfl⟩ : ∃ m, k = m + 1 := ⟨k - 1, by omega⟩
    exact br_f (nI_nlt (by omega) (by omega)) ⟨N + 1, ny_427 hU hN hT hln hTV hY hsol (fun st' w' rd' fS' fP' fN' g1 g2 g3 => ih (r + 1) m st' w' rd' fS' fP' fN' (by omega) (by omega) g1 g2 g3) N 0 (N + 1) st w rd fS fP fN (by omega) (by omega) hS h1 h2⟩
theorem ny_312 {U T N : Nat} {K V ln ue dc us ow ch ds po ps pv rc fS fP fN : Nat → Int32} {post : Int32 → SY → Prop} {sX xX st0 w0 : Nat → Int32} (hU : U ≤ 8) (hN : N ≤ 16) (hT : T ≤ 32) (hln : ∀ u, ∃ l, l ≤ T ∧ ln u = nI l) (hTV : nh_TV N K V) (hY : nh_YF K V (nh_L ln) U N ow ds)
    (hsol : nh_sol (nh_ow K V (nh_L ln) U) (nh_uq K V (nh_L ln) U) (nh_vl K V (nh_L ln) U) N sX xX) (hR : nh_TR (nh_ow K V (nh_L ln) U) (nh_uq K V (nh_L ln) U) N N rc)
    (hp : ∀ st w rd fS fP fN, (∀ n, n < N → st n = sX n ∧ w n = xX n) → nh_hi N st st0 → nh_hi N w w0 → post (nI (nh_cc (nh_ch ow st w po ps pv) N)) (nI U, nI T, nI N, K, V, ln, ue, dc, us, ow, st, w, nh_mx N (nh_ch ow st w po ps pv) ch, ds, po, ps, pv, rc, rd, fS, fP, fN)) :
    ∀ (d i k : Nat) (st w rd : Nat → Int32), i + d = N → d < k → nh_YG (nh_ow K V (nh_L ln) U) (nh_uq K V (nh_L ln) U) N i st w rd → nh_hi N st st0 → nh_hi N w w0 → wY_build_312 post (nI U) (nI T) (nI N) k (nI i) K V ln ue dc us ow st w ch ds po ps pv rc rd fS fP fN := by
  intro d
  induction d with
  | zero =>
    intro i k st w rd hid hk hG h1 h2
    obtain ⟨m, rfl⟩ : ∃ m, k = m + 1 := ⟨k - 1, by omega⟩
    have e : i = N := by omega
    subst e
    exact br_t (nI_le (Nat.le_refl _) (by omega)) ⟨i + 2, ny_417 hU hN hT hln hTV hY hsol hp (i + 1) 0 (i + 2) st w rd fS fP fN (by omega) (by omega) (nh_YS0 hsol hG) h1 h2⟩
  | succ d ih =>
    intro i k st w rd hid hk hG h1 h2
    obtain ⟨m, rfl⟩ : ∃ m, k = m + 1 := ⟨k - 1, by omega⟩
    have hi : i < N := by omega
    have h16 : vp_in (nI i) 16 := vp_in_nI (by omega) (by decide)
    refine br_f (nI_ge hi (by omega)) ⟨h16, ?_⟩
    rw [nI_clamp (n := i) (by omega), nh_vb1, nh_c16, nI_clamp (n := i * 16 + i) (by omega)]
    refine nm_e ⟨h16, nm_e ⟨h16, ?_⟩⟩
    rw [(nh_YFo hY hU hi).1, hR i i hi hi]
    refine br_c (fun ho => ⟨vp_in_nI (by omega) (by decide), br_c (fun hr => ?_) (fun hr => ?_)⟩) (fun ho => ?_)
    · refine ny_noOwner hU hN hT hln hY hi (fun hm => ?_) (fun hm => ?_)
      · refine br_f (by decide) ⟨h16, nm_e (nm_r (nI_1 i) (ih (i + 1) m _ _ _ (by omega) (by omega) (nh_YGs hG (Or.inl ⟨fun hpd => ?_, Or.inr (Or.inr (Or.inl ⟨ho, hr, hm, rfl⟩)), by decide⟩)) (nh_hiu h1 hi) (nh_hiu h2 hi)))⟩
        obtain ⟨q, hq, hq1, hq2⟩ := hm
        exact hq2 (hpd.2.2 q hq hq1)
      · rw [nh_vb0]
        refine br_t rfl ⟨h16, nm_e ⟨h16, ?_⟩⟩
        rw [nh_ub]
        exact nm_e (nm_r (nI_1 i) (ih (i + 1) m _ _ _ (by omega) (by omega) (nh_YGs hG (Or.inr ⟨⟨ho, hr, hm⟩, rfl⟩)) (nh_hiu h1 hi) (nh_hiu h2 hi)))
    · have hr1 := Classical.not_not.mp hr
      exact ⟨h16, nm_e (nm_r (nI_1 i) (ih (i + 1) m _ _ _ (by omega) (by omega) (nh_YGs hG (Or.inl ⟨fun hpd => hpd.2.1 hr1, Or.inr (Or.inl ⟨ho, hr1, rfl⟩), by decide⟩)) (nh_hiu h1 hi) (nh_hiu h2 hi)))⟩
    · exact ⟨h16, nm_e (nm_r (nI_1 i) (ih (i + 1) m _ _ _ (by omega) (by omega) (nh_YGs hG (Or.inl ⟨fun hpd => ho hpd.1, Or.inl ⟨ho, rfl⟩, by decide⟩)) (nh_hiu h1 hi) (nh_hiu h2 hi)))⟩
theorem ny_291 {U T N : Nat} {K V ln ue dc us ow st w ch ds po ps pv rd fS fP fN : Nat → Int32} {post : Int32 → SY → Prop} {sX xX st0 w0 : Nat → Int32} (hU : U ≤ 8) (hN : N ≤ 16) (hT : T ≤ 32) (hln : ∀ u, ∃ l, l ≤ T ∧ ln u = nI l) (hTV : nh_TV N K V) (hY : nh_YF K V (nh_L ln) U N ow ds)
    (hsol : nh_sol (nh_ow K V (nh_L ln) U) (nh_uq K V (nh_L ln) U) (nh_vl K V (nh_L ln) U) N sX xX) (h1 : nh_hi N st st0) (h2 : nh_hi N w w0)
    (hp : ∀ rc st w rd fS fP fN, (∀ n, n < N → st n = sX n ∧ w n = xX n) → nh_hi N st st0 → nh_hi N w w0 → post (nI (nh_cc (nh_ch ow st w po ps pv) N)) (nI U, nI T, nI N, K, V, ln, ue, dc, us, ow, st, w, nh_mx N (nh_ch ow st w po ps pv) ch, ds, po, ps, pv, rc, rd, fS, fP, fN)) :
    ∀ (d i k : Nat) (rc : Nat → Int32), i + d = N → d < k → nh_TR (nh_ow K V (nh_L ln) U) (nh_uq K V (nh_L ln) U) N i rc → wY_build_291 post k (nI i) (nI U) (nI T) (nI N) K V ln ue dc us ow st w ch ds po ps pv rc rd fS fP fN := by
  intro d
  induction d with
  | zero =>
    intro i k rc hid hk hR
    obtain ⟨m, rfl⟩ : ∃ m, k = m + 1 := ⟨k - 1, by omega⟩
    have e : i = N := by omega
    subst e
    exact br_t (nI_le (Nat.le_refl _) (by omega)) ⟨i + 1, ny_312 hU hN hT hln hTV hY hsol hR (hp rc) i 0 (i + 1) st w rd (by omega) (by omega) (fun n _ hn => absurd hn (Nat.not_lt_zero n)) h1 h2⟩
  | succ d ih =>
    intro i k rc hid hk hR
    obtain ⟨m, rfl⟩ : ∃ m, k = m + 1 := ⟨k - 1, by omega⟩
    exact br_f (nI_ge (by omega) (by omega)) (ny_closeVia hN (by omega) hR (fun rc' h => nm_r (nI_1 i) (ih (i + 1) m rc' (by omega) (by omega) h)))
