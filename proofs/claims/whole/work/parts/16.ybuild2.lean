/-! 16: the reference builds: its units, owners and edges -/
def nh_T0 (O : Nat → Prop) (Q : Nat → Nat → Prop) (N i j : Nat) (rc : Nat → Int32) : Prop := ∀ a c, a < N → c < N → nh_bf i j a c → (rc (a * 16 + c) = 0 ↔ ¬ nh_rl O Q 0 a c)
theorem nh_T0s {O : Nat → Prop} {Q : Nat → Nat → Prop} {N i j : Nat} {rc : Nat → Int32} {x : Int32} (h : nh_T0 O Q N i j rc) (hN : N ≤ 16) (hj : j < N) (hx : x = 0 ↔ ¬ nh_rl O Q 0 i j) : nh_T0 O Q N i (j + 1) (upd rc (i * 16 + j) x) := by
  intro a c ha hc hb
  rcases nh_bfs hb with hb | ⟨e1, e2⟩
  · rw [pk_un]
    · exact h a c ha hc hb
    · unfold nh_bf at hb
      omega
  · subst e1 e2
    rw [pk_us]
    exact hx
theorem nh_T0e {O : Nat → Prop} {Q : Nat → Nat → Prop} {N i : Nat} {rc : Nat → Int32} (h : nh_T0 O Q N i N rc) : nh_T0 O Q N (i + 1) 0 rc := fun a c ha hc hb => h a c ha hc (by
  unfold nh_bf at *
  omega)
theorem nh_T0f {O : Nat → Prop} {Q : Nat → Nat → Prop} {N : Nat} {rc : Nat → Int32} (h : nh_T0 O Q N N 0 rc) : nh_TR O Q N 0 rc := fun a c ha hc => h a c ha hc (Or.inl ha)
theorem ny_226 {U T N : Nat} {K V ln ue dc us ow st w ch ds po ps pv rc rd fS fP fN : Nat → Int32} {post : Int32 → SY → Prop} {J : Int32 → (Nat → Int32) → (Nat → Int32) → (Nat → Int32) → (Nat → Int32) → (Nat → Int32) → (Nat → Int32) → (Nat → Int32) → (Nat → Int32) → (Nat → Int32) → (Nat → Int32) → (Nat → Int32) → (Nat → Int32) → (Nat → Int32) → (Nat → Int32) → (Nat → Int32) → (Nat → Int32) → (Nat → Int32) → (Nat → Int32) → (Nat → Int32) → Prop} {a : Nat} (hU : U ≤ 8) (hN : N ≤ 16) (hT : T ≤ 32) (hln : ∀ u, ∃ l, l ≤ T ∧ ln u = nI l) (hY : nh_YF K V (nh_L ln) U N ow ds) (ha : a < N)
    (h0 : nh_T0 (nh_ow K V (nh_L ln) U) (nh_uq K V (nh_L ln) U) N a 0 rc) (hJ : ∀ rc', nh_T0 (nh_ow K V (nh_L ln) U) (nh_uq K V (nh_L ln) U) N (a + 1) 0 rc' → J (nI (a + 1)) K V ln ue dc us ow st w ch ds po ps pv rc' rd fS fP fN) :
    ∃ n, wY_build_226 post J (nI a) (nI U) (nI T) (nI N) n 0 K V ln ue dc us ow st w ch ds po ps pv rc rd fS fP fN := by
  refine loop_0 (σ := Nat → Int32) (fun n i s => wY_build_226 post J (nI a) (nI U) (nI T) (nI N) n (nI i) K V ln ue dc us ow st w ch ds po ps pv s rd fS fP fN) (fun i s => nh_T0 (nh_ow K V (nh_L ln) U) (nh_uq K V (nh_L ln) U) N a i s) N rc h0 (fun n s h => ?_) (fun n i s hi h hs => ?_)
  · exact br_t (nI_le (Nat.le_refl N) (by omega)) (nm_r (nI_1 a) (hJ s (nh_T0e h)))
  · have ha16 : vp_in (nI a) 16 := vp_in_nI (by omega) (by decide)
    have hi16 : vp_in (nI i) 16 := vp_in_nI (by omega) (by decide)
    have hin : vp_in (nI (a * 16 + i)) 256 := vp_in_nI (by omega) (by decide)
    refine br_f (nI_ge hi (by omega)) ?_
    rw [nh_c16, nI_clamp (n := a * 16 + i) (by omega), nI_clamp (n := a) (by omega), nI_clamp (n := i) (by omega), nh_vb0, nh_vb1, (nh_YFo hY hU ha).2, (nh_YFo hY hU hi).2]
    refine ⟨ha16, br_c (fun ho => ?_) (fun ho => ⟨hi16, br_c (fun ho2 => ?_) (fun ho2 => ny_usesDef hU hN hT hln hY ha (fun hq => br_f (by decide) ?_) (fun hq => br_t rfl ?_))⟩)⟩
    · exact ⟨hin, nm_e (nm_r (nI_1 i) (hs _ (nh_T0s h hN hi ⟨fun _ hr => ho hr.2.1, fun _ => rfl⟩)))⟩
    · exact ⟨hin, nm_e (nm_r (nI_1 i) (hs _ (nh_T0s h hN hi ⟨fun _ hr => ho2 hr.2.2, fun _ => rfl⟩)))⟩
    · exact ⟨hin, nm_e (nm_r (nI_1 i) (hs _ (nh_T0s h hN hi ⟨fun h => absurd h (by decide), fun h => absurd ⟨hq, Classical.not_not.mp ho, Classical.not_not.mp ho2⟩ h⟩)))⟩
    · exact ⟨hin, nm_e (nm_r (nI_1 i) (hs _ (nh_T0s h hN hi ⟨fun _ hr => hq hr.1, fun _ => rfl⟩)))⟩
theorem ny_216 {U T N : Nat} {K V ln ue dc us ow st w ch ds po ps pv rc rd fS fP fN : Nat → Int32} {post : Int32 → SY → Prop} {sX xX st0 w0 : Nat → Int32} (hU : U ≤ 8) (hN : N ≤ 16) (hT : T ≤ 32) (hln : ∀ u, ∃ l, l ≤ T ∧ ln u = nI l) (hTV : nh_TV N K V) (hY : nh_YF K V (nh_L ln) U N ow ds)
    (hsol : nh_sol (nh_ow K V (nh_L ln) U) (nh_uq K V (nh_L ln) U) (nh_vl K V (nh_L ln) U) N sX xX) (h1 : nh_hi N st st0) (h2 : nh_hi N w w0)
    (hp : ∀ rc st w rd fS fP fN, (∀ n, n < N → st n = sX n ∧ w n = xX n) → nh_hi N st st0 → nh_hi N w w0 → post (nI (nh_cc (nh_ch ow st w po ps pv) N)) (nI U, nI T, nI N, K, V, ln, ue, dc, us, ow, st, w, nh_mx N (nh_ch ow st w po ps pv) ch, ds, po, ps, pv, rc, rd, fS, fP, fN)) :
    ∃ n, wY_build_216 post (nI U) (nI T) (nI N) n 0 K V ln ue dc us ow st w ch ds po ps pv rc rd fS fP fN := by
  refine loop_0 (σ := Nat → Int32) (fun n i s => wY_build_216 post (nI U) (nI T) (nI N) n (nI i) K V ln ue dc us ow st w ch ds po ps pv s rd fS fP fN) (fun i s => nh_T0 (nh_ow K V (nh_L ln) U) (nh_uq K V (nh_L ln) U) N i 0 s) N rc (fun a c _ _ hb => by unfold nh_bf at hb; omega) (fun n s h => ?_) (fun n i s hi h hs => ?_)
  · exact br_t (nI_le (Nat.le_refl N) (by omega)) ⟨N + 1, ny_291 hU hN hT hln hTV hY hsol h1 h2 hp N 0 (N + 1) s (by omega) (by omega) (nh_T0f h)⟩
  · exact br_f (nI_ge hi (by omega)) (ny_226 hU hN hT hln hY hi h (fun rc' h' => hs rc' h'))
/-- what the reference knows of the owner of n, units below u having been looked at -/
def nh_OU (K V : Nat → Int32) (Ln : Nat → Nat) (U n u : Nat) (o e : Int32) : Prop :=
  (o = -1 ∧ ∀ u' i', u' < u → ¬ nh_df K V Ln u' i' n) ∨ (∃ u' i', u' < u ∧ nh_fs K V Ln U n u' i' ∧ o = nI u' ∧ e = nI i')
theorem nh_OUf {K V : Nat → Int32} {Ln : Nat → Nat} {U n : Nat} {o e : Int32} (h : nh_OU K V Ln U n U o e) : (¬ nh_ow K V Ln U n → o = -1) ∧ ∀ u s, nh_fs K V Ln U n u s → o = nI u ∧ e = nI s := by
  rcases h with ⟨h1, h2⟩ | ⟨u', i', h1, h2, h3, h4⟩
  · exact ⟨fun _ => h1, fun u s hf => absurd hf.2.1 (h2 u s hf.1)⟩
  · refine ⟨fun h => absurd ⟨u', i', h2⟩ h, fun u s hf => ?_⟩
    obtain ⟨e1, e2⟩ := nh_fs1 h2 hf
    rw [e1, e2]
    exact ⟨h3, h4⟩
theorem ny_150 {U T N : Nat} {K V ln ue dc us st w ch po ps pv rc rd fS fP fN : Nat → Int32} {post : Int32 → SY → Prop} {J : Int32 → (Nat → Int32) → (Nat → Int32) → (Nat → Int32) → (Nat → Int32) → (Nat → Int32) → (Nat → Int32) → (Nat → Int32) → (Nat → Int32) → (Nat → Int32) → (Nat → Int32) → (Nat → Int32) → (Nat → Int32) → (Nat → Int32) → (Nat → Int32) → (Nat → Int32) → (Nat → Int32) → (Nat → Int32) → (Nat → Int32) → (Nat → Int32) → Prop} {n : Nat} {ow1 ds1 : Nat → Int32} (hU : U ≤ 8) (hN : N ≤ 16) (hT : T ≤ 32) (hln : ∀ u, ∃ l, l ≤ T ∧ ln u = nI l) (hue : ∀ u, u < U → ue u = nh_E K ln u) (hn : n < N)
    (hJ : ∀ o e, nh_OU K V (nh_L ln) U n U o e → J (nI (n + 1)) K V ln ue dc us (upd ow1 n o) st w ch (upd ds1 n e) po ps pv rc rd fS fP fN) :
    ∀ (d u k : Nat) (o e : Int32), u + d = U → d < k → nh_OU K V (nh_L ln) U n u o e → wY_build_150 post J (nI n) (nI U) (nI T) (nI N) k (nI u) K V ln ue dc us (upd ow1 n o) st w ch (upd ds1 n e) po ps pv rc rd fS fP fN := by
  have h16 : vp_in (nI n) 16 := vp_in_nI (by omega) (by decide)
  have hcn : (nI n).toNatClampNeg = n := nI_clamp (by omega)
  intro d
  induction d with
  | zero =>
    intro u k o e hud hk hO
    obtain ⟨m, rfl⟩ : ∃ m, k = m + 1 := ⟨k - 1, by omega⟩
    have e1 : u = U := by omega
    subst e1
    exact br_t (nI_le (Nat.le_refl _) (by omega)) (nm_r (nI_1 n) (hJ o e hO))
  | succ d ih =>
    intro u k o e hud hk hO
    obtain ⟨m, rfl⟩ : ∃ m, k = m + 1 := ⟨k - 1, by omega⟩
    have h8 : vp_in (nI u) 8 := vp_in_nI (by omega) (by decide)
    refine br_f (nI_ge (by omega) (by omega)) ⟨h16, ?_⟩
    rw [hcn, pk_us, nI_clamp (n := u) (by omega), hue u (by omega)]
    rcases hO with ⟨h1, h2⟩ | ⟨u', i', h1, h2, h3, h4⟩
    · refine br_f (by rw [h1]; decide) ⟨h8, ?_⟩
      by_cases hE : nh_E K ln u = -1
      · refine br_t hE (ny_findDef (by omega) hT hln hE (fun i hd hmin => ?_) (fun hno => ?_))
        · have hi := hd.2.1
          have ⟨_, hl2⟩ := nh_Ln hT hln u
          refine br_f (nI_pos (by omega)) ⟨h16, ?_⟩
          rw [nh_ub]
          refine nm_e ⟨h16, ?_⟩
          rw [nh_ub]
          refine nm_e (nm_r (nI_1 u) (ih (u + 1) m _ _ (by omega) (by omega) (Or.inr ⟨u, i, by omega, ⟨by omega, hd, fun u' i' hd' hb => ?_⟩, rfl, rfl⟩)))
          rcases hb with hb | ⟨e1, e2⟩
          · exact h2 u' i' hb hd'
          · rw [e1] at hd'; exact hmin i' e2 hd'
        · refine br_t (by decide) (nm_r (nI_1 u) (ih (u + 1) m o e (by omega) (by omega) (Or.inl ⟨h1, fun u' i' hu' hd => ?_⟩)))
          by_cases e1 : u' = u
          · rw [e1] at hd; exact hno i' hd
          · exact h2 u' i' (by omega) hd
      · refine br_f hE (nm_r (nI_1 u) (ih (u + 1) m o e (by omega) (by omega) (Or.inl ⟨h1, fun u' i' hu' hd => ?_⟩)))
        by_cases e1 : u' = u
        · rw [e1] at hd; exact hE (nh_ok_er hd.1)
        · exact h2 u' i' (by omega) hd
    · refine br_t (by rw [h3]; exact nI_pos' (by omega)) (nm_r (nI_1 u) (ih (u + 1) m o e (by omega) (by omega) (Or.inr ⟨u', i', by omega, h2, h3, h4⟩)))
theorem ny_126 {U T N : Nat} {K V ln ue dc us st w ch po ps pv rc rd fS fP fN : Nat → Int32} {post : Int32 → SY → Prop} {sX xX no ow0 st0 w0 : Nat → Int32} (hU : U ≤ 8) (hN : N ≤ 16) (hT : T ≤ 32) (hln : ∀ u, ∃ l, l ≤ T ∧ ln u = nI l) (hTV : nh_TV N K V) (hue : ∀ u, u < U → ue u = nh_E K ln u)
    (hOS : nh_OS K V (nh_L ln) U N no) (hsol : nh_sol (nh_ow K V (nh_L ln) U) (nh_uq K V (nh_L ln) U) (nh_vl K V (nh_L ln) U) N sX xX) (h1 : nh_hi N st st0) (h2 : nh_hi N w w0)
    (hp : ∀ ow ds rc st w rd fS fP fN, (∀ n, n < N → ow n = no n) → nh_hi N ow ow0 → (∀ n, n < N → st n = sX n ∧ w n = xX n) → nh_hi N st st0 → nh_hi N w w0 → post (nI (nh_cc (nh_ch ow st w po ps pv) N)) (nI U, nI T, nI N, K, V, ln, ue, dc, us, ow, st, w, nh_mx N (nh_ch ow st w po ps pv) ch, ds, po, ps, pv, rc, rd, fS, fP, fN)) :
    ∀ (d i k : Nat) (ow ds : Nat → Int32), i + d = N → d < k → nh_YF K V (nh_L ln) U i ow ds → nh_hi N ow ow0 → wY_build_126 post (nI U) (nI T) (nI N) k (nI i) K V ln ue dc us ow st w ch ds po ps pv rc rd fS fP fN := by
  intro d
  induction d with
  | zero =>
    intro i k ow ds hid hk hY h3
    obtain ⟨m, rfl⟩ : ∃ m, k = m + 1 := ⟨k - 1, by omega⟩
    have e : i = N := by omega
    subst e
    refine br_t (nI_le (Nat.le_refl _) (by omega)) (ny_216 hU hN hT hln hTV hY hsol h1 h2 (hp ow ds · · · · · · · (fun n hn => ?_) h3))
    rcases Classical.em (nh_ow K V (nh_L ln) U n) with ho | ho
    · obtain ⟨u, s, hf⟩ := ho
      rw [((hY n hn).2 u s hf).1, (hOS n hn).2 u s hf]
    · rw [(hY n hn).1 ho, (hOS n hn).1 ho]
  | succ d ih =>
    intro i k ow ds hid hk hY h3
    obtain ⟨m, rfl⟩ : ∃ m, k = m + 1 := ⟨k - 1, by omega⟩
    have h16 : vp_in (nI i) 16 := vp_in_nI (by omega) (by decide)
    refine br_f (nI_ge (by omega) (by omega)) ⟨h16, ?_⟩
    rw [nI_clamp (n := i) (by omega)]
    refine nm_e ⟨h16, nm_e ⟨U + 1, ?_⟩⟩
    refine ny_150 hU hN hT hln hue (by omega) (fun o e hO => ih (i + 1) m _ _ (by omega) (by omega) (fun n hn => ?_) (nh_hiu h3 (by omega))) U 0 (U + 1) (-1) 0 (by omega) (by omega) (Or.inl ⟨rfl, fun u' _ hu' => absurd hu' (Nat.not_lt_zero u')⟩)
    by_cases e1 : n = i
    · subst e1
      rw [pk_us, pk_us]
      exact nh_OUf hO
    · rw [pk_un e1, pk_un e1]
      exact hY n (by omega)
theorem ny_84 {U T N : Nat} {K V ln ue ow st w ch ds po ps pv rc rd fS fP fN : Nat → Int32} {post : Int32 → SY → Prop} {J : Int32 → Int32 → Int32 → Int32 → (Nat → Int32) → (Nat → Int32) → (Nat → Int32) → (Nat → Int32) → (Nat → Int32) → (Nat → Int32) → (Nat → Int32) → (Nat → Int32) → (Nat → Int32) → (Nat → Int32) → (Nat → Int32) → (Nat → Int32) → (Nat → Int32) → (Nat → Int32) → (Nat → Int32) → (Nat → Int32) → (Nat → Int32) → (Nat → Int32) → (Nat → Int32) → Prop} {u : Nat} {dc1 : Nat → Int32} (hU : U ≤ 8) (hN : N ≤ 16) (hT : T ≤ 32) (hln : ∀ u, ∃ l, l ≤ T ∧ ln u = nI l) (hTV : nh_TV N K V) (hu : u < U) {us0 : Nat → Int32}
    (hJ : ∀ us', nh_urow us' u (fun m => nh_E K ln u = -1 ∧ nh_uu K V (u * 32) (nh_L ln u) m) → (∀ u' m, u' ≠ u → m < 16 → us' (u' * 16 + m) = us0 (u' * 16 + m)) → J (nI (u + 1)) (nI U) (nI T) (nI N) K V ln ue (upd dc1 u (nh_C K ln u)) us' ow st w ch ds po ps pv rc rd fS fP fN) :
    ∀ (d i k : Nat) (us : Nat → Int32), i + d = 16 → d < k → (∀ m, m < i → us (u * 16 + m) = 0) → (∀ u' m, u' ≠ u → m < 16 → us (u' * 16 + m) = us0 (u' * 16 + m)) →
      wY_build_84 post J (nI u) (nh_E K ln u) (nI U) (nI T) (nI N) k (nI i) K V ln ue (upd dc1 u 0) us ow st w ch ds po ps pv rc rd fS fP fN := by
  intro d
  induction d with
  | zero =>
    intro i k us hid hk h1 h2
    obtain ⟨m, rfl⟩ : ∃ m, k = m + 1 := ⟨k - 1, by omega⟩
    have e : i = 16 := by omega
    subst e
    refine br_t (nI_le (a := 16) (Nat.le_refl _) (by decide)) ?_
    by_cases hE : nh_E K ln u = -1
    · refine br_t hE (ny_scan (by omega) hN hT hln hTV hE h1 (fun us' g1 g2 => ?_))
      rw [nh_ub]
      exact nm_r (nI_1 u) (hJ us' g1 (fun u' m hne hm => (g2 u' m hne hm).trans (h2 u' m hne hm)))
    · have h3 := hJ us (fun m hm => Or.inr ⟨h1 m hm, fun h => hE h.1⟩) h2
      rw [nh_C, if_neg hE] at h3
      exact br_f hE (nm_r (nI_1 u) h3)
  | succ d ih =>
    intro i k us hid hk h1 h2
    obtain ⟨m, rfl⟩ : ∃ m, k = m + 1 := ⟨k - 1, by omega⟩
    refine br_f (nI_ge (b := 16) (by omega) (by decide)) ?_
    rw [nh_c16, nI_clamp (n := u * 16 + i) (by omega), nh_vb0]
    refine ⟨vp_in_nI (by omega) (by decide), nm_e (nm_r (nI_1 i) (ih (i + 1) m _ (by omega) (by omega) (fun q hq => ?_) (fun u' q hne hq => ?_)))⟩
    · by_cases e : q = i
      · rw [e, pk_us]
      · rw [pk_un (by omega)]; exact h1 q (by omega)
    · rw [pk_un]
      · exact h2 u' q hne hq
      · intro e
        exact hne (by omega)
theorem ny_54 {U T N : Nat} {K V ln ue dc st w ch po ps pv rc rd fS fP fN : Nat → Int32} {post : Int32 → SY → Prop} {sX xX no ow ds st0 w0 : Nat → Int32} (hU : U ≤ 8) (hN : N ≤ 16) (hT : T ≤ 32) (hln : ∀ u, ∃ l, l ≤ T ∧ ln u = nI l) (hTV : nh_TV N K V)
    (hOS : nh_OS K V (nh_L ln) U N no) (hsol : nh_sol (nh_ow K V (nh_L ln) U) (nh_uq K V (nh_L ln) U) (nh_vl K V (nh_L ln) U) N sX xX) (h1 : nh_hi N st st0) (h2 : nh_hi N w w0)
    (hp : ∀ us ow' ds rc st w rd fS fP fN, (∀ u, u < U → nh_urow us u (fun m => nh_E K ln u = -1 ∧ nh_uu K V (u * 32) (nh_L ln u) m)) → (∀ n, n < N → ow' n = no n) → nh_hi N ow' ow → (∀ n, n < N → st n = sX n ∧ w n = xX n) → nh_hi N st st0 → nh_hi N w w0 →
      post (nI (nh_cc (nh_ch ow' st w po ps pv) N)) (nI U, nI T, nI N, K, V, ln, nh_mx U (nh_E K ln) ue, nh_mx U (nh_C K ln) dc, us, ow', st, w, nh_mx N (nh_ch ow' st w po ps pv) ch, ds, po, ps, pv, rc, rd, fS, fP, fN)) :
    ∀ (d i k : Nat) (us : Nat → Int32), i + d = U → d < k → (∀ u, u < i → nh_urow us u (fun m => nh_E K ln u = -1 ∧ nh_uu K V (u * 32) (nh_L ln u) m)) → wY_build_54 post k (nI i) (nI U) (nI T) (nI N) K V ln (nh_mx i (nh_E K ln) ue) (nh_mx i (nh_C K ln) dc) us ow st w ch ds po ps pv rc rd fS fP fN := by
  intro d
  induction d with
  | zero =>
    intro i k us hid hk h3
    obtain ⟨m, rfl⟩ : ∃ m, k = m + 1 := ⟨k - 1, by omega⟩
    have e : i = U := by omega
    subst e
    refine br_t (nI_le (Nat.le_refl _) (by omega)) ⟨N + 1, ny_126 hU hN hT hln hTV (fun u hu => nh_mxl hu) hOS hsol h1 h2 (fun ow' ds' rc' st' w' rd' fS' fP' fN' => hp us ow' ds' rc' st' w' rd' fS' fP' fN' h3) N 0 (N + 1) ow ds (by omega) (by omega) (fun n hn => absurd hn (Nat.not_lt_zero n)) (fun n _ => rfl)⟩
  | succ d ih =>
    intro i k us hid hk h3
    obtain ⟨m, rfl⟩ : ∃ m, k = m + 1 := ⟨k - 1, by omega⟩
    have h8 : vp_in (nI i) 8 := vp_in_nI (by omega) (by decide)
    refine br_f (nI_ge (by omega) (by omega)) (ny_check (by omega) hT hln ⟨h8, ?_⟩)
    rw [nI_clamp (n := i) (by omega), nh_mxs]
    refine nm_e ⟨h8, nm_e ⟨17, ?_⟩⟩
    refine ny_84 hU hN hT hln hTV (by omega) (fun us' g1 g2 => ?_) 16 0 17 us (by omega) (by omega) (fun q hq => absurd hq (Nat.not_lt_zero q)) (fun _ _ _ _ => rfl)
    rw [nh_mxs]
    refine ih (i + 1) m us' (by omega) (by omega) (fun u hu => ?_)
    by_cases e : u = i
    · rw [e]; exact g1
    · intro q hq
      rw [g2 u q e hq]
      exact h3 u (by omega) q hq
theorem ny_build {U T N : Nat} {K V ln ue dc us ow st w ch ds po ps pv rc rd fS fP fN : Nat → Int32} {post : Int32 → SY → Prop} {ns nr no : Nat → Int32} (hU : U ≤ 8) (hN : N ≤ 16) (hT : T ≤ 32) (hln : ∀ u, ∃ l, l ≤ T ∧ ln u = nI l) (hTV : nh_TV N K V)
    (hOS : nh_OS K V (nh_L ln) U N no) (hsol : nh_sol (nh_ow K V (nh_L ln) U) (nh_uq K V (nh_L ln) U) (nh_vl K V (nh_L ln) U) N ns nr)
    (hp : ∀ us ds po ps pv rc rd fS fP fN, (∀ u, u < U → nh_urow us u (fun m => nh_E K ln u = -1 ∧ nh_uu K V (u * 32) (nh_L ln u) m)) →
      post (nI (nh_cc (nh_ch ow st w no ns nr) N)) (nI U, nI T, nI N, K, V, ln, nh_mx U (nh_E K ln) ue, nh_mx U (nh_C K ln) dc, us, nh_mx N no ow, nh_mx N ns st, nh_mx N nr w, nh_mx N (nh_ch ow st w no ns nr) ch, ds, po, ps, pv, rc, rd, fS, fP, fN)) : wpY_build post (nI U, nI T, nI N, K, V, ln, ue, dc, us, ow, st, w, ch, ds, po, ps, pv, rc, rd, fS, fP, fN) := by
  refine loop_0 (σ := (Nat → Int32) × (Nat → Int32) × (Nat → Int32)) (fun n i s => wY_build_2 post (nI U) (nI T) (nI N) n (nI i) K V ln ue dc us ow st w ch ds s.1 s.2.1 s.2.2 rc rd fS fP fN) (fun i s => ∀ n, n < i → s.1 n = ow n ∧ s.2.1 n = st n ∧ s.2.2 n = w n) N (po, ps, pv) (fun n hn => absurd hn (Nat.not_lt_zero n)) (fun n s h => ?_) (fun n i s hi h hs => ?_)
  · obtain ⟨po', ps', pv'⟩ := s
    refine br_t (nI_le (Nat.le_refl N) (by omega)) ⟨U + 1, ?_⟩
    have h1 := ny_54 (post := post) (ow := ow) (ds := ds) (po := po') (ps := ps') (pv := pv') (ue := ue) (dc := dc) (rc := rc) (rd := rd) (fS := fS) (fP := fP) (fN := fN) (ch := ch) (st := st) (w := w) hU hN hT hln hTV hOS hsol (fun n _ => rfl) (fun n _ => rfl) (fun us' ow' ds' rc' st' w' rd' fS' fP' fN' g1 g2 g3 g4 g5 g6 => ?_) U 0 (U + 1) us (by omega) (by omega) (fun u hu => absurd hu (Nat.not_lt_zero u))
    · rw [nh_mx0, nh_mx0] at h1
      exact h1
    · have e1 := nh_mxq g2 g3
      have e2 := nh_mxq (fun n hn => (g4 n hn).1) g5
      have e3 := nh_mxq (fun n hn => (g4 n hn).2) g6
      have ec : ∀ n, n < N → nh_ch ow' st' w' po' ps' pv' n = nh_ch ow st w no ns nr n := by
        intro n hn
        have ⟨a1, a2, a3⟩ := h n hn
        unfold nh_ch
        rw [g2 n hn, (g4 n hn).1, (g4 n hn).2]
        have b1 : po' n = ow n := a1
        have b2 : ps' n = st n := a2
        have b3 : pv' n = w n := a3
        rw [b1, b2, b3]
        by_cases hc : ow n = no n ∧ st n = ns n ∧ w n = nr n
        · rw [if_pos hc, if_pos ⟨hc.1.symm, hc.2.1.symm, hc.2.2.symm⟩]
        · rw [if_neg hc, if_neg (fun h => hc ⟨h.1.symm, h.2.1.symm, h.2.2.symm⟩)]
      rw [nh_cce N ec, nh_mxe ec, e1, e2, e3]
      exact hp us' ds' po' ps' pv' rc' rd' fS' fP' fN' g1
  · have h16 : vp_in (nI i) 16 := vp_in_nI (by omega) (by decide)
    refine br_f (nI_ge hi (by omega)) ⟨h16, h16, ?_⟩
    rw [nI_clamp (n := i) (by omega)]
    refine nm_e ⟨h16, h16, nm_e ⟨h16, h16, nm_e (nm_r (nI_1 i) (hs (upd s.1 i (ow i), upd s.2.1 i (st i), upd s.2.2 i (w i)) (fun n hn => ?_)))⟩⟩
    show upd s.1 i (ow i) n = ow n ∧ upd s.2.1 i (st i) n = st n ∧ upd s.2.2 i (w i) n = w n
    by_cases e : n = i
    · rw [e, pk_us, pk_us, pk_us]; exact ⟨rfl, rfl, rfl⟩
    · rw [pk_un e, pk_un e, pk_un e]; exact h n (by omega)
