/-! 18: the law -/
theorem nh_x14 (t : Nat) : (4 : Int32) + 5 * nI t = nI (4 + 5 * t) := by
  rw [show (5 : Int32) = nI 5 from by decide, pk_mul, show (4 : Int32) = nI 4 from by decide, nI_add]
/-- the results of two builds over the same tokens -/
theorem nh_res {U N : Nat} {K V ln K' V' ln' uu uu' no no' ns ns' nr nr' ue ue' dc dc' ow ow' st st' w w' : Nat → Int32} (hN : N ≤ 16) (hTV : nh_TV N K V) (h : nh_ag U K V K' V' (nh_L ln) (nh_L ln'))
    (hb : ∀ u, u < U → nh_ubits K V ln u (uu u)) (hO : nh_OS K V (nh_L ln) U N no) (hs : nh_sol (nh_ow K V (nh_L ln) U) (nh_uq K V (nh_L ln) U) (nh_vl K V (nh_L ln) U) N ns nr)
    (hb' : ∀ u, u < U → nh_ubits K' V' ln' u (uu' u)) (hO' : nh_OS K' V' (nh_L ln') U N no') (hs' : nh_sol (nh_ow K' V' (nh_L ln') U) (nh_uq K' V' (nh_L ln') U) (nh_vl K' V' (nh_L ln') U) N ns' nr') :
    nh_AR U N (nh_mx U (nh_E K ln) ue) (nh_mx U (nh_C K ln) dc) uu (nh_mx N no ow) (nh_mx N ns st) (nh_mx N nr w) (nh_mx U (nh_E K' ln') ue') (nh_mx U (nh_C K' ln') dc') uu' (nh_mx N no' ow') (nh_mx N ns' st') (nh_mx N nr' w') := by
  have ho := nh_agow h
  rw [← ho, ← nh_aguq h, ← nh_agvl h] at hs'
  have hu := nh_sol1 (O := nh_ow K V (nh_L ln) U) (Q := nh_uq K V (nh_L ln) U) (E := nh_vl K V (nh_L ln) U) (fun n w w' x a b => nh_vlc hTV hN a b) (fun n w x y a b => nh_vl1 a b) hs hs'
  refine ⟨fun u hu => ?_, fun u hu => ?_, fun u m hu hm => ?_, fun n hn => ?_, fun n hn => ?_, fun n hn => ?_⟩
  · rw [nh_mxl hu, nh_mxl hu]; exact nh_agE h hu
  · rw [nh_mxl hu, nh_mxl hu]; exact nh_agC h hu
  · have h1 := hb u hu m (by omega)
    have h2 := hb' u hu m (by omega)
    have hi : (nh_E K ln u = -1 ∧ nh_uu K V (u * 32) (nh_L ln u) m) ↔ (nh_E K' ln' u = -1 ∧ nh_uu K' V' (u * 32) (nh_L ln' u) m) := by
      rw [nh_agE h hu]
      exact ⟨fun a => ⟨a.1, nh_aguu h hu a.2⟩, fun a => ⟨a.1, nh_aguu (nh_ags h) hu a.2⟩⟩
    rw [hi, ← h2] at h1
    cases e : bt (uu' u) m
    · exact nh_bt0 (fun h3 => by rw [h1.mp h3] at e; exact absurd e (by decide))
    · exact h1.mpr e
  · rw [nh_mxl hn, nh_mxl hn]
    rcases Classical.em (nh_ow K V (nh_L ln) U n) with h1 | h1
    · obtain ⟨u, s, hf⟩ := h1
      rw [(hO n hn).2 u s hf, (hO' n hn).2 u s (nh_agfs h hf)]
    · rw [(hO n hn).1 h1, (hO' n hn).1 (by rw [← ho]; exact h1)]
  · rw [nh_mxl hn, nh_mxl hn]; exact (hu n hn).1
  · rw [nh_mxl hn, nh_mxl hn]; exact (hu n hn).2
theorem nh_CPag {U T N : Nat} {K V ln K' V' ln' : Nat → Int32} (hU : U ≤ 8) (h : nh_CP U T N K V ln K' V' ln' 8 0) : nh_ag U K V K' V' (nh_L ln) (nh_L ln') := by
  intro u hu
  have ⟨a, b⟩ := (h.2 u hu).1 (by omega)
  exact ⟨by unfold nh_L; rw [a], b⟩
/-- the second round: edits of A alone, then the results compared once more -/
theorem nl_147b {U T N : Nat} {on ok fl dp tt pr : Int32} {ue dc uu ow st w ch no ns nr es nu re oT oP : Nat → Int32} {on' ok' fl' dp' tt' pr' : Int32} {K' V' ln' ue' dc' uu' ow' st' w' ch' no' ns' nr' es' nu' re' oT' oP' : Nat → Int32} {post : Int32 → Prop} {L : Nat} {xs : Nat → Int32} {J110 : ((Int32 × Int32 × Int32 × Int32 × Int32 × Int32 × Int32 × Int32 × Nat × Nat × Int32 × Int32 × Int32 × Int32 × Int32 × Int32 × Int32 × Int32 × Int32 × (Nat → Int32) × (Nat → Int32) × (Nat → Int32) × (Nat → Int32) × (Nat → Int32) × (Nat → Int32) × (Nat → Int32) × (Nat → Int32) × (Nat → Int32) × (Nat → Int32) × (Nat → Int32) × (Nat → Int32) × (Nat → Int32) × (Nat → Int32) × (Nat → Int32) × (Nat → Int32) × (Nat → Int32) × (Nat → Int32)) ⊕ (Int32 × Int32 × Int32 × Int32 × Int32 × Int32 × Int32 × Int32 × Nat × Nat × Int32 × Int32 × Int32 × Int32 × Int32 × Int32 × Int32 × Int32 × Int32 × (Nat → Int32) × (Nat → Int32) × (Nat → Int32) × (Nat → Int32) × (Nat → Int32) × (Nat → Int32) × (Nat → Int32) × (Nat → Int32) × (Nat → Int32) × (Nat → Int32) × (Nat → Int32) × (Nat → Int32) × (Nat → Int32) × (Nat → Int32) × (Nat → Int32) × (Nat → Int32) × (Nat → Int32) × (Nat → Int32) × Int32 × Int32 × Int32 × Int32 × Int32 × Int32 × Int32 × Int32 × Int32 × (Nat → Int32) × (Nat → Int32) × (Nat → Int32) × (Nat → Int32) × (Nat → Int32) × (Nat → Int32) × (Nat → Int32) × (Nat → Int32) × (Nat → Int32) × (Nat → Int32) × (Nat → Int32) × (Nat → Int32) × (Nat → Int32) × (Nat → Int32) × (Nat → Int32) × (Nat → Int32) × (Nat → Int32) × (Nat → Int32))) → Prop} {x1 x2 x3 x9 : Int32} {kc ks M : Nat} (hL : L ≤ 260) (hU : U ≤ 8) (hT : T ≤ 32) (hN4 : 4 ≤ N) (hN : N ≤ 16) (hM : M ≤ 60) (hR : nh_AR U N ue dc uu ow st w ue' dc' uu' ow' st' w')
    (hJ : ∀ K V ln, J110 (.inr (x1, x2, x3, nI U, nI N, nI M, x9, 2, kc, ks, nI U, nI T, nI N, on, ok, fl, dp, tt, pr, K, V, ln, ue, dc, uu, ow, st, w, ch, no, ns, nr, es, nu, re, oT, oP, nI U, nI T, nI N, on', ok', fl', dp', tt', pr', K', V', ln', ue', dc', uu', ow', st', w', ch', no', ns', nr', es', nu', re', oT', oP'))) :
    ∀ (d t n : Nat) (K V ln : Nat → Int32), t + d = M → d < n → nh_PV U T N K V ln → wL_law_147 post L xs J110 n (.inr (x1, x2, x3, nI U, nI N, nI M, x9, 1, nI M, nI t, kc, ks, nI U, nI T, nI N, on, ok, fl, dp, tt, pr, K, V, ln, ue, dc, uu, ow, st, w, ch, no, ns, nr, es, nu, re, oT, oP, nI U, nI T, nI N, on', ok', fl', dp', tt', pr', K', V', ln', ue', dc', uu', ow', st', w', ch', no', ns', nr', es', nu', re', oT', oP')) := by
  intro d
  induction d with
  | zero =>
    intro t n K V ln ht hn h
    obtain ⟨m, rfl⟩ : ∃ m, n = m + 1 := ⟨n - 1, by omega⟩
    refine br_t (nI_le (by omega) (by omega)) (br_f (by decide) ⟨20, ?_⟩)
    exact nl_834 hU hT hN hR (fun h0 => absurd h0 (by decide)) (by decide) (hJ K V ln) 19 0 20 (-1) (by decide) (by omega) (by omega)
  | succ d ih =>
    intro t n K V ln ht hn h
    obtain ⟨m, rfl⟩ : ∃ m, n = m + 1 := ⟨n - 1, by omega⟩
    refine br_f (nI_ge (by omega) (by omega)) (nm_r (nh_x14 t) ?_)
    have step : ∀ x15 x16 x17 x18 x19 : Int32, ¬ x15 = 6 → wL_law_231_2 post L xs J110 (wL_law_147 post L xs J110 m) x1 x2 x3 (nI U) (nI N) (nI M) x9 1 (nI M) (nI t) x15 x16 x17 x18 x19 kc ks (nI U) (nI T) (nI N) on ok fl dp tt pr K V ln ue dc uu ow st w ch no ns nr es nu re oT oP (nI U) (nI T) (nI N) on' ok' fl' dp' tt' pr' K' V' ln' ue' dc' uu' ow' st' w' ch' no' ns' nr' es' nu' re' oT' oP' :=
      fun x15 x16 x17 x18 x19 h6 => nl_231b hU hT hN4 hN h h6 (fun K2 V2 ln2 h2 => ih (t + 1) m K2 V2 ln2 (by omega) (by omega) h2)
    refine nl_cell hL (by omega) (fun _ => nl_mod (by decide) (fun r15 => ?_))
    rw [show nI (4 + 5 * t) + 1 = nI (4 + 5 * t + 1) from nI_add _ 1, show nI (4 + 5 * t) + 2 = nI (4 + 5 * t + 2) from nI_add _ 2, show nI (4 + 5 * t) + 3 = nI (4 + 5 * t + 3) from nI_add _ 3, show nI (4 + 5 * t) + 4 = nI (4 + 5 * t + 4) from nI_add _ 4]
    refine nl_cell hL (by omega) (fun r16 => nl_cell hL (by omega) (fun r17 => nl_cell hL (by omega) (fun r18 => nl_cell hL (by omega) (fun r19 => br_t rfl (br_c (fun _ => step 4 r16 r17 r18 r19 (by decide)) (fun h6 => step r15 r16 r17 r18 r19 h6))))))
/-- the first round: edits and builds of A; then A is built, copied into F, F is built, all is compared -/
theorem nl_147a {U T N : Nat} {post : Int32 → Prop} {L : Nat} {xs : Nat → Int32} {J110 : ((Int32 × Int32 × Int32 × Int32 × Int32 × Int32 × Int32 × Int32 × Nat × Nat × Int32 × Int32 × Int32 × Int32 × Int32 × Int32 × Int32 × Int32 × Int32 × (Nat → Int32) × (Nat → Int32) × (Nat → Int32) × (Nat → Int32) × (Nat → Int32) × (Nat → Int32) × (Nat → Int32) × (Nat → Int32) × (Nat → Int32) × (Nat → Int32) × (Nat → Int32) × (Nat → Int32) × (Nat → Int32) × (Nat → Int32) × (Nat → Int32) × (Nat → Int32) × (Nat → Int32) × (Nat → Int32)) ⊕ (Int32 × Int32 × Int32 × Int32 × Int32 × Int32 × Int32 × Int32 × Nat × Nat × Int32 × Int32 × Int32 × Int32 × Int32 × Int32 × Int32 × Int32 × Int32 × (Nat → Int32) × (Nat → Int32) × (Nat → Int32) × (Nat → Int32) × (Nat → Int32) × (Nat → Int32) × (Nat → Int32) × (Nat → Int32) × (Nat → Int32) × (Nat → Int32) × (Nat → Int32) × (Nat → Int32) × (Nat → Int32) × (Nat → Int32) × (Nat → Int32) × (Nat → Int32) × (Nat → Int32) × (Nat → Int32) × Int32 × Int32 × Int32 × Int32 × Int32 × Int32 × Int32 × Int32 × Int32 × (Nat → Int32) × (Nat → Int32) × (Nat → Int32) × (Nat → Int32) × (Nat → Int32) × (Nat → Int32) × (Nat → Int32) × (Nat → Int32) × (Nat → Int32) × (Nat → Int32) × (Nat → Int32) × (Nat → Int32) × (Nat → Int32) × (Nat → Int32) × (Nat → Int32) × (Nat → Int32) × (Nat → Int32) × (Nat → Int32))) → Prop} {x1 x2 x3 x8 : Int32} {kc ks P : Nat} (hL : L ≤ 260) (hU : U ≤ 8) (hT : T ≤ 32) (hN4 : 4 ≤ N) (hN : N ≤ 16) (hP : P ≤ 60) (hkc : kc ≤ 100) (hks : ks ≤ 2000)
    (xU : ∀ post : Int32 → Prop, post (nI U) → wpX_clamp post () x1 2 8) (xT : ∀ post : Int32 → Prop, post (nI T) → wpX_clamp post () x2 8 32) (xN : ∀ post : Int32 → Prop, post (nI N) → wpX_clamp post () x3 4 16)
    (hJ : ∀ on ok fl dp tt pr K V ln ue dc uu ow st w ch no ns nr es nu re oT oP on' ok' fl' dp' tt' pr' K' V' ln' ue' dc' uu' ow' st' w' ch' no' ns' nr' es' nu' re' oT' oP', nh_PV U T N K V ln → nh_AR U N ue dc uu ow st w ue' dc' uu' ow' st' w' → J110 (.inr (x1, x2, x3, nI U, nI N, x8, nI P, 1, kc + 1 + 18, ks + 27 + 768, nI U, nI T, nI N, on, ok, fl, dp, tt, pr, K, V, ln, ue, dc, uu, ow, st, w, ch, no, ns, nr, es, nu, re, oT, oP, nI U, nI T, nI N, on', ok', fl', dp', tt', pr', K', V', ln', ue', dc', uu', ow', st', w', ch', no', ns', nr', es', nu', re', oT', oP'))) :
    ∀ (d t n : Nat) (on ok fl dp tt pr : Int32) (K V ln ue dc uu ow st w ch no ns nr es nu re oT oP : Nat → Int32), t + d = P → d < n → nh_PV U T N K V ln → wL_law_147 post L xs J110 n (.inl (x1, x2, x3, nI U, nI N, x8, nI P, 0, nI P, nI t, kc, ks, nI U, nI T, nI N, on, ok, fl, dp, tt, pr, K, V, ln, ue, dc, uu, ow, st, w, ch, no, ns, nr, es, nu, re, oT, oP)) := by
  intro d
  induction d with
  | zero =>
    intro t n on ok fl dp tt pr K V ln ue dc uu ow st w ch no ns nr es nu re oT oP ht hn h
    obtain ⟨m, rfl⟩ : ∃ m, n = m + 1 := ⟨n - 1, by omega⟩
    refine br_t (nI_le (by omega) (by omega)) (br_t rfl (nx_build hU hN hT h.1 h.2.1 (fun on1 ok1 fl1 dp1 tt1 pr1 uu1 no1 ns1 nr1 es1 nu1 re1 oT1 oP1 hb hO hs => ⟨by omega, by omega, 18, 768, by omega, by omega, ?_⟩)))
    refine nl_init xU xT xN (fun on2 ok2 fl2 dp2 tt2 pr2 ue2 dc2 uu2 ow2 st2 w2 ch2 no2 ns2 nr2 es2 nu2 re2 oT2 oP2 => ⟨9, ?_⟩)
    refine nl_757 hU hT hN h (fun K2 V2 ln2 hc n1 => ?_) 8 0 9 nh_z0 nh_z0 nh_z0 (by omega) (by omega) ⟨nh_PV0, fun u1 hu1 => ⟨fun h1 => absurd h1 (Nat.not_lt_zero u1), fun _ => ⟨rfl, fun i hi => absurd hi (Nat.not_lt_zero i)⟩, fun _ => rfl⟩⟩
    refine br_t (nI_le (a := 8) (Nat.le_refl 8) (by decide)) (nx_build hU hN hT hc.1.1 hc.1.2.1 (fun on3 ok3 fl3 dp3 tt3 pr3 uu3 no3 ns3 nr3 es3 nu3 re3 oT3 oP3 hb3 hO3 hs3 => ⟨20, ?_⟩))
    have hag := nh_CPag hU hc
    have hAR := nh_res (ue := ue) (ue' := ue2) (dc := dc) (dc' := dc2) (ow := ow) (ow' := ow2) (st := st) (st' := st2) (w := w) (w' := w2) hN h.2.1 hag hb hO hs hb3 hO3 hs3
    refine nl_834 hU hT hN hAR (fun _ => ⟨h.1, fun u hu => ((hc.2 u hu).1 (by omega)).1.symm, fun u i hu hi => ((hag u hu).2 i hi).1, fun u i hu hi => ((hag u hu).2 i hi).2⟩) (by decide) (hJ _ _ _ _ _ _ _ _ _ _ _ _ _ _ _ _ _ _ _ _ _ _ _ _ _ _ _ _ _ _ _ _ _ _ _ _ _ _ _ _ _ _ _ _ _ _ _ _ h hAR) 19 0 20 (-1) (by decide) (by omega) (by omega)
  | succ d ih =>
    intro t n on ok fl dp tt pr K V ln ue dc uu ow st w ch no ns nr es nu re oT oP ht hn h
    obtain ⟨m, rfl⟩ : ∃ m, n = m + 1 := ⟨n - 1, by omega⟩
    refine br_f (nI_ge (by omega) (by omega)) (nm_r (nh_x14 t) ?_)
    have step : ∀ x15 x16 x17 x18 x19 : Int32, wL_law_231 post L xs J110 (wL_law_147 post L xs J110 m) x1 x2 x3 (nI U) (nI N) x8 (nI P) 0 (nI P) (nI t) x15 x16 x17 x18 x19 kc ks (nI U) (nI T) (nI N) on ok fl dp tt pr K V ln ue dc uu ow st w ch no ns nr es nu re oT oP :=
      fun x15 x16 x17 x18 x19 => nl_231 hU hT hN4 hN h (fun on2 ok2 fl2 dp2 tt2 pr2 K2 V2 ln2 ue2 dc2 uu2 ow2 st2 w2 ch2 no2 ns2 nr2 es2 nu2 re2 oT2 oP2 h2 => ih (t + 1) m on2 ok2 fl2 dp2 tt2 pr2 K2 V2 ln2 ue2 dc2 uu2 ow2 st2 w2 ch2 no2 ns2 nr2 es2 nu2 re2 oT2 oP2 (by omega) (by omega) h2)
    refine nl_cell hL (by omega) (fun _ => nl_mod (by decide) (fun r15 => ?_))
    rw [show nI (4 + 5 * t) + 1 = nI (4 + 5 * t + 1) from nI_add _ 1, show nI (4 + 5 * t) + 2 = nI (4 + 5 * t + 2) from nI_add _ 2, show nI (4 + 5 * t) + 3 = nI (4 + 5 * t + 3) from nI_add _ 3, show nI (4 + 5 * t) + 4 = nI (4 + 5 * t + 4) from nI_add _ 4]
    refine nl_cell hL (by omega) (fun r16 => nl_cell hL (by omega) (fun r17 => nl_cell hL (by omega) (fun r18 => nl_cell hL (by omega) (fun r19 => br_f (by decide) (step r15 r16 r17 r18 r19)))))
