/-! 16: the law's loops that compare and copy -/
def nh_AR (U N : Nat) (ue dc uu ow st w ue' dc' uu' ow' st' w' : Nat → Int32) : Prop :=
  (∀ u, u < U → ue u = ue' u) ∧ (∀ u, u < U → dc u = dc' u) ∧ (∀ u m, u < U → m < N → bt (uu u) m = bt (uu' u) m) ∧ (∀ n, n < N → ow n = ow' n) ∧ (∀ n, n < N → st n = st' n) ∧ (∀ n, n < N → w n = w' n)
def nh_AT (U T : Nat) (K V ln K' V' ln' : Nat → Int32) : Prop :=
  (∀ u, ∃ l, l ≤ T ∧ ln u = nI l) ∧ (∀ u, u < U → ln u = ln' u) ∧ (∀ u i, u < U → i < nh_L ln u → K (u * 32 + i) = K' (u * 32 + i)) ∧ (∀ u i, u < U → i < nh_L ln u → V (u * 32 + i) = V' (u * 32 + i))
theorem nh_y33 : ∀ t, t < 36 → ((33 : Int32) < nI t + (-1) ↔ t = 35) := by decide +kernel
theorem nh_y17 : ∀ t, t < 20 → ((17 : Int32) < nI t + (-1) ↔ t = 19) := by decide +kernel
theorem nh_ys (t : Nat) : nI t + (-1) + 1 = nI (t + 1) + (-1) := by rw [← nI_1]; grind
theorem nl_963 {U T N : Nat} {on ok fl dp tt pr : Int32} {K V ln ue dc uu ow st w ch no ns nr es nu re oT oP : Nat → Int32} {on' ok' fl' dp' tt' pr' : Int32} {K' V' ln' ue' dc' uu' ow' st' w' ch' no' ns' nr' es' nu' re' oT' oP' : Nat → Int32} {post : Int32 → Prop} {L : Nat} {xs : Nat → Int32} {J110 : ((Int32 × Int32 × Int32 × Int32 × Int32 × Int32 × Int32 × Int32 × Nat × Nat × Int32 × Int32 × Int32 × Int32 × Int32 × Int32 × Int32 × Int32 × Int32 × (Nat → Int32) × (Nat → Int32) × (Nat → Int32) × (Nat → Int32) × (Nat → Int32) × (Nat → Int32) × (Nat → Int32) × (Nat → Int32) × (Nat → Int32) × (Nat → Int32) × (Nat → Int32) × (Nat → Int32) × (Nat → Int32) × (Nat → Int32) × (Nat → Int32) × (Nat → Int32) × (Nat → Int32) × (Nat → Int32)) ⊕ (Int32 × Int32 × Int32 × Int32 × Int32 × Int32 × Int32 × Int32 × Nat × Nat × Int32 × Int32 × Int32 × Int32 × Int32 × Int32 × Int32 × Int32 × Int32 × (Nat → Int32) × (Nat → Int32) × (Nat → Int32) × (Nat → Int32) × (Nat → Int32) × (Nat → Int32) × (Nat → Int32) × (Nat → Int32) × (Nat → Int32) × (Nat → Int32) × (Nat → Int32) × (Nat → Int32) × (Nat → Int32) × (Nat → Int32) × (Nat → Int32) × (Nat → Int32) × (Nat → Int32) × (Nat → Int32) × Int32 × Int32 × Int32 × Int32 × Int32 × Int32 × Int32 × Int32 × Int32 × (Nat → Int32) × (Nat → Int32) × (Nat → Int32) × (Nat → Int32) × (Nat → Int32) × (Nat → Int32) × (Nat → Int32) × (Nat → Int32) × (Nat → Int32) × (Nat → Int32) × (Nat → Int32) × (Nat → Int32) × (Nat → Int32) × (Nat → Int32) × (Nat → Int32) × (Nat → Int32) × (Nat → Int32) × (Nat → Int32))) → Prop} {J834 : ((Int32 × Int32 × Int32 × Int32 × Int32 × Int32 × Int32 × Int32 × Int32 × Nat × Nat × Int32 × Int32 × Int32 × Int32 × Int32 × Int32 × Int32 × Int32 × Int32 × (Nat → Int32) × (Nat → Int32) × (Nat → Int32) × (Nat → Int32) × (Nat → Int32) × (Nat → Int32) × (Nat → Int32) × (Nat → Int32) × (Nat → Int32) × (Nat → Int32) × (Nat → Int32) × (Nat → Int32) × (Nat → Int32) × (Nat → Int32) × (Nat → Int32) × (Nat → Int32) × (Nat → Int32) × (Nat → Int32)) ⊕ (Int32 × Int32 × Int32 × Int32 × Int32 × Int32 × Int32 × Int32 × Int32 × Nat × Nat × Int32 × Int32 × Int32 × Int32 × Int32 × Int32 × Int32 × Int32 × Int32 × (Nat → Int32) × (Nat → Int32) × (Nat → Int32) × (Nat → Int32) × (Nat → Int32) × (Nat → Int32) × (Nat → Int32) × (Nat → Int32) × (Nat → Int32) × (Nat → Int32) × (Nat → Int32) × (Nat → Int32) × (Nat → Int32) × (Nat → Int32) × (Nat → Int32) × (Nat → Int32) × (Nat → Int32) × (Nat → Int32) × Int32 × Int32 × Int32 × Int32 × Int32 × Int32 × Int32 × Int32 × Int32 × (Nat → Int32) × (Nat → Int32) × (Nat → Int32) × (Nat → Int32) × (Nat → Int32) × (Nat → Int32) × (Nat → Int32) × (Nat → Int32) × (Nat → Int32) × (Nat → Int32) × (Nat → Int32) × (Nat → Int32) × (Nat → Int32) × (Nat → Int32) × (Nat → Int32) × (Nat → Int32) × (Nat → Int32) × (Nat → Int32))) → Prop} {x1 x2 x3 x4 x5 x8 x9 x10 x13 x13' : Int32} {kc ks : Nat} (hU : U ≤ 8) (hT : T ≤ 32) (hN : N ≤ 16) (hR : nh_AR U N ue dc uu ow st w ue' dc' uu' ow' st' w') (hA : x10 = 0 → nh_AT U T K V ln K' V' ln')
    (hx : x13 + 1 = x13') (hJ : J834 (.inr (x1, x2, x3, x4, x5, x8, x9, x10, x13', kc, ks, nI U, nI T, nI N, on, ok, fl, dp, tt, pr, K, V, ln, ue, dc, uu, ow, st, w, ch, no, ns, nr, es, nu, re, oT, oP, nI U, nI T, nI N, on', ok', fl', dp', tt', pr', K', V', ln', ue', dc', uu', ow', st', w', ch', no', ns', nr', es', nu', re', oT', oP'))) : ∀ (d t n : Nat), t + d = 35 → d < n → wL_law_963 post L xs J110 J834 x1 x2 x3 x4 x5 x8 x9 x10 x13 kc ks (nI U) (nI T) (nI N) on ok fl dp tt pr K V ln ue dc uu ow st w ch no ns nr es nu re oT oP (nI U) (nI T) (nI N) on' ok' fl' dp' tt' pr' K' V' ln' ue' dc' uu' ow' st' w' ch' no' ns' nr' es' nu' re' oT' oP' n (nI t + (-1)) := by
  intro d
  induction d with
  | zero =>
    intro t n ht hn
    obtain ⟨m, rfl⟩ : ∃ m, n = m + 1 := ⟨n - 1, by omega⟩
    exact br_t ((nh_y33 t (by omega)).mpr (by omega)) (nm_r hx hJ)
  | succ d ih =>
    intro t n ht hn
    obtain ⟨m, rfl⟩ : ∃ m, n = m + 1 := ⟨n - 1, by omega⟩
    have hnext := ih (t + 1) m (by omega) (by omega)
    refine br_f (fun h => by have := (nh_y33 t (by omega)).mp h; omega) (nl_qv (q := wpX_usesName) (nl_usesName hU hN hR.2.2.1) (br_c (fun h0 => ?_) (fun h0 => nm_r (nh_ys t) hnext)))
    have hAT := hA h0
    exact nl_qv (q := wpX_getTokenKind) (nl_getTokenKind hU hT hAT.1 hAT.2.1 hAT.2.2.1) (nl_qv (q := wpX_getTokenValue) (nl_getTokenValue hU hT hAT.1 hAT.2.1 hAT.2.2.2) (nm_r (nh_ys t) hnext))
theorem nl_834 {U T N : Nat} {on ok fl dp tt pr : Int32} {K V ln ue dc uu ow st w ch no ns nr es nu re oT oP : Nat → Int32} {on' ok' fl' dp' tt' pr' : Int32} {K' V' ln' ue' dc' uu' ow' st' w' ch' no' ns' nr' es' nu' re' oT' oP' : Nat → Int32} {post : Int32 → Prop} {L : Nat} {xs : Nat → Int32} {J110 : ((Int32 × Int32 × Int32 × Int32 × Int32 × Int32 × Int32 × Int32 × Nat × Nat × Int32 × Int32 × Int32 × Int32 × Int32 × Int32 × Int32 × Int32 × Int32 × (Nat → Int32) × (Nat → Int32) × (Nat → Int32) × (Nat → Int32) × (Nat → Int32) × (Nat → Int32) × (Nat → Int32) × (Nat → Int32) × (Nat → Int32) × (Nat → Int32) × (Nat → Int32) × (Nat → Int32) × (Nat → Int32) × (Nat → Int32) × (Nat → Int32) × (Nat → Int32) × (Nat → Int32) × (Nat → Int32)) ⊕ (Int32 × Int32 × Int32 × Int32 × Int32 × Int32 × Int32 × Int32 × Nat × Nat × Int32 × Int32 × Int32 × Int32 × Int32 × Int32 × Int32 × Int32 × Int32 × (Nat → Int32) × (Nat → Int32) × (Nat → Int32) × (Nat → Int32) × (Nat → Int32) × (Nat → Int32) × (Nat → Int32) × (Nat → Int32) × (Nat → Int32) × (Nat → Int32) × (Nat → Int32) × (Nat → Int32) × (Nat → Int32) × (Nat → Int32) × (Nat → Int32) × (Nat → Int32) × (Nat → Int32) × (Nat → Int32) × Int32 × Int32 × Int32 × Int32 × Int32 × Int32 × Int32 × Int32 × Int32 × (Nat → Int32) × (Nat → Int32) × (Nat → Int32) × (Nat → Int32) × (Nat → Int32) × (Nat → Int32) × (Nat → Int32) × (Nat → Int32) × (Nat → Int32) × (Nat → Int32) × (Nat → Int32) × (Nat → Int32) × (Nat → Int32) × (Nat → Int32) × (Nat → Int32) × (Nat → Int32) × (Nat → Int32) × (Nat → Int32))) → Prop} {x1 x2 x3 x4 x5 x8 x9 x10 x10' : Int32} {kc ks : Nat} (hU : U ≤ 8) (hT : T ≤ 32) (hN : N ≤ 16) (hR : nh_AR U N ue dc uu ow st w ue' dc' uu' ow' st' w') (hA : x10 = 0 → nh_AT U T K V ln K' V' ln')
    (hx : x10 + 1 = x10') (hJ : J110 (.inr (x1, x2, x3, x4, x5, x8, x9, x10', kc, ks, nI U, nI T, nI N, on, ok, fl, dp, tt, pr, K, V, ln, ue, dc, uu, ow, st, w, ch, no, ns, nr, es, nu, re, oT, oP, nI U, nI T, nI N, on', ok', fl', dp', tt', pr', K', V', ln', ue', dc', uu', ow', st', w', ch', no', ns', nr', es', nu', re', oT', oP'))) : ∀ (d t n : Nat) (x13 : Int32), x13 = nI t + (-1) → t + d = 19 → d < n → wL_law_834 post L xs J110 n (.inr (x1, x2, x3, x4, x5, x8, x9, x10, x13, kc, ks, nI U, nI T, nI N, on, ok, fl, dp, tt, pr, K, V, ln, ue, dc, uu, ow, st, w, ch, no, ns, nr, es, nu, re, oT, oP, nI U, nI T, nI N, on', ok', fl', dp', tt', pr', K', V', ln', ue', dc', uu', ow', st', w', ch', no', ns', nr', es', nu', re', oT', oP')) := by
  intro d
  induction d with
  | zero =>
    intro t n x13 h13 ht hn
    obtain ⟨m, rfl⟩ : ∃ m, n = m + 1 := ⟨n - 1, by omega⟩
    subst h13
    exact br_t ((nh_y17 t (by omega)).mpr (by omega)) (nm_r hx hJ)
  | succ d ih =>
    intro t n x13 h13 ht hn
    obtain ⟨m, rfl⟩ : ∃ m, n = m + 1 := ⟨n - 1, by omega⟩
    subst h13
    have hnext := ih (t + 1) m _ rfl (by omega) (by omega)
    have h963 : ∃ fu963 : Nat, wL_law_963 post L xs J110 (wL_law_834 post L xs J110 m) x1 x2 x3 x4 x5 x8 x9 x10 (nI t + (-1)) kc ks (nI U) (nI T) (nI N) on ok fl dp tt pr K V ln ue dc uu ow st w ch no ns nr es nu re oT oP (nI U) (nI T) (nI N) on' ok' fl' dp' tt' pr' K' V' ln' ue' dc' uu' ow' st' w' ch' no' ns' nr' es' nu' re' oT' oP' fu963 (-1) := ⟨36, nl_963 hU hT hN hR hA (nh_ys t) hnext 35 0 36 (by omega) (by omega)⟩
    refine br_f (fun h => by have := (nh_y17 t (by omega)).mp h; omega) (nl_qu (q := wpX_getUnitError) (nl_getUnitError hU hR.1) (nl_qu (q := wpX_getDefCount) (nl_getDefCount hU hR.2.1) (nl_qu (q := wpX_getOwner) (nl_getOwner hN hR.2.2.2.1) (nl_qu (q := wpX_getStatus) (nl_getStatus hN hR.2.2.2.2.1) (nl_qu (q := wpX_getValue) (nl_getValue hN hR.2.2.2.2.2) (br_c (fun h0 => ?_) (fun h0 => h963)))))))
    exact nl_qu (q := wpX_getLength) (nl_getLength hU (hA h0).2.1) h963
/-! copying -/
def nh_CP (U T N : Nat) (K V ln K' V' ln' : Nat → Int32) (u j : Nat) : Prop :=
  nh_PV U T N K' V' ln' ∧ ∀ u1, u1 < U → (u1 < u → ln' u1 = ln u1 ∧ ∀ i, i < nh_L ln u1 → K (u1 * 32 + i) = K' (u1 * 32 + i) ∧ V (u1 * 32 + i) = V' (u1 * 32 + i)) ∧
    (u1 = u → ln' u1 = nI j ∧ ∀ i, i < j → K (u1 * 32 + i) = K' (u1 * 32 + i) ∧ V (u1 * 32 + i) = V' (u1 * 32 + i)) ∧ (u < u1 → ln' u1 = 0)
theorem nh_tvz {K V : Nat → Int32} {p : Nat} (h : nh_ZV K V) : nh_tv (K p) (V p) = V p := by
  unfold nh_tv
  by_cases h1 : K p = 1
  · rw [if_pos h1]
  · by_cases h2 : K p = 2
    · rw [if_neg h1, if_pos h2]
    · rw [if_neg h1, if_neg h2, h p h1 h2]
theorem nh_Lq {ln : Nat → Int32} {u L : Nat} (hL : L < 2 ^ 31) (hl : ln u = nI L) : nh_L ln u = L := by unfold nh_L; rw [hl]; exact nI_clamp hL
theorem nh_CPs {U T N u j L : Nat} {K V ln K' V' ln' : Nat → Int32} (hT : T ≤ 32) (hA : nh_PV U T N K V ln) (h : nh_CP U T N K V ln K' V' ln' u j) (hu : u < U) (hl : ln u = nI L) (hL : L ≤ T) (hj : j < L) (htk : nh_tk N (K (u * 32 + j)) (V (u * 32 + j))) :
    nh_CP U T N K V ln (upd K' (u * 32 + j) (K (u * 32 + j))) (upd V' (u * 32 + j) (nh_tv (K (u * 32 + j)) (V (u * 32 + j)))) (upd ln' u (nI (j + 1))) u (j + 1) := by
  have hlj := ((h.2 u hu).2.1 rfl).1
  refine ⟨nh_PVp h.1 htk (nh_lnu h.1.1 (by omega)) (fun u' i' hu' hi' => ?_), fun u1 hu1 => ⟨fun h1 => ?_, fun h1 => ?_, fun h1 => ?_⟩⟩
  · rw [nh_Lu (by omega)] at hi'
    by_cases e1 : u' = u
    · rw [if_pos e1] at hi'
      by_cases e2 : i' = j
      · exact Or.inl (by rw [e1, e2])
      · exact Or.inr (h.1.2.2.2 u' i' hu' (by rw [e1, nh_Lq (by omega) hlj]; omega))
    · rw [if_neg e1] at hi'; exact Or.inr (h.1.2.2.2 u' i' hu' hi')
  · have ⟨a, b⟩ := (h.2 u1 hu1).1 h1
    obtain ⟨l2, hl2, hl3⟩ := hA.1 u1
    have e2 := nh_Lq (by omega) hl3
    refine ⟨by rw [pk_un (by omega)]; exact a, fun i hi => ?_⟩
    rw [pk_un (by omega), pk_un (by omega)]
    exact b i hi
  · subst h1
    refine ⟨pk_us, fun i hi => ?_⟩
    by_cases e : i = j
    · rw [e, pk_us, pk_us, nh_tvz hA.2.2.1]; exact ⟨rfl, rfl⟩
    · rw [pk_un (by omega), pk_un (by omega)]
      exact ((h.2 u1 hu1).2.1 rfl).2 i (by omega)
  · rw [pk_un (by omega)]
    exact (h.2 u1 hu1).2.2 h1
theorem nl_tkK {U T N : Nat} {on ok fl dp tt pr : Int32} {K V ln ue dc uu ow st w ch no ns nr es nu re oT oP : Nat → Int32} {post : Int32 → Prop} {u i L : Nat} (hU : U ≤ 8) (hu : u < U) (hl : ln u = nI L) (hL : L ≤ 32) (hi : i < L) (hp : post (K (u * 32 + i))) : wpX_getTokenKind post (nI U, nI T, nI N, on, ok, fl, dp, tt, pr, K, V, ln, ue, dc, uu, ow, st, w, ch, no, ns, nr, es, nu, re, oT, oP) (nI u) (nI i) := by
  unfold wpX_getTokenKind
  refine nx_ht1 hU hu hl hL hi (br_f (by decide) ?_)
  rw [nh_c32, nI_clamp (n := u * 32 + i) (by omega)]
  exact ⟨vp_in_nI (by omega) (by decide), hp⟩
theorem nl_tkV {U T N : Nat} {on ok fl dp tt pr : Int32} {K V ln ue dc uu ow st w ch no ns nr es nu re oT oP : Nat → Int32} {post : Int32 → Prop} {u i L : Nat} (hU : U ≤ 8) (hu : u < U) (hl : ln u = nI L) (hL : L ≤ 32) (hi : i < L) (hp : post (V (u * 32 + i))) : wpX_getTokenValue post (nI U, nI T, nI N, on, ok, fl, dp, tt, pr, K, V, ln, ue, dc, uu, ow, st, w, ch, no, ns, nr, es, nu, re, oT, oP) (nI u) (nI i) := by
  unfold wpX_getTokenValue
  refine nx_ht1 hU hu hl hL hi (br_f (by decide) ?_)
  rw [nh_c32, nI_clamp (n := u * 32 + i) (by omega)]
  exact ⟨vp_in_nI (by omega) (by decide), hp⟩
theorem nl_776 {U T N : Nat} {on ok fl dp tt pr : Int32} {K V ln ue dc uu ow st w ch no ns nr es nu re oT oP : Nat → Int32} {on' ok' fl' dp' tt' pr' : Int32} {ue' dc' uu' ow' st' w' ch' no' ns' nr' es' nu' re' oT' oP' : Nat → Int32} {post : Int32 → Prop} {L0 : Nat} {xs : Nat → Int32} {J110 : ((Int32 × Int32 × Int32 × Int32 × Int32 × Int32 × Int32 × Int32 × Nat × Nat × Int32 × Int32 × Int32 × Int32 × Int32 × Int32 × Int32 × Int32 × Int32 × (Nat → Int32) × (Nat → Int32) × (Nat → Int32) × (Nat → Int32) × (Nat → Int32) × (Nat → Int32) × (Nat → Int32) × (Nat → Int32) × (Nat → Int32) × (Nat → Int32) × (Nat → Int32) × (Nat → Int32) × (Nat → Int32) × (Nat → Int32) × (Nat → Int32) × (Nat → Int32) × (Nat → Int32) × (Nat → Int32)) ⊕ (Int32 × Int32 × Int32 × Int32 × Int32 × Int32 × Int32 × Int32 × Nat × Nat × Int32 × Int32 × Int32 × Int32 × Int32 × Int32 × Int32 × Int32 × Int32 × (Nat → Int32) × (Nat → Int32) × (Nat → Int32) × (Nat → Int32) × (Nat → Int32) × (Nat → Int32) × (Nat → Int32) × (Nat → Int32) × (Nat → Int32) × (Nat → Int32) × (Nat → Int32) × (Nat → Int32) × (Nat → Int32) × (Nat → Int32) × (Nat → Int32) × (Nat → Int32) × (Nat → Int32) × (Nat → Int32) × Int32 × Int32 × Int32 × Int32 × Int32 × Int32 × Int32 × Int32 × Int32 × (Nat → Int32) × (Nat → Int32) × (Nat → Int32) × (Nat → Int32) × (Nat → Int32) × (Nat → Int32) × (Nat → Int32) × (Nat → Int32) × (Nat → Int32) × (Nat → Int32) × (Nat → Int32) × (Nat → Int32) × (Nat → Int32) × (Nat → Int32) × (Nat → Int32) × (Nat → Int32) × (Nat → Int32) × (Nat → Int32))) → Prop} {J757 : Int32 → Int32 → Int32 → Int32 → Int32 → Int32 → Int32 → Int32 → Int32 → Int32 → (Nat → Int32) → (Nat → Int32) → (Nat → Int32) → (Nat → Int32) → (Nat → Int32) → (Nat → Int32) → (Nat → Int32) → (Nat → Int32) → (Nat → Int32) → (Nat → Int32) → (Nat → Int32) → (Nat → Int32) → (Nat → Int32) → (Nat → Int32) → (Nat → Int32) → (Nat → Int32) → (Nat → Int32) → (Nat → Int32) → Int32 → Int32 → Int32 → Int32 → Int32 → Int32 → Int32 → Int32 → Int32 → (Nat → Int32) → (Nat → Int32) → (Nat → Int32) → (Nat → Int32) → (Nat → Int32) → (Nat → Int32) → (Nat → Int32) → (Nat → Int32) → (Nat → Int32) → (Nat → Int32) → (Nat → Int32) → (Nat → Int32) → (Nat → Int32) → (Nat → Int32) → (Nat → Int32) → (Nat → Int32) → (Nat → Int32) → (Nat → Int32) → Prop} {x1 x2 x3 x4 x5 x8 x9 x10 : Int32} {kc ks u L : Nat} (hU : U ≤ 8) (hT : T ≤ 32) (hN : N ≤ 16) (hA : nh_PV U T N K V ln) (hu : u < U) (hl : ln u = nI L) (hL : L ≤ T)
    (hJ : ∀ K' V' ln', nh_CP U T N K V ln K' V' ln' u L → J757 (nI (u + 1)) (nI U) (nI T) (nI N) on ok fl dp tt pr K V ln ue dc uu ow st w ch no ns nr es nu re oT oP (nI U) (nI T) (nI N) on' ok' fl' dp' tt' pr' K' V' ln' ue' dc' uu' ow' st' w' ch' no' ns' nr' es' nu' re' oT' oP') : ∀ (d j n : Nat) (K' V' ln' : Nat → Int32), j + d = L → d < n → nh_CP U T N K V ln K' V' ln' u j → wL_law_776 post L0 xs J110 J757 x1 x2 x3 x4 x5 x8 x9 x10 (nI u) (nI L) kc ks n (nI j) (nI U) (nI T) (nI N) on ok fl dp tt pr K V ln ue dc uu ow st w ch no ns nr es nu re oT oP (nI U) (nI T) (nI N) on' ok' fl' dp' tt' pr' K' V' ln' ue' dc' uu' ow' st' w' ch' no' ns' nr' es' nu' re' oT' oP' := by
  intro d
  induction d with
  | zero =>
    intro j n K' V' ln' hj hn h
    obtain ⟨m, rfl⟩ : ∃ m, n = m + 1 := ⟨n - 1, by omega⟩
    have e : j = L := by omega
    subst e
    exact br_t (nI_le (Nat.le_refl _) (by omega)) (nm_r (nI_1 u) (hJ K' V' ln' h))
  | succ d ih =>
    intro j n K' V' ln' hj hn h
    obtain ⟨m, rfl⟩ : ∃ m, n = m + 1 := ⟨n - 1, by omega⟩
    have hjL : j < nh_L ln u := by rw [nh_Lq (by omega) hl]; omega
    have hkd := hA.2.2.2 u j hu hjL
    have htk : nh_tk N (K (u * 32 + j)) (V (u * 32 + j)) := ⟨hkd.1, hkd.2, fun h2 => hA.2.1 _ h2⟩
    refine br_f (nI_ge (by omega) (by omega)) (nl_tkK hU hu hl (by omega) (by omega) (nl_tkV hU hu hl (by omega) (by omega) (nl_appendS hU hT hN hu ((h.2 u hu).2.1 rfl).1 (by omega) htk (br_f (by decide) (nm_r (nI_1 j) (ih (j + 1) m _ _ _ (by omega) (by omega) (nh_CPs hT hA h hu hl hL (by omega) htk)))))))
theorem nh_CPe {U T N u L : Nat} {K V ln K' V' ln' : Nat → Int32} (h : nh_CP U T N K V ln K' V' ln' u L) (hl : ln u = nI L) (hL : L < 2 ^ 31) : nh_CP U T N K V ln K' V' ln' (u + 1) 0 := by
  refine ⟨h.1, fun u1 hu1 => ⟨fun h1 => ?_, fun h1 => ?_, fun h1 => ?_⟩⟩
  · by_cases e : u1 = u
    · subst e
      have ⟨a, b⟩ := (h.2 u1 hu1).2.1 rfl
      rw [nh_Lq hL hl]
      exact ⟨a.trans hl.symm, b⟩
    · exact (h.2 u1 hu1).1 (by omega)
  · exact ⟨(h.2 u1 hu1).2.2 (by omega), fun i hi => absurd hi (Nat.not_lt_zero i)⟩
  · exact (h.2 u1 hu1).2.2 (by omega)
theorem nh_CPb {U T N u : Nat} {K V ln K' V' ln' : Nat → Int32} (h : nh_CP U T N K V ln K' V' ln' u 0) (hu : ¬ u < U) : nh_CP U T N K V ln K' V' ln' (u + 1) 0 :=
  ⟨h.1, fun u1 hu1 => ⟨fun h1 => (h.2 u1 hu1).1 (by omega), fun h1 => by omega, fun h1 => by omega⟩⟩
theorem nl_757 {U T N : Nat} {on ok fl dp tt pr : Int32} {K V ln ue dc uu ow st w ch no ns nr es nu re oT oP : Nat → Int32} {on' ok' fl' dp' tt' pr' : Int32} {ue' dc' uu' ow' st' w' ch' no' ns' nr' es' nu' re' oT' oP' : Nat → Int32} {post : Int32 → Prop} {L0 : Nat} {xs : Nat → Int32} {J110 : ((Int32 × Int32 × Int32 × Int32 × Int32 × Int32 × Int32 × Int32 × Nat × Nat × Int32 × Int32 × Int32 × Int32 × Int32 × Int32 × Int32 × Int32 × Int32 × (Nat → Int32) × (Nat → Int32) × (Nat → Int32) × (Nat → Int32) × (Nat → Int32) × (Nat → Int32) × (Nat → Int32) × (Nat → Int32) × (Nat → Int32) × (Nat → Int32) × (Nat → Int32) × (Nat → Int32) × (Nat → Int32) × (Nat → Int32) × (Nat → Int32) × (Nat → Int32) × (Nat → Int32) × (Nat → Int32)) ⊕ (Int32 × Int32 × Int32 × Int32 × Int32 × Int32 × Int32 × Int32 × Nat × Nat × Int32 × Int32 × Int32 × Int32 × Int32 × Int32 × Int32 × Int32 × Int32 × (Nat → Int32) × (Nat → Int32) × (Nat → Int32) × (Nat → Int32) × (Nat → Int32) × (Nat → Int32) × (Nat → Int32) × (Nat → Int32) × (Nat → Int32) × (Nat → Int32) × (Nat → Int32) × (Nat → Int32) × (Nat → Int32) × (Nat → Int32) × (Nat → Int32) × (Nat → Int32) × (Nat → Int32) × (Nat → Int32) × Int32 × Int32 × Int32 × Int32 × Int32 × Int32 × Int32 × Int32 × Int32 × (Nat → Int32) × (Nat → Int32) × (Nat → Int32) × (Nat → Int32) × (Nat → Int32) × (Nat → Int32) × (Nat → Int32) × (Nat → Int32) × (Nat → Int32) × (Nat → Int32) × (Nat → Int32) × (Nat → Int32) × (Nat → Int32) × (Nat → Int32) × (Nat → Int32) × (Nat → Int32) × (Nat → Int32) × (Nat → Int32))) → Prop} {x1 x2 x3 x4 x5 x8 x9 x10 : Int32} {kc ks : Nat} (hU : U ≤ 8) (hT : T ≤ 32) (hN : N ≤ 16) (hA : nh_PV U T N K V ln)
    (hE : ∀ K' V' ln', nh_CP U T N K V ln K' V' ln' 8 0 → ∀ n, wL_law_757 post L0 xs J110 x1 x2 x3 x4 x5 x8 x9 x10 kc ks (n + 1) (nI 8) (nI U) (nI T) (nI N) on ok fl dp tt pr K V ln ue dc uu ow st w ch no ns nr es nu re oT oP (nI U) (nI T) (nI N) on' ok' fl' dp' tt' pr' K' V' ln' ue' dc' uu' ow' st' w' ch' no' ns' nr' es' nu' re' oT' oP') : ∀ (d u n : Nat) (K' V' ln' : Nat → Int32), u + d = 8 → d < n → nh_CP U T N K V ln K' V' ln' u 0 → wL_law_757 post L0 xs J110 x1 x2 x3 x4 x5 x8 x9 x10 kc ks n (nI u) (nI U) (nI T) (nI N) on ok fl dp tt pr K V ln ue dc uu ow st w ch no ns nr es nu re oT oP (nI U) (nI T) (nI N) on' ok' fl' dp' tt' pr' K' V' ln' ue' dc' uu' ow' st' w' ch' no' ns' nr' es' nu' re' oT' oP' := by
  intro d
  induction d with
  | zero =>
    intro u n K' V' ln' hud hn h
    obtain ⟨m, rfl⟩ : ∃ m, n = m + 1 := ⟨n - 1, by omega⟩
    have e : u = 8 := by omega
    subst e
    exact hE K' V' ln' h m
  | succ d ih =>
    intro u n K' V' ln' hud hn h
    obtain ⟨m, rfl⟩ : ∃ m, n = m + 1 := ⟨n - 1, by omega⟩
    refine br_f (nI_ge (b := 8) (by omega) (by decide)) ?_
    unfold wpX_getLength
    by_cases hu : u < U
    · obtain ⟨L, hL, hl⟩ := hA.1 u
      refine nx_hu1 hU hu (br_f (by decide) ⟨vp_in_nI (by omega) (by decide), ?_⟩)
      rw [nI_clamp (n := u) (by omega), hl]
      exact ⟨L + 1, nl_776 hU hT hN hA hu hl hL (fun K2 V2 ln2 h2 => ih (u + 1) m K2 V2 ln2 (by omega) (by omega) (nh_CPe h2 hl (by omega))) L 0 (L + 1) K' V' ln' (by omega) (by omega) h⟩
    · refine nx_hu0 hU (Or.inr (nI_le (by omega) (by omega))) (br_t rfl ⟨1, ?_⟩)
      exact br_t (by decide) (nm_r (nI_1 u) (ih (u + 1) m K' V' ln' (by omega) (by omega) (nh_CPb h hu)))
