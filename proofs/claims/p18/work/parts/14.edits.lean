/-! 14: tokens stay valid under every edit, whatever its arguments -/
theorem nh_shq (b i : Nat) : ∀ (d : Nat) (K : Nat → Int32) (q : Nat), nh_sh b i d K q = K (if b + i < q ∧ q ≤ b + i + d then q - 1 else q) := by
  intro d
  induction d with
  | zero => intro K q; rw [if_neg (by omega)]; rfl
  | succ d ih =>
    intro K q
    rw [nh_sh, ih]
    by_cases h1 : b + i < q ∧ q ≤ b + i + d
    · rw [if_pos h1, if_pos (by omega), pk_un (by omega)]
    · rw [if_neg h1]
      by_cases h2 : q = b + (i + d + 1)
      · rw [h2, pk_us, if_pos (by omega)]
        exact congrArg K (by omega)
      · rw [pk_un h2, if_neg (by omega)]
theorem nh_sdq (b : Nat) : ∀ (d j : Nat) (K : Nat → Int32) (q : Nat), nh_sd b d j K q = K (if b + j ≤ q ∧ q < b + j + d then q + 1 else q) := by
  intro d
  induction d with
  | zero => intro j K q; rw [if_neg (by omega)]; rfl
  | succ d ih =>
    intro j K q
    rw [nh_sd, ih]
    by_cases h1 : b + (j + 1) ≤ q ∧ q < b + (j + 1) + d
    · rw [if_pos h1, if_pos (by omega), pk_un (by omega)]
    · rw [if_neg h1]
      by_cases h2 : q = b + j
      · rw [h2, pk_us, if_pos (by omega)]
        exact congrArg K (by omega)
      · rw [pk_un h2, if_neg (by omega)]
theorem nh_Lu {ln : Nat → Int32} {u l u' : Nat} (hl : l < 2 ^ 31) : nh_L (upd ln u (nI l)) u' = if u' = u then l else nh_L ln u' := by
  unfold nh_L
  by_cases e : u' = u
  · rw [if_pos e, e, pk_us]; exact nI_clamp hl
  · rw [if_neg e, pk_un e]
def nh_kd (k : Int32) : Prop := ¬ k < 1 ∧ ¬ 9 < k
def nh_ZV (K V : Nat → Int32) : Prop := ∀ p, ¬ K p = 1 → ¬ K p = 2 → V p = 0
def nh_KV (U : Nat) (K ln : Nat → Int32) : Prop := ∀ u i, u < U → i < nh_L ln u → nh_kd (K (u * 32 + i))
def nh_PV (U T N : Nat) (K V ln : Nat → Int32) : Prop := (∀ u, ∃ l, l ≤ T ∧ ln u = nI l) ∧ nh_TV N K V ∧ nh_ZV K V ∧ nh_KV U K ln
theorem nh_lnu {T u l : Nat} {ln : Nat → Int32} (h : ∀ u, ∃ l, l ≤ T ∧ ln u = nI l) (hl : l ≤ T) : ∀ u', ∃ l', l' ≤ T ∧ upd ln u (nI l) u' = nI l' := by
  intro u'
  by_cases e : u' = u
  · rw [e, pk_us]; exact ⟨l, hl, rfl⟩
  · rw [pk_un e]; exact h u'
theorem nh_ZVu {K V : Nat → Int32} {p : Nat} {k v : Int32} (h : nh_ZV K V) : nh_ZV (upd K p k) (upd V p (nh_tv k v)) := by
  intro q h1 h2
  by_cases e : q = p
  · rw [e, pk_us] at h1 h2
    rw [e, pk_us, nh_tv, if_neg h1, if_neg h2]
  · rw [pk_un e] at h1 h2
    rw [pk_un e]
    exact h q h1 h2
/-- a token stored at (u, i) -/
theorem nh_PVp {U T N u i : Nat} {K V ln ln' : Nat → Int32} {k v : Int32} (h : nh_PV U T N K V ln) (htk : nh_tk N k v) (hln : ∀ u, ∃ l, l ≤ T ∧ ln' u = nI l) (hc : ∀ u' i', u' < U → i' < nh_L ln' u' → u' * 32 + i' = u * 32 + i ∨ nh_kd (K (u' * 32 + i'))) :
    nh_PV U T N (upd K (u * 32 + i) k) (upd V (u * 32 + i) (nh_tv k v)) ln' := by
  refine ⟨hln, nh_TVu h.2.1 (nh_tvk htk), nh_ZVu h.2.2.1, fun u' i' hu' hi' => ?_⟩
  by_cases e : u' * 32 + i' = u * 32 + i
  · rw [e, pk_us]; exact ⟨htk.1, htk.2.1⟩
  · rw [pk_un e]
    exact (hc u' i' hu' hi').elim (fun h => absurd h e) id
theorem nl_append {U T N : Nat} {on ok fl dp tt pr : Int32} {K V ln ue dc uu ow st w ch no ns nr es nu re oT oP : Nat → Int32} {post : Int32 → St2 → Prop} {v1 v2 v3 : Int32} (hU : U ≤ 8) (hT : T ≤ 32) (hN : N ≤ 16) (h : nh_PV U T N K V ln) (hp : ∀ r K' V' ln', nh_PV U T N K' V' ln' → post r (nI U, nI T, nI N, on, ok, fl, dp, tt, pr, K', V', ln', ue, dc, uu, ow, st, w, ch, no, ns, nr, es, nu, re, oT, oP)) : wpX_append post (nI U, nI T, nI N, on, ok, fl, dp, tt, pr, K, V, ln, ue, dc, uu, ow, st, w, ch, no, ns, nr, es, nu, re, oT, oP) v1 v2 v3 := by
  unfold wpX_append
  rcases pk_ix v1 (n := U) (by omega) with ho | ho | ⟨u, hu, rfl⟩
  · exact nx_hu0 hU (Or.inl ho) (br_t rfl (hp _ _ _ _ h))
  · exact nx_hu0 hU (Or.inr ho) (br_t rfl (hp _ _ _ _ h))
  · have h8 : vp_in (nI u) 8 := vp_in_nI (by omega) (by decide)
    obtain ⟨L, hL, hl⟩ := h.1 u
    refine nx_hu1 hU hu (br_f (by decide) ?_)
    by_cases htk : nh_tk N v2 v3
    · refine nx_tk1 hN htk (br_f (by decide) ⟨h8, ?_⟩)
      rw [nI_clamp (n := u) (by omega), hl]
      by_cases hLT : L < T
      · refine br_t (nI_lt hLT (by omega)) ⟨h8, nx_put (by omega) ⟨h8, h8, ?_⟩⟩
        rw [hl]
        refine nm_r (congrArg (upd ln u) (nI_1 L)) (hp _ _ _ _ (nh_PVp h htk (nh_lnu h.1 (by omega)) (fun u' i' hu' hi' => ?_)))
        rw [nh_Lu (by omega)] at hi'
        have e : nh_L ln u = L := by unfold nh_L; rw [hl]; exact nI_clamp (by omega)
        by_cases e1 : u' = u
        · subst e1
          rw [if_pos rfl] at hi'
          by_cases e2 : i' = L
          · rw [e2]; exact Or.inl rfl
          · exact Or.inr (h.2.2.2 u' i' hu' (by omega))
        · rw [if_neg e1] at hi'; exact Or.inr (h.2.2.2 u' i' hu' hi')
      · exact br_f (nI_nlt (by omega) (by omega)) (hp _ _ _ _ h)
    · exact nx_tk0 hN htk (br_t rfl (hp _ _ _ _ h))
/-- an append that succeeds -/
theorem nl_appendS {U T N : Nat} {on ok fl dp tt pr : Int32} {K V ln ue dc uu ow st w ch no ns nr es nu re oT oP : Nat → Int32} {post : Int32 → St2 → Prop} {u L : Nat} {k v : Int32} (hU : U ≤ 8) (hT : T ≤ 32) (hN : N ≤ 16) (hu : u < U) (hl : ln u = nI L) (hLT : L < T) (htk : nh_tk N k v)
    (hp : post 1 (nI U, nI T, nI N, on, ok, fl, dp, tt, pr, upd K (u * 32 + L) k, upd V (u * 32 + L) (nh_tv k v), upd ln u (nI (L + 1)), ue, dc, uu, ow, st, w, ch, no, ns, nr, es, nu, re, oT, oP)) : wpX_append post (nI U, nI T, nI N, on, ok, fl, dp, tt, pr, K, V, ln, ue, dc, uu, ow, st, w, ch, no, ns, nr, es, nu, re, oT, oP) (nI u) k v := by
  unfold wpX_append
  have h8 : vp_in (nI u) 8 := vp_in_nI (by omega) (by decide)
  refine nx_hu1 hU hu (br_f (by decide) (nx_tk1 hN htk (br_f (by decide) ⟨h8, ?_⟩)))
  rw [nI_clamp (n := u) (by omega), hl]
  refine br_t (nI_lt hLT (by omega)) ⟨h8, nx_put (by omega) ⟨h8, h8, ?_⟩⟩
  rw [hl]
  exact nm_r (congrArg (upd ln u) (nI_1 L)) hp
theorem nl_set {U T N : Nat} {on ok fl dp tt pr : Int32} {K V ln ue dc uu ow st w ch no ns nr es nu re oT oP : Nat → Int32} {post : Int32 → St2 → Prop} {v1 v2 v3 v4 : Int32} (hU : U ≤ 8) (hT : T ≤ 32) (hN : N ≤ 16) (h : nh_PV U T N K V ln) (hp : ∀ r K' V' ln', nh_PV U T N K' V' ln' → post r (nI U, nI T, nI N, on, ok, fl, dp, tt, pr, K', V', ln', ue, dc, uu, ow, st, w, ch, no, ns, nr, es, nu, re, oT, oP)) : wpX_setToken post (nI U, nI T, nI N, on, ok, fl, dp, tt, pr, K, V, ln, ue, dc, uu, ow, st, w, ch, no, ns, nr, es, nu, re, oT, oP) v1 v2 v3 v4 := by
  unfold wpX_setToken
  rcases pk_ix v1 (n := U) (by omega) with ho | ho | ⟨u, hu, rfl⟩
  · exact nx_htu hU (Or.inl ho) (br_t rfl (hp _ _ _ _ h))
  · exact nx_htu hU (Or.inr ho) (br_t rfl (hp _ _ _ _ h))
  · obtain ⟨L, hL, hl⟩ := h.1 u
    rcases pk_ix v2 (n := L) (by omega) with ho | ho | ⟨i, hi, rfl⟩
    · exact nx_ht0 hU hu hl (by omega) (Or.inl ho) (br_t rfl (hp _ _ _ _ h))
    · exact nx_ht0 hU hu hl (by omega) (Or.inr ho) (br_t rfl (hp _ _ _ _ h))
    · refine nx_ht1 hU hu hl (by omega) hi (br_f (by decide) ?_)
      by_cases htk : nh_tk N v3 v4
      · exact nx_tk1 hN htk (br_f (by decide) (nx_put (by omega) (hp _ _ _ _ (nh_PVp h htk h.1 (fun u' i' hu' hi' => Or.inr (h.2.2.2 u' i' hu' hi'))))))
      · exact nx_tk0 hN htk (br_t rfl (hp _ _ _ _ h))
theorem nh_rTV {N : Nat} {K V K' V' : Nat → Int32} (s : Nat → Nat) (h : nh_TV N K V) (hK : ∀ q, K' q = K (s q)) (hV : ∀ q, V' q = V (s q)) : nh_TV N K' V' := by
  intro q hq
  rw [hK] at hq
  rw [hV]
  exact h _ hq
theorem nh_rZV {K V K' V' : Nat → Int32} (s : Nat → Nat) (h : nh_ZV K V) (hK : ∀ q, K' q = K (s q)) (hV : ∀ q, V' q = V (s q)) : nh_ZV K' V' := by
  intro q h1 h2
  rw [hK] at h1 h2
  rw [hV]
  exact h _ h1 h2
theorem nl_ins {U T N : Nat} {on ok fl dp tt pr : Int32} {K V ln ue dc uu ow st w ch no ns nr es nu re oT oP : Nat → Int32} {post : Int32 → St2 → Prop} {v1 v2 v3 v4 : Int32} (hU : U ≤ 8) (hT : T ≤ 32) (hN : N ≤ 16) (h : nh_PV U T N K V ln) (hp : ∀ r K' V' ln', nh_PV U T N K' V' ln' → post r (nI U, nI T, nI N, on, ok, fl, dp, tt, pr, K', V', ln', ue, dc, uu, ow, st, w, ch, no, ns, nr, es, nu, re, oT, oP)) : wpX_insertToken post (nI U, nI T, nI N, on, ok, fl, dp, tt, pr, K, V, ln, ue, dc, uu, ow, st, w, ch, no, ns, nr, es, nu, re, oT, oP) v1 v2 v3 v4 := by
  unfold wpX_insertToken
  rcases pk_ix v1 (n := U) (by omega) with ho | ho | ⟨u, hu, rfl⟩
  · exact nx_hu0 hU (Or.inl ho) (br_t rfl (hp _ _ _ _ h))
  · exact nx_hu0 hU (Or.inr ho) (br_t rfl (hp _ _ _ _ h))
  · have h8 : vp_in (nI u) 8 := vp_in_nI (by omega) (by decide)
    have hcu : (nI u).toNatClampNeg = u := nI_clamp (by omega)
    obtain ⟨L, hL, hl⟩ := h.1 u
    refine nx_hu1 hU hu (br_f (by decide) ?_)
    rcases pk_ix v2 (n := L + 1) (by omega) with ho | ho | ⟨i, hi, rfl⟩
    · exact br_t ho (hp _ _ _ _ h)
    · have hnle : ¬ v2 ≤ nI L := fun h' => nI_ge (Nat.lt_succ_self L) (by omega) (Int32.le_trans ho h')
      refine br_f (nh_nn (by omega) ho) ⟨h8, ?_⟩
      rw [hcu, hl]
      exact br_f hnle (hp _ _ _ _ h)
    · refine br_f (nI_pos (by omega)) ⟨h8, ?_⟩
      rw [hcu, hl]
      refine br_t (nI_le (by omega) (by omega)) ?_
      by_cases htk : nh_tk N v3 v4
      · refine nx_tk1 hN htk (br_f (by decide) ⟨h8, ?_⟩)
        by_cases hLT : L < T
        · refine br_t (nI_lt hLT (by omega)) ⟨h8, nm_e ⟨L + 1, ?_⟩⟩
          obtain ⟨d, rfl⟩ : ∃ d, L = i + d := ⟨L - i, by omega⟩
          have e : nh_L ln u = i + d := by unfold nh_L; rw [hl]; exact nI_clamp (by omega)
          refine nx_ins (by omega) hl d _ K V (by omega) (by omega) (hp _ _ _ _ ⟨nh_lnu h.1 (by omega), nh_TVu (nh_rTV _ h.2.1 (nh_shq _ _ d K) (nh_shq _ _ d V)) (nh_tvk htk), nh_ZVu (nh_rZV _ h.2.2.1 (nh_shq _ _ d K) (nh_shq _ _ d V)), fun u' i' hu' hi' => ?_⟩)
          rw [nh_Lu (by omega)] at hi'
          by_cases e1 : u' = u
          · subst e1
            rw [if_pos rfl] at hi'
            by_cases e2 : i' = i
            · rw [e2, pk_us]; exact ⟨htk.1, htk.2.1⟩
            · rw [pk_un (by omega), nh_shq]
              by_cases e3 : i' < i
              · rw [if_neg (by omega)]; exact h.2.2.2 u' i' hu' (by omega)
              · rw [if_pos (by omega), show u' * 32 + i' - 1 = u' * 32 + (i' - 1) by omega]; exact h.2.2.2 u' (i' - 1) hu' (by omega)
          · rw [if_neg e1] at hi'
            obtain ⟨l2, hl2, hl3⟩ := h.1 u'
            have e2 : nh_L ln u' = l2 := by unfold nh_L; rw [hl3]; exact nI_clamp (by omega)
            rw [pk_un (by omega), nh_shq, if_neg (by omega)]
            exact h.2.2.2 u' i' hu' hi'
        · exact br_f (nI_nlt (by omega) (by omega)) (hp _ _ _ _ h)
      · exact nx_tk0 hN htk (br_t rfl (hp _ _ _ _ h))
theorem nl_del {U T N : Nat} {on ok fl dp tt pr : Int32} {K V ln ue dc uu ow st w ch no ns nr es nu re oT oP : Nat → Int32} {post : Int32 → St2 → Prop} {v1 v2 : Int32} (hU : U ≤ 8) (hT : T ≤ 32) (hN : N ≤ 16) (h : nh_PV U T N K V ln) (hp : ∀ r K' V' ln', nh_PV U T N K' V' ln' → post r (nI U, nI T, nI N, on, ok, fl, dp, tt, pr, K', V', ln', ue, dc, uu, ow, st, w, ch, no, ns, nr, es, nu, re, oT, oP)) : wpX_deleteToken post (nI U, nI T, nI N, on, ok, fl, dp, tt, pr, K, V, ln, ue, dc, uu, ow, st, w, ch, no, ns, nr, es, nu, re, oT, oP) v1 v2 := by
  unfold wpX_deleteToken
  rcases pk_ix v1 (n := U) (by omega) with ho | ho | ⟨u, hu, rfl⟩
  · exact nx_htu hU (Or.inl ho) (br_t rfl (hp _ _ _ _ h))
  · exact nx_htu hU (Or.inr ho) (br_t rfl (hp _ _ _ _ h))
  · obtain ⟨L, hL, hl⟩ := h.1 u
    rcases pk_ix v2 (n := L) (by omega) with ho | ho | ⟨i, hi, rfl⟩
    · exact nx_ht0 hU hu hl (by omega) (Or.inl ho) (br_t rfl (hp _ _ _ _ h))
    · exact nx_ht0 hU hu hl (by omega) (Or.inr ho) (br_t rfl (hp _ _ _ _ h))
    · refine nx_ht1 hU hu hl (by omega) hi (br_f (by decide) (nm_r (nI_1 i) ⟨L + 1, ?_⟩))
      obtain ⟨d, rfl⟩ : ∃ d, L = i + d + 1 := ⟨L - i - 1, by omega⟩
      have e : nh_L ln u = i + d + 1 := by unfold nh_L; rw [hl]; exact nI_clamp (by omega)
      refine nx_del (by omega) hl (by omega) d i _ K V rfl (by omega) (hp _ _ _ _ ⟨nh_lnu h.1 (by omega), nh_rTV _ h.2.1 (nh_sdq _ d i K) (nh_sdq _ d i V), nh_rZV _ h.2.2.1 (nh_sdq _ d i K) (nh_sdq _ d i V), fun u' i' hu' hi' => ?_⟩)
      rw [nh_Lu (by omega)] at hi'
      by_cases e1 : u' = u
      · subst e1
        rw [if_pos rfl] at hi'
        rw [nh_sdq]
        by_cases e3 : i' < i
        · rw [if_neg (by omega)]; exact h.2.2.2 u' i' hu' (by omega)
        · rw [if_pos (by omega), show u' * 32 + i' + 1 = u' * 32 + (i' + 1) by omega]; exact h.2.2.2 u' (i' + 1) hu' (by omega)
      · rw [if_neg e1] at hi'
        obtain ⟨l2, hl2, hl3⟩ := h.1 u'
        have e2 : nh_L ln u' = l2 := by unfold nh_L; rw [hl3]; exact nI_clamp (by omega)
        rw [nh_sdq, if_neg (by omega)]
        exact h.2.2.2 u' i' hu' hi'
theorem nl_clear {U T N : Nat} {on ok fl dp tt pr : Int32} {K V ln ue dc uu ow st w ch no ns nr es nu re oT oP : Nat → Int32} {post : Int32 → St2 → Prop} {v1 : Int32} (hU : U ≤ 8) (h : nh_PV U T N K V ln) (hp : ∀ r K' V' ln', nh_PV U T N K' V' ln' → post r (nI U, nI T, nI N, on, ok, fl, dp, tt, pr, K', V', ln', ue, dc, uu, ow, st, w, ch, no, ns, nr, es, nu, re, oT, oP)) : wpX_clearUnit post (nI U, nI T, nI N, on, ok, fl, dp, tt, pr, K, V, ln, ue, dc, uu, ow, st, w, ch, no, ns, nr, es, nu, re, oT, oP) v1 := by
  unfold wpX_clearUnit
  rcases pk_ix v1 (n := U) (by omega) with ho | ho | ⟨u, hu, rfl⟩
  · exact nx_hu0 hU (Or.inl ho) (br_t rfl (hp _ _ _ _ h))
  · exact nx_hu0 hU (Or.inr ho) (br_t rfl (hp _ _ _ _ h))
  · refine nx_hu1 hU hu (br_f (by decide) ⟨vp_in_nI (by omega) (by decide), ?_⟩)
    rw [nI_clamp (n := u) (by omega)]
    refine nm_e (hp _ _ _ _ ⟨nh_lnu (l := 0) h.1 (Nat.zero_le T), h.2.1, h.2.2.1, fun u' i' hu' hi' => ?_⟩)
    have hi2 : i' < nh_L (upd ln u (nI 0)) u' := hi'
    rw [nh_Lu (by omega)] at hi2
    by_cases e1 : u' = u
    · rw [if_pos e1] at hi2; omega
    · rw [if_neg e1] at hi2; exact h.2.2.2 u' i' hu' hi2
theorem nl_build {U T N : Nat} {on ok fl dp tt pr : Int32} {K V ln ue dc uu ow st w ch no ns nr es nu re oT oP : Nat → Int32} {post : Int32 → St2 → Prop} (hU : U ≤ 8) (hT : T ≤ 32) (hN : N ≤ 16) (h : nh_PV U T N K V ln) (hp : ∀ r on ok fl dp tt pr ue dc uu ow st w ch no ns nr es nu re oT oP, post r (nI U, nI T, nI N, on, ok, fl, dp, tt, pr, K, V, ln, ue, dc, uu, ow, st, w, ch, no, ns, nr, es, nu, re, oT, oP)) : wpX_build post (nI U, nI T, nI N, on, ok, fl, dp, tt, pr, K, V, ln, ue, dc, uu, ow, st, w, ch, no, ns, nr, es, nu, re, oT, oP) :=
  nx_build hU hN hT h.1 h.2.1 (fun on' ok' fl' dp' tt' pr' uu' no' ns' nr' es' nu' re' oT' oP' _ _ _ => hp _ _ _ _ _ _ _ _ _ _ _ _ _ _ _ _ _ _ _ _ _ _)
theorem nl_len {U T N : Nat} {on ok fl dp tt pr : Int32} {K V ln ue dc uu ow st w ch no ns nr es nu re oT oP : Nat → Int32} {post : Int32 → Prop} {v : Int32} (hU : U ≤ 8) (hln : ∀ u, ∃ l, l ≤ T ∧ ln u = nI l) (hp : ∀ r, (r = -1 ∨ ∃ l, l ≤ T ∧ r = nI l) → post r) : wpX_getLength post (nI U, nI T, nI N, on, ok, fl, dp, tt, pr, K, V, ln, ue, dc, uu, ow, st, w, ch, no, ns, nr, es, nu, re, oT, oP) v := by
  unfold wpX_getLength
  rcases pk_ix v (n := U) (by omega) with ho | ho | ⟨u, hu, rfl⟩
  · exact nx_hu0 hU (Or.inl ho) (br_t rfl (hp _ (Or.inl rfl)))
  · exact nx_hu0 hU (Or.inr ho) (br_t rfl (hp _ (Or.inl rfl)))
  · exact nx_hu1 hU hu (br_f (by decide) ⟨vp_in_nI (by omega) (by decide), hp _ (Or.inr (hln _))⟩)
