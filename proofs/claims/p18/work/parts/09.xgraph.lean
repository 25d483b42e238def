/-! 09: X's closure and what it decides from the graph -/
theorem nx_has {post : Int32 → Prop} {x : Int32} {n : Nat} (hn : n < 32) (h1 : bt x n = true → post 1) (h0 : bt x n = false → post 0) : wpX_contains post () x (nI n) :=
  br_c (fun h => h0 ((nh_has hn).mp h)) (fun h => h1 (nh_bf0 (fun h2 => h ((nh_has hn).mpr h2))))
theorem nh_uqN {K V : Nat → Int32} {Ln : Nat → Nat} {U N n m : Nat} (hTV : nh_TV N K V) (hN : N ≤ 16) (hm : m < 32) (h : nh_uq K V Ln U n m) : m < N := by
  obtain ⟨u, s, j, _, hu⟩ := h
  obtain ⟨q, hq, hv⟩ := hTV _ hu.2.2.2.1
  have e : m = q := nh_im (by rw [← hu.2.2.2.2, hv]) (by omega) (by omega)
  omega
theorem nx_fr45 {U T N : Nat} {on ok fl dp tt pr : Int32} {K V ln ue dc uu ow st w ch no ns nr es nu oT oP : Nat → Int32} {post : St2 → Prop} {J : Int32 → (Nat → Int32) → (Nat → Int32) → (Nat → Int32) → (Nat → Int32) → (Nat → Int32) → (Nat → Int32) → (Nat → Int32) → (Nat → Int32) → (Nat → Int32) → (Nat → Int32) → (Nat → Int32) → (Nat → Int32) → (Nat → Int32) → (Nat → Int32) → (Nat → Int32) → (Nat → Int32) → (Nat → Int32) → (Nat → Int32) → Prop}
    {O : Nat → Prop} {Q : Nat → Nat → Prop} {k : Nat} {re : Nat → Int32} (hN : N ≤ 16) (hk : k < N) (hR : nh_RR O Q N k re) (hJ : ∀ re', nh_RR O Q N (k + 1) re' → J (nI (k + 1)) K V ln ue dc uu ow st w ch no ns nr es nu re' oT oP) :
    ∃ n, wX_findReachedNames_45 post J (nI k) (nI U) (nI T) (nI N) on ok fl dp tt pr n 0 K V ln ue dc uu ow st w ch no ns nr es nu re oT oP := by
  refine loop_0 (σ := Nat → Int32) (fun n i s => wX_findReachedNames_45 post J (nI k) (nI U) (nI T) (nI N) on ok fl dp tt pr n (nI i) K V ln ue dc uu ow st w ch no ns nr es nu s oT oP) (fun i s => nh_RI O Q N k i s) N re (nh_RI0 hR) (fun n s h => ?_) (fun n i s hi h hs => ?_)
  · exact br_t (nI_le (Nat.le_refl N) (by omega)) (nm_r (nI_1 k) (hJ s (nh_RIe h)))
  · have h16 : vp_in (nI i) 16 := vp_in_nI (by omega) (by decide)
    have hk16 : vp_in (nI k) 16 := vp_in_nI (by omega) (by decide)
    refine br_f (nI_ge hi (by omega)) ⟨h16, ?_⟩
    rw [nI_clamp (n := i) (by omega)]
    refine nx_has (by omega) (fun hb => ?_) (fun hb => ?_)
    · refine br_f (by decide) ⟨h16, hk16, h16, ?_⟩
      rw [nI_clamp (n := k) (by omega)]
      exact nm_e (nm_r (nI_1 i) (hs _ (nh_RIt h hk hi hb)))
    · exact br_t rfl (nm_r (nI_1 i) (hs _ (nh_RIf h hk hi hb)))
theorem nx_fr35 {U T N : Nat} {on ok fl dp tt pr : Int32} {K V ln ue dc uu ow st w ch no ns nr es nu re oT oP : Nat → Int32} {post : St2 → Prop} {O : Nat → Prop} {Q : Nat → Nat → Prop} (hN : N ≤ 16) (hR : nh_RR O Q N 0 re) (hp : ∀ re', nh_RR O Q N N re' → post (nI U, nI T, nI N, on, ok, fl, dp, tt, pr, K, V, ln, ue, dc, uu, ow, st, w, ch, no, ns, nr, es, nu, re', oT, oP)) :
    ∃ n, wX_findReachedNames_35 post (nI U) (nI T) (nI N) on ok fl dp tt pr n 0 K V ln ue dc uu ow st w ch no ns nr es nu re oT oP := by
  refine loop_0 (σ := Nat → Int32) (fun n i s => wX_findReachedNames_35 post (nI U) (nI T) (nI N) on ok fl dp tt pr n (nI i) K V ln ue dc uu ow st w ch no ns nr es nu s oT oP) (fun i s => nh_RR O Q N i s) N re hR (fun n s h => ?_) (fun n i s hi h hs => ?_)
  · exact br_t (nI_le (Nat.le_refl N) (by omega)) (hp s h)
  · exact br_f (nI_ge hi (by omega)) (nx_fr45 hN hi h (fun re' h' => hs re' h'))
theorem nx_reach {U T N : Nat} {on ok fl dp tt pr : Int32} {K V ln ue dc uu ow st w ch no ns nr es nu re oT oP : Nat → Int32} {post : St2 → Prop} (hN : N ≤ 16) (hX : nh_XF K V (nh_L ln) U N no es nu on) (hp : ∀ re', nh_RR (nh_ow K V (nh_L ln) U) (nh_uq K V (nh_L ln) U) N N re' → post (nI U, nI T, nI N, on, ok, fl, dp, tt, pr, K, V, ln, ue, dc, uu, ow, st, w, ch, no, ns, nr, es, nu, re', oT, oP)) : wpX_findReachedNames post (nI U, nI T, nI N, on, ok, fl, dp, tt, pr, K, V, ln, ue, dc, uu, ow, st, w, ch, no, ns, nr, es, nu, re, oT, oP) := by
  refine loop_0 (σ := Nat → Int32) (fun n i s => wX_findReachedNames_2 post (nI U) (nI T) (nI N) on ok fl dp tt pr n (nI i) K V ln ue dc uu ow st w ch no ns nr es nu s oT oP) (fun i s => ∀ n, n < i → s n = (nu n &&& on)) N re (fun n h => absurd h (Nat.not_lt_zero n)) (fun n s h => ?_) (fun n i s hi h hs => ?_)
  · refine br_t (nI_le (Nat.le_refl N) (by omega)) (nx_fr35 hN (fun a c ha hc => ?_) hp)
    rw [h a ha, b_and, Bool.and_eq_true, (hX a ha).2.1 c (by omega), (hX c hc).1]
    exact ⟨fun h => ⟨h.1, (let ⟨u, s, _, hf, _⟩ := h.1; ⟨u, s, hf⟩), h.2⟩, fun h => ⟨h.1, h.2.2⟩⟩
  · have h16 : vp_in (nI i) 16 := vp_in_nI (by omega) (by decide)
    refine br_f (nI_ge hi (by omega)) ⟨h16, h16, ?_⟩
    rw [nI_clamp (n := i) (by omega)]
    refine nm_e (nm_r (nI_1 i) (hs _ (fun n hn => ?_)))
    by_cases e : n = i
    · rw [e, pk_us]
    · rw [pk_un e]; exact h n (by omega)
theorem nx_fail {U T N : Nat} {on ok fl dp tt pr : Int32} {K V ln ue dc uu ow st w ch no ns nr es nu re oT oP : Nat → Int32} {post : St2 → Prop} {n : Nat} {s : Int32} (hn : n < 16) (hp : post (nI U, nI T, nI N, on, ok, fl ||| ((1 : Int32) <<< (nI n &&& 31)), dp, tt, pr, K, V, ln, ue, dc, uu, ow, st, w, ch, no, upd ns n s, nr, es, nu, re, oT, oP)) : wpX_fail post (nI U, nI T, nI N, on, ok, fl, dp, tt, pr, K, V, ln, ue, dc, uu, ow, st, w, ch, no, ns, nr, es, nu, re, oT, oP) (nI n) s := by
  have hcn : (nI n).toNatClampNeg = n := nI_clamp (by omega)
  refine ⟨vp_in_nI hn (by decide), ?_⟩
  rw [hcn]
  exact nm_e (nm_e hp)
theorem nx_graph {U T N : Nat} {on ok fl dp tt pr : Int32} {K V ln ue dc uu ow st w ch no ns nr es nu re oT oP : Nat → Int32} {post : St2 → Prop} {i : Nat} (hN : N ≤ 16) (hTV : nh_TV N K V) (hX : nh_XF K V (nh_L ln) U N no es nu on) (hR : nh_RR (nh_ow K V (nh_L ln) U) (nh_uq K V (nh_L ln) U) N N re) (hi : i < N)
    (hG : nh_XG (nh_ow K V (nh_L ln) U) (nh_uq K V (nh_L ln) U) N i ns nr fl) (hp : ∀ ns' nr' fl', nh_XG (nh_ow K V (nh_L ln) U) (nh_uq K V (nh_L ln) U) N (i + 1) ns' nr' fl' → post (nI U, nI T, nI N, on, ok, fl', dp, tt, pr, K, V, ln, ue, dc, uu, ow, st, w, ch, no, ns', nr', es, nu, re, oT, oP)) : wpX_decideFromGraph post (nI U, nI T, nI N, on, ok, fl, dp, tt, pr, K, V, ln, ue, dc, uu, ow, st, w, ch, no, ns, nr, es, nu, re, oT, oP) (nI i) := by
  have hci : (nI i).toNatClampNeg = i := nI_clamp (by omega)
  have h16 : vp_in (nI i) 16 := vp_in_nI (by omega) (by decide)
  refine ⟨h16, ?_⟩
  rw [hci]
  refine nm_e (nx_has (by omega) (fun ho => ?_) (fun ho => ?_))
  · have hO := (hX i hi).1.mp ho
    refine br_f (by decide) ⟨h16, nx_has (by omega) (fun hr => ?_) (fun hr => ?_)⟩
    · have hr1 := (hR i i hi hi).mp hr
      exact br_f (by decide) (nx_fail (by omega) (hp _ _ _ (nh_XGf hG hN hi (Or.inr (Or.inl ⟨hO, hr1, rfl⟩)) (Or.inr rfl))))
    · have hr1 : ¬ nh_rl (nh_ow K V (nh_L ln) U) (nh_uq K V (nh_L ln) U) N i i := fun h => by rw [(hR i i hi hi).mpr h] at hr; exact absurd hr (by decide)
      refine br_t rfl ⟨h16, br_c (fun h => ?_) (fun h => ?_)⟩
      · have h1 := nh_anz.mp h
        refine ⟨h16, nm_e (hp _ _ _ (nh_XGs hG (Or.inr (Or.inr (Or.inr ⟨⟨hO, hr1, fun m hm hq => ?_⟩, rfl⟩))) (by decide) (by decide)))⟩
        exact (hX m hm).1.mp (h1 m (by omega) (((hX i hi).2.1 m (by omega)).mpr hq))
      · refine nx_fail (by omega) (hp _ _ _ (nh_XGf hG hN hi (Or.inr (Or.inr (Or.inl ⟨hO, hr1, ?_, rfl⟩))) (Or.inl rfl)))
        rcases Classical.em (∃ m, m < N ∧ nh_uq K V (nh_L ln) U i m ∧ ¬ nh_ow K V (nh_L ln) U m) with h2 | h2
        · exact h2
        · refine absurd (nh_anz.mpr (fun m hm hb => ?_)) h
          have hq := ((hX i hi).2.1 m hm).mp hb
          have hmN := nh_uqN hTV hN hm hq
          refine (hX m hmN).1.mpr ?_
          rcases Classical.em (nh_ow K V (nh_L ln) U m) with h3 | h3
          · exact h3
          · exact absurd ⟨m, hmN, hq, h3⟩ h2
  · have hO : ¬ nh_ow K V (nh_L ln) U i := fun h => by rw [(hX i hi).1.mpr h] at ho; exact absurd ho (by decide)
    exact br_t rfl ⟨h16, nm_e (hp _ _ _ (nh_XGs hG (Or.inl ⟨hO, rfl⟩) (by decide) (by decide)))⟩
