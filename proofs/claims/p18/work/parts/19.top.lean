/-! 19: the owed statement -/
theorem nl_93 {U T N : Nat} {on ok fl dp tt pr : Int32} {K V ln ue dc uu ow st w ch no ns nr es nu re oT oP : Nat → Int32} {L : Nat} {xs : Nat → Int32} {x1 x2 x3 : Int32} {M : Nat} (hL : L ≤ 260) (hU : U ≤ 8) (hT : T ≤ 32) (hN4 : 4 ≤ N) (hN : N ≤ 16) (hM : M ≤ 60)
    (xU : ∀ post : Int32 → Prop, post (nI U) → wpX_clamp post () x1 2 8) (xT : ∀ post : Int32 → Prop, post (nI T) → wpX_clamp post () x2 8 32) (xN : ∀ post : Int32 → Prop, post (nI N) → wpX_clamp post () x3 4 16)
    (h : nh_PV U T N K V ln) : wL_law_93 (fun r => r = 1) L xs x1 x2 x3 (nI U) (nI N) (nI M) (1 + 18) (27 + 768) (nI U) (nI T) (nI N) on ok fl dp tt pr K V ln ue dc uu ow st w ch no ns nr es nu re oT oP := by
  refine nl_cell (q := 3) hL (by decide) (fun r => ?_)
  rw [nI_1 M]
  refine nl_modr (by omega) (by omega) (fun P hP => ⟨2 + 1, ?_⟩)
  refine br_f (by decide) (br_t rfl (br_t rfl ⟨P + 1, ?_⟩))
  refine nl_147a hL hU hT hN4 hN (by omega) (by omega) (by omega) xU xT xN (fun on ok fl dp tt pr K V ln ue dc uu ow st w ch no ns nr es nu re oT oP on' ok' fl' dp' tt' pr' K' V' ln' ue' dc' uu' ow' st' w' ch' no' ns' nr' es' nu' re' oT' oP' h1 hR => ?_) P 0 (P + 1) _ _ _ _ _ _ _ _ _ _ _ _ _ _ _ _ _ _ _ _ _ _ _ _ (by omega) (by omega) h
  have hB : wL_law_110 (fun r => r = 1) L xs (1 + 1) (.inr (x1, x2, x3, nI U, nI N, nI M, nI P, 1, 1 + 18 + 1 + 18, 27 + 768 + 27 + 768, nI U, nI T, nI N, on, ok, fl, dp, tt, pr, K, V, ln, ue, dc, uu, ow, st, w, ch, no, ns, nr, es, nu, re, oT, oP, nI U, nI T, nI N, on', ok', fl', dp', tt', pr', K', V', ln', ue', dc', uu', ow', st', w', ch', no', ns', nr', es', nu', re', oT', oP')) := by
    refine br_f (by decide) (br_f (by decide) (br_f (by decide) ⟨M - P + 1, ?_⟩))
    refine nl_147b hL hU hT hN4 hN hM hR (fun K2 V2 ln2 => ?_) (M - P) P (M - P + 1) K V ln (by omega) (by omega) h1
    have hC : wL_law_110 (fun r => r = 1) L xs (0 + 1) (.inr (x1, x2, x3, nI U, nI N, nI M, nI P, 2, 1 + 18 + 1 + 18, 27 + 768 + 27 + 768, nI U, nI T, nI N, on, ok, fl, dp, tt, pr, K2, V2, ln2, ue, dc, uu, ow, st, w, ch, no, ns, nr, es, nu, re, oT, oP, nI U, nI T, nI N, on', ok', fl', dp', tt', pr', K', V', ln', ue', dc', uu', ow', st', w', ch', no', ns', nr', es', nu', re', oT', oP')) := br_t (by decide) rfl
    exact hC
  exact hB
theorem i_vc (xs : Nat → Int32) (L : Nat) (hL : L ≤ 260) : wpL_law (fun r => r = 1) L xs := by
  unfold wpL_law
  refine nl_cell (q := 0) hL (by decide) (fun r1 => nl_mod (by decide) (fun a => nl_cell (q := 1) hL (by decide) (fun r3 => nl_mod (by decide) (fun b => nl_cell (q := 2) hL (by decide) (fun r5 => nl_mod (by decide) (fun c => ?_))))))
  obtain ⟨U, hU1, hU2, xU, yU⟩ := nl_clamp a 2 8 (by decide) (by decide)
  obtain ⟨T, hT1, hT2, xT, yT⟩ := nl_clamp b 8 32 (by decide) (by decide)
  obtain ⟨N, hN1, hN2, xN, yN⟩ := nl_clamp c 4 16 (by decide) (by decide)
  refine yU _ (yN _ ⟨18, 768, by omega, by omega, ?_⟩)
  refine nl_init xU xT xN (fun on ok fl dp tt pr ue dc uu ow st w ch no ns nr es nu re oT oP => ⟨by decide, fun x8 _ => ?_⟩)
  refine br_c (fun h0 => br_c (fun h60 => ?_) (fun _ => ?_)) (fun _ => br_t (by decide) ?_)
  · obtain ⟨M, hM, rfl⟩ := nI_of2 (M := 60) (n := 60) (by decide) (Int32.not_lt.mpr h0) h60
    exact nl_93 hL hU2 hT2 hN1 hN2 hM xU xT xN nh_PV0
  · exact nl_93 (M := 60) hL hU2 hT2 hN1 hN2 (by omega) xU xT xN nh_PV0
  · exact nl_93 (M := 0) hL hU2 hT2 hN1 hN2 (by omega) xU xT xN nh_PV0
