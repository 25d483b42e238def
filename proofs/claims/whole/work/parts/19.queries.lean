/-! 19: build and the queries -/
theorem i_vc_build {k : Nat} {u : SX} {v : SY} (I : i_Rel k u v) (hk : k + 5 ≤ 2563) : wpX_build (fun r u' => wpY_build (fun r' v' => r' = r ∧ i_Rel (k + 5) u' v') v) u := by
  obtain ⟨U, T, N, on, ok, fl, dp, tt, pr, K, V, ln, ue, dc, uu, ow, st, w, ch, no, ns, nr, es, nu, re, oT, oP, us, ds, po, ps, pv, rc, rd, fS, fP, fN, rfl, rfl, h⟩ := I
  obtain ⟨⟨hU2, hU⟩, ⟨hT8, hT⟩, ⟨hN4, hN⟩, hln, hTV, hus, hue⟩ := id h
  refine nx_build hU hN hT hln hTV (fun on' ok' fl' dp' tt' pr' uu' no' ns' nr' es' nu' re' oT' oP' hb hOS hsol => ?_)
  refine ny_build hU hN hT hln hTV hOS hsol (fun us' ds' po' ps' pv' rc' rd' fS' fP' fN' hr => ⟨rfl, nh_mkR ⟨⟨hU2, hU⟩, ⟨hT8, hT⟩, ⟨hN4, hN⟩, hln, hTV, fun u m hu hm => ?_, fun u hu he => ?_⟩⟩)
  · rcases hr u hu m (by omega) with ⟨h1, h2⟩ | ⟨h1, h2⟩
    · rw [h1, if_pos ((hb u hu m (by omega)).mpr h2)]
    · rw [h1, if_neg (fun h3 => h2 ((hb u hu m (by omega)).mp h3))]
  · rw [nh_mxl hu] at he
    refine nh_z.mpr (fun m hm => nh_bt0 (fun h3 => ?_))
    exact he ((hb u hu m hm).mp h3).1
theorem i_vc_getLength {k : Nat} {u : SX} {v : SY} (I : i_Rel k u v) (hk : k + 5 ≤ 2563) (v1 : Int32) : wpX_getLength (fun r => wpY_getLength (fun r' => r' = r ∧ i_Rel (k + 5) u v) v v1) u v1 := by
  obtain ⟨U, T, N, on, ok, fl, dp, tt, pr, K, V, ln, ue, dc, uu, ow, st, w, ch, no, ns, nr, es, nu, re, oT, oP, us, ds, po, ps, pv, rc, rd, fS, fP, fN, rfl, rfl, h⟩ := I
  obtain ⟨⟨hU2, hU⟩, ⟨hT8, hT⟩, ⟨hN4, hN⟩, hln, hTV, hus, hue⟩ := id h
  unfold wpX_getLength
  rcases pk_ix v1 (n := U) (by omega) with ho | ho | ⟨u, hu, rfl⟩
  · refine nx_hu0 hU (Or.inl ho) (br_t rfl ?_)
    unfold wpY_getLength
    exact ny_bu0 hU (Or.inl ho) (br_f (by decide) ⟨rfl, nh_mkR h⟩)
  · refine nx_hu0 hU (Or.inr ho) (br_t rfl ?_)
    unfold wpY_getLength
    exact ny_bu0 hU (Or.inr ho) (br_f (by decide) ⟨rfl, nh_mkR h⟩)
  · have h8 : vp_in (nI u) 8 := vp_in_nI (by omega) (by decide)
    refine nx_hu1 hU hu (br_f (by decide) ⟨h8, ?_⟩)
    unfold wpY_getLength
    exact ny_bu1 hU hu (br_t rfl ⟨h8, rfl, nh_mkR h⟩)
theorem i_vc_getUnitError {k : Nat} {u : SX} {v : SY} (I : i_Rel k u v) (hk : k + 5 ≤ 2563) (v1 : Int32) : wpX_getUnitError (fun r => wpY_getUnitError (fun r' => r' = r ∧ i_Rel (k + 5) u v) v v1) u v1 := by
  obtain ⟨U, T, N, on, ok, fl, dp, tt, pr, K, V, ln, ue, dc, uu, ow, st, w, ch, no, ns, nr, es, nu, re, oT, oP, us, ds, po, ps, pv, rc, rd, fS, fP, fN, rfl, rfl, h⟩ := I
  obtain ⟨⟨hU2, hU⟩, ⟨hT8, hT⟩, ⟨hN4, hN⟩, hln, hTV, hus, hue⟩ := id h
  unfold wpX_getUnitError
  rcases pk_ix v1 (n := U) (by omega) with ho | ho | ⟨u, hu, rfl⟩
  · refine nx_hu0 hU (Or.inl ho) (br_t rfl ?_)
    unfold wpY_getUnitError
    exact ny_bu0 hU (Or.inl ho) (br_f (by decide) ⟨rfl, nh_mkR h⟩)
  · refine nx_hu0 hU (Or.inr ho) (br_t rfl ?_)
    unfold wpY_getUnitError
    exact ny_bu0 hU (Or.inr ho) (br_f (by decide) ⟨rfl, nh_mkR h⟩)
  · have h8 : vp_in (nI u) 8 := vp_in_nI (by omega) (by decide)
    refine nx_hu1 hU hu (br_f (by decide) ⟨h8, ?_⟩)
    unfold wpY_getUnitError
    exact ny_bu1 hU hu (br_t rfl ⟨h8, rfl, nh_mkR h⟩)
theorem i_vc_getDefCount {k : Nat} {u : SX} {v : SY} (I : i_Rel k u v) (hk : k + 5 ≤ 2563) (v1 : Int32) : wpX_getDefCount (fun r => wpY_getDefCount (fun r' => r' = r ∧ i_Rel (k + 5) u v) v v1) u v1 := by
  obtain ⟨U, T, N, on, ok, fl, dp, tt, pr, K, V, ln, ue, dc, uu, ow, st, w, ch, no, ns, nr, es, nu, re, oT, oP, us, ds, po, ps, pv, rc, rd, fS, fP, fN, rfl, rfl, h⟩ := I
  obtain ⟨⟨hU2, hU⟩, ⟨hT8, hT⟩, ⟨hN4, hN⟩, hln, hTV, hus, hue⟩ := id h
  unfold wpX_getDefCount
  rcases pk_ix v1 (n := U) (by omega) with ho | ho | ⟨u, hu, rfl⟩
  · refine nx_hu0 hU (Or.inl ho) (br_t rfl ?_)
    unfold wpY_getDefCount
    exact ny_bu0 hU (Or.inl ho) (br_f (by decide) ⟨rfl, nh_mkR h⟩)
  · refine nx_hu0 hU (Or.inr ho) (br_t rfl ?_)
    unfold wpY_getDefCount
    exact ny_bu0 hU (Or.inr ho) (br_f (by decide) ⟨rfl, nh_mkR h⟩)
  · have h8 : vp_in (nI u) 8 := vp_in_nI (by omega) (by decide)
    refine nx_hu1 hU hu (br_f (by decide) ⟨h8, ?_⟩)
    unfold wpY_getDefCount
    exact ny_bu1 hU hu (br_t rfl ⟨h8, rfl, nh_mkR h⟩)
theorem i_vc_getTokenKind {k : Nat} {u : SX} {v : SY} (I : i_Rel k u v) (hk : k + 5 ≤ 2563) (v1 : Int32) (v2 : Int32) : wpX_getTokenKind (fun r => wpY_getTokenKind (fun r' => r' = r ∧ i_Rel (k + 5) u v) v v1 v2) u v1 v2 := by
  obtain ⟨U, T, N, on, ok, fl, dp, tt, pr, K, V, ln, ue, dc, uu, ow, st, w, ch, no, ns, nr, es, nu, re, oT, oP, us, ds, po, ps, pv, rc, rd, fS, fP, fN, rfl, rfl, h⟩ := I
  obtain ⟨⟨hU2, hU⟩, ⟨hT8, hT⟩, ⟨hN4, hN⟩, hln, hTV, hus, hue⟩ := id h
  unfold wpX_getTokenKind
  rcases pk_ix v1 (n := U) (by omega) with ho | ho | ⟨u, hu, rfl⟩
  · refine nx_htu hU (Or.inl ho) (br_t rfl ?_)
    unfold wpY_getTokenKind
    exact ny_bu0 hU (Or.inl ho) (br_f (by decide) ⟨rfl, nh_mkR h⟩)
  · refine nx_htu hU (Or.inr ho) (br_t rfl ?_)
    unfold wpY_getTokenKind
    exact ny_bu0 hU (Or.inr ho) (br_f (by decide) ⟨rfl, nh_mkR h⟩)
  · have h8 : vp_in (nI u) 8 := vp_in_nI (by omega) (by decide)
    have hcu : (nI u).toNatClampNeg = u := nI_clamp (by omega)
    obtain ⟨L, hL, hl⟩ := hln u
    rcases pk_ix v2 (n := L) (by omega) with ho | ho | ⟨i, hi, rfl⟩
    · refine nx_ht0 hU hu hl (by omega) (Or.inl ho) (br_t rfl ?_)
      unfold wpY_getTokenKind
      exact ny_bu1 hU hu (br_t rfl (br_t ho ⟨rfl, nh_mkR h⟩))
    · refine nx_ht0 hU hu hl (by omega) (Or.inr ho) (br_t rfl ?_)
      unfold wpY_getTokenKind
      refine ny_bu1 hU hu (br_t rfl (br_f (nh_nn (by omega) ho) ⟨h8, ?_⟩))
      rw [hcu, hl]
      exact br_f (Int32.not_lt.mpr ho) ⟨rfl, nh_mkR h⟩
    · have hin : vp_in (nI u * 32 + nI i) 256 := by rw [nh_c32]; exact vp_in_nI (by omega) (by decide)
      refine nx_ht1 hU hu hl (by omega) hi (br_f (by decide) ⟨hin, ?_⟩)
      unfold wpY_getTokenKind
      refine ny_bu1 hU hu (br_t rfl (br_f (nI_pos (by omega)) ⟨h8, ?_⟩))
      rw [hcu, hl]
      exact br_t (nI_lt hi (by omega)) ⟨hin, rfl, nh_mkR h⟩
theorem i_vc_getTokenValue {k : Nat} {u : SX} {v : SY} (I : i_Rel k u v) (hk : k + 5 ≤ 2563) (v1 : Int32) (v2 : Int32) : wpX_getTokenValue (fun r => wpY_getTokenValue (fun r' => r' = r ∧ i_Rel (k + 5) u v) v v1 v2) u v1 v2 := by
  obtain ⟨U, T, N, on, ok, fl, dp, tt, pr, K, V, ln, ue, dc, uu, ow, st, w, ch, no, ns, nr, es, nu, re, oT, oP, us, ds, po, ps, pv, rc, rd, fS, fP, fN, rfl, rfl, h⟩ := I
  obtain ⟨⟨hU2, hU⟩, ⟨hT8, hT⟩, ⟨hN4, hN⟩, hln, hTV, hus, hue⟩ := id h
  unfold wpX_getTokenValue
  rcases pk_ix v1 (n := U) (by omega) with ho | ho | ⟨u, hu, rfl⟩
  · refine nx_htu hU (Or.inl ho) (br_t rfl ?_)
    unfold wpY_getTokenValue
    exact ny_bu0 hU (Or.inl ho) (br_f (by decide) ⟨rfl, nh_mkR h⟩)
  · refine nx_htu hU (Or.inr ho) (br_t rfl ?_)
    unfold wpY_getTokenValue
    exact ny_bu0 hU (Or.inr ho) (br_f (by decide) ⟨rfl, nh_mkR h⟩)
  · have h8 : vp_in (nI u) 8 := vp_in_nI (by omega) (by decide)
    have hcu : (nI u).toNatClampNeg = u := nI_clamp (by omega)
    obtain ⟨L, hL, hl⟩ := hln u
    rcases pk_ix v2 (n := L) (by omega) with ho | ho | ⟨i, hi, rfl⟩
    · refine nx_ht0 hU hu hl (by omega) (Or.inl ho) (br_t rfl ?_)
      unfold wpY_getTokenValue
      exact ny_bu1 hU hu (br_t rfl (br_t ho ⟨rfl, nh_mkR h⟩))
    · refine nx_ht0 hU hu hl (by omega) (Or.inr ho) (br_t rfl ?_)
      unfold wpY_getTokenValue
      refine ny_bu1 hU hu (br_t rfl (br_f (nh_nn (by omega) ho) ⟨h8, ?_⟩))
      rw [hcu, hl]
      exact br_f (Int32.not_lt.mpr ho) ⟨rfl, nh_mkR h⟩
    · have hin : vp_in (nI u * 32 + nI i) 256 := by rw [nh_c32]; exact vp_in_nI (by omega) (by decide)
      refine nx_ht1 hU hu hl (by omega) hi (br_f (by decide) ⟨hin, ?_⟩)
      unfold wpY_getTokenValue
      refine ny_bu1 hU hu (br_t rfl (br_f (nI_pos (by omega)) ⟨h8, ?_⟩))
      rw [hcu, hl]
      exact br_t (nI_lt hi (by omega)) ⟨hin, rfl, nh_mkR h⟩
theorem i_vc_getOwner {k : Nat} {u : SX} {v : SY} (I : i_Rel k u v) (hk : k + 5 ≤ 2563) (v1 : Int32) : wpX_getOwner (fun r => wpY_getOwner (fun r' => r' = r ∧ i_Rel (k + 5) u v) v v1) u v1 := by
  obtain ⟨U, T, N, on, ok, fl, dp, tt, pr, K, V, ln, ue, dc, uu, ow, st, w, ch, no, ns, nr, es, nu, re, oT, oP, us, ds, po, ps, pv, rc, rd, fS, fP, fN, rfl, rfl, h⟩ := I
  obtain ⟨⟨hU2, hU⟩, ⟨hT8, hT⟩, ⟨hN4, hN⟩, hln, hTV, hus, hue⟩ := id h
  unfold wpX_getOwner
  rcases pk_ix v1 (n := N) (by omega) with ho | ho | ⟨n, hn, rfl⟩
  · exact nx_hn0 hN (Or.inl ho) (br_t rfl (br_t ho ⟨rfl, nh_mkR h⟩))
  · exact nx_hn0 hN (Or.inr ho) (br_t rfl (br_f (nh_nn (by omega) ho) (br_f (Int32.not_lt.mpr ho) ⟨rfl, nh_mkR h⟩)))
  · have h16 : vp_in (nI n) 16 := vp_in_nI (by omega) (by decide)
    exact nx_hn1 hN hn (br_f (by decide) ⟨h16, br_f (nI_pos (by omega)) (br_t (nI_lt hn (by omega)) ⟨h16, rfl, nh_mkR h⟩)⟩)
theorem i_vc_getStatus {k : Nat} {u : SX} {v : SY} (I : i_Rel k u v) (hk : k + 5 ≤ 2563) (v1 : Int32) : wpX_getStatus (fun r => wpY_getStatus (fun r' => r' = r ∧ i_Rel (k + 5) u v) v v1) u v1 := by
  obtain ⟨U, T, N, on, ok, fl, dp, tt, pr, K, V, ln, ue, dc, uu, ow, st, w, ch, no, ns, nr, es, nu, re, oT, oP, us, ds, po, ps, pv, rc, rd, fS, fP, fN, rfl, rfl, h⟩ := I
  obtain ⟨⟨hU2, hU⟩, ⟨hT8, hT⟩, ⟨hN4, hN⟩, hln, hTV, hus, hue⟩ := id h
  unfold wpX_getStatus
  rcases pk_ix v1 (n := N) (by omega) with ho | ho | ⟨n, hn, rfl⟩
  · exact nx_hn0 hN (Or.inl ho) (br_t rfl (br_t ho ⟨rfl, nh_mkR h⟩))
  · exact nx_hn0 hN (Or.inr ho) (br_t rfl (br_f (nh_nn (by omega) ho) (br_f (Int32.not_lt.mpr ho) ⟨rfl, nh_mkR h⟩)))
  · have h16 : vp_in (nI n) 16 := vp_in_nI (by omega) (by decide)
    exact nx_hn1 hN hn (br_f (by decide) ⟨h16, br_f (nI_pos (by omega)) (br_t (nI_lt hn (by omega)) ⟨h16, rfl, nh_mkR h⟩)⟩)
theorem i_vc_getValue {k : Nat} {u : SX} {v : SY} (I : i_Rel k u v) (hk : k + 5 ≤ 2563) (v1 : Int32) : wpX_getValue (fun r => wpY_getValue (fun r' => r' = r ∧ i_Rel (k + 5) u v) v v1) u v1 := by
  obtain ⟨U, T, N, on, ok, fl, dp, tt, pr, K, V, ln, ue, dc, uu, ow, st, w, ch, no, ns, nr, es, nu, re, oT, oP, us, ds, po, ps, pv, rc, rd, fS, fP, fN, rfl, rfl, h⟩ := I
  obtain ⟨⟨hU2, hU⟩, ⟨hT8, hT⟩, ⟨hN4, hN⟩, hln, hTV, hus, hue⟩ := id h
  unfold wpX_getValue
  rcases pk_ix v1 (n := N) (by omega) with ho | ho | ⟨n, hn, rfl⟩
  · exact nx_hn0 hN (Or.inl ho) (br_t rfl (br_t ho ⟨rfl, nh_mkR h⟩))
  · exact nx_hn0 hN (Or.inr ho) (br_t rfl (br_f (nh_nn (by omega) ho) (br_f (Int32.not_lt.mpr ho) ⟨rfl, nh_mkR h⟩)))
  · have h16 : vp_in (nI n) 16 := vp_in_nI (by omega) (by decide)
    exact nx_hn1 hN hn (br_f (by decide) ⟨h16, br_f (nI_pos (by omega)) (br_t (nI_lt hn (by omega)) ⟨h16, rfl, nh_mkR h⟩)⟩)
theorem i_vc_isChanged {k : Nat} {u : SX} {v : SY} (I : i_Rel k u v) (hk : k + 5 ≤ 2563) (v1 : Int32) : wpX_isChanged (fun r => wpY_isChanged (fun r' => r' = r ∧ i_Rel (k + 5) u v) v v1) u v1 := by
  obtain ⟨U, T, N, on, ok, fl, dp, tt, pr, K, V, ln, ue, dc, uu, ow, st, w, ch, no, ns, nr, es, nu, re, oT, oP, us, ds, po, ps, pv, rc, rd, fS, fP, fN, rfl, rfl, h⟩ := I
  obtain ⟨⟨hU2, hU⟩, ⟨hT8, hT⟩, ⟨hN4, hN⟩, hln, hTV, hus, hue⟩ := id h
  unfold wpX_isChanged
  rcases pk_ix v1 (n := N) (by omega) with ho | ho | ⟨n, hn, rfl⟩
  · exact nx_hn0 hN (Or.inl ho) (br_t rfl (br_t ho ⟨rfl, nh_mkR h⟩))
  · exact nx_hn0 hN (Or.inr ho) (br_t rfl (br_f (nh_nn (by omega) ho) (br_t ho ⟨rfl, nh_mkR h⟩)))
  · have h16 : vp_in (nI n) 16 := vp_in_nI (by omega) (by decide)
    refine nx_hn1 hN hn (br_f (by decide) ⟨h16, br_c (fun hc => ?_) (fun hc => ?_)⟩)
    · exact br_f (nI_pos (by omega)) (br_f (nI_ge hn (by omega)) ⟨h16, br_t hc ⟨rfl, nh_mkR h⟩⟩)
    · exact br_f (nI_pos (by omega)) (br_f (nI_ge hn (by omega)) ⟨h16, br_f hc ⟨rfl, nh_mkR h⟩⟩)
theorem i_vc_usesName {k : Nat} {u : SX} {v : SY} (I : i_Rel k u v) (hk : k + 5 ≤ 2563) (v1 : Int32) (v2 : Int32) : wpX_usesName (fun r => wpY_usesName (fun r' => r' = r ∧ i_Rel (k + 5) u v) v v1 v2) u v1 v2 := by
  obtain ⟨U, T, N, on, ok, fl, dp, tt, pr, K, V, ln, ue, dc, uu, ow, st, w, ch, no, ns, nr, es, nu, re, oT, oP, us, ds, po, ps, pv, rc, rd, fS, fP, fN, rfl, rfl, h⟩ := I
  obtain ⟨⟨hU2, hU⟩, ⟨hT8, hT⟩, ⟨hN4, hN⟩, hln, hTV, hus, hue⟩ := id h
  unfold wpX_usesName
  rcases pk_ix v1 (n := U) (by omega) with ho | ho | ⟨u, hu, rfl⟩
  · refine nx_hu0 hU (Or.inl ho) (br_t rfl ?_)
    unfold wpY_usesName
    exact ny_bu0 hU (Or.inl ho) (br_f (by decide) ⟨rfl, nh_mkR h⟩)
  · refine nx_hu0 hU (Or.inr ho) (br_t rfl ?_)
    unfold wpY_usesName
    exact ny_bu0 hU (Or.inr ho) (br_f (by decide) ⟨rfl, nh_mkR h⟩)
  · have h8 : vp_in (nI u) 8 := vp_in_nI (by omega) (by decide)
    have hcu : (nI u).toNatClampNeg = u := nI_clamp (by omega)
    refine nx_hu1 hU hu (br_f (by decide) ?_)
    rcases pk_ix v2 (n := N) (by omega) with ho | ho | ⟨m, hm, rfl⟩
    · refine nx_hn0 hN (Or.inl ho) (br_t rfl ?_)
      unfold wpY_usesName
      exact ny_bu1 hU hu (br_t rfl (br_t ho ⟨rfl, nh_mkR h⟩))
    · refine nx_hn0 hN (Or.inr ho) (br_t rfl ?_)
      unfold wpY_usesName
      exact ny_bu1 hU hu (br_t rfl (br_f (nh_nn (by omega) ho) (br_t ho ⟨rfl, nh_mkR h⟩)))
    · have hin : vp_in (nI u * 16 + nI m) 128 := by rw [nh_c16]; exact vp_in_nI (by omega) (by decide)
      have hu16 := hus u m hu hm
      refine nx_hn1 hN hm (br_f (by decide) ⟨h8, ?_⟩)
      rw [hcu]
      refine nx_has (by omega) (fun hb => br_f (by decide) ?_) (fun hb => br_t rfl ?_)
      · rw [if_pos hb] at hu16
        unfold wpY_usesName
        refine ny_bu1 hU hu (br_t rfl (br_f (nI_pos (by omega)) (br_f (nI_ge hm (by omega)) ⟨h8, ?_⟩)))
        rw [hcu, nh_c16, nI_clamp (n := u * 16 + m) (by omega), hu16]
        refine br_c (fun _ => ⟨vp_in_nI (by omega) (by decide), rfl, rfl, nh_mkR h⟩) (fun he => ?_)
        rw [hue u hu he, b_0] at hb
        exact absurd hb (by decide)
      · rw [if_neg (by rw [hb]; decide)] at hu16
        unfold wpY_usesName
        refine ny_bu1 hU hu (br_t rfl (br_f (nI_pos (by omega)) (br_f (nI_ge hm (by omega)) ⟨h8, ?_⟩)))
        rw [hcu, nh_c16, nI_clamp (n := u * 16 + m) (by omega), hu16]
        exact br_c (fun _ => ⟨vp_in_nI (by omega) (by decide), rfl, rfl, nh_mkR h⟩) (fun he => ⟨rfl, nh_mkR h⟩)
