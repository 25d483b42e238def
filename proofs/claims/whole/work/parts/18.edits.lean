/-! 18: the relation; edits -/
/-- sizes, tokens, lengths and results are the same on both sides; the uses agree bit by bit -/
def i_Rel (_ : Nat) (u : SX) (v : SY) : Prop :=
  ∃ (U T N : Nat) (on ok fl dp tt pr : Int32) (K V ln ue dc uu ow st w ch no ns nr es nu re oT oP us ds po ps pv rc rd fS fP fN : Nat → Int32), u = (nI U, nI T, nI N, on, ok, fl, dp, tt, pr, K, V, ln, ue, dc, uu, ow, st, w, ch, no, ns, nr, es, nu, re, oT, oP) ∧ v = (nI U, nI T, nI N, K, V, ln, ue, dc, us, ow, st, w, ch, ds, po, ps, pv, rc, rd, fS, fP, fN) ∧ nh_Rel U T N K V ln ue uu us
theorem i_up {k : Nat} {u : SX} {v : SY} (h : i_Rel k u v) : i_Rel (k + 5) u v := h
theorem nh_mkR {k : Nat} {U T N : Nat} {on ok fl dp tt pr : Int32} {K V ln ue dc uu ow st w ch no ns nr es nu re oT oP : Nat → Int32} {us ds po ps pv rc rd fS fP fN : Nat → Int32} (h : nh_Rel U T N K V ln ue uu us) : i_Rel k (nI U, nI T, nI N, on, ok, fl, dp, tt, pr, K, V, ln, ue, dc, uu, ow, st, w, ch, no, ns, nr, es, nu, re, oT, oP) (nI U, nI T, nI N, K, V, ln, ue, dc, us, ow, st, w, ch, ds, po, ps, pv, rc, rd, fS, fP, fN) :=
  ⟨U, T, N, on, ok, fl, dp, tt, pr, K, V, ln, ue, dc, uu, ow, st, w, ch, no, ns, nr, es, nu, re, oT, oP, us, ds, po, ps, pv, rc, rd, fS, fP, fN, rfl, rfl, h⟩
theorem nh_RT {U T N : Nat} {K V ln ue uu us K' V' ln' : Nat → Int32} (h : nh_Rel U T N K V ln ue uu us) (h1 : nh_TV N K' V') (h2 : ∀ u, ∃ l, l ≤ T ∧ ln' u = nI l) : nh_Rel U T N K' V' ln' ue uu us :=
  ⟨h.1, h.2.1, h.2.2.1, h2, h1, h.2.2.2.2.2⟩
theorem nh_lnu {T u l : Nat} {ln : Nat → Int32} (h : ∀ u, ∃ l, l ≤ T ∧ ln u = nI l) (hl : l ≤ T) : ∀ u', ∃ l', l' ≤ T ∧ upd ln u (nI l) u' = nI l' := by
  intro u'
  by_cases e : u' = u
  · rw [e, pk_us]; exact ⟨l, hl, rfl⟩
  · rw [pk_un e]; exact h u'
theorem i_vc_append {k : Nat} {u : SX} {v : SY} (I : i_Rel k u v) (hk : k + 5 ≤ 2563) (v1 : Int32) (v2 : Int32) (v3 : Int32) : wpX_append (fun r u' => wpY_append (fun r' v' => r' = r ∧ i_Rel (k + 5) u' v') v v1 v2 v3) u v1 v2 v3 := by
  obtain ⟨U, T, N, on, ok, fl, dp, tt, pr, K, V, ln, ue, dc, uu, ow, st, w, ch, no, ns, nr, es, nu, re, oT, oP, us, ds, po, ps, pv, rc, rd, fS, fP, fN, rfl, rfl, h⟩ := I
  obtain ⟨⟨hU2, hU⟩, ⟨hT8, hT⟩, ⟨hN4, hN⟩, hln, hTV, _⟩ := id h
  unfold wpX_append
  rcases pk_ix v1 (n := U) (by omega) with ho | ho | ⟨u, hu, rfl⟩
  · refine nx_hu0 hU (Or.inl ho) (br_t rfl ?_)
    unfold wpY_append
    exact ny_bu0 hU (Or.inl ho) (br_f (by decide) ⟨rfl, nh_mkR h⟩)
  · refine nx_hu0 hU (Or.inr ho) (br_t rfl ?_)
    unfold wpY_append
    exact ny_bu0 hU (Or.inr ho) (br_f (by decide) ⟨rfl, nh_mkR h⟩)
  · have h8 : vp_in (nI u) 8 := vp_in_nI (by omega) (by decide)
    obtain ⟨L, hL, hl⟩ := hln u
    refine nx_hu1 hU hu (br_f (by decide) ?_)
    by_cases htk : nh_tk N v2 v3
    · refine nx_tk1 hN htk (br_f (by decide) ⟨h8, ?_⟩)
      rw [nI_clamp (n := u) (by omega), hl]
      by_cases hLT : L < T
      · refine br_t (nI_lt hLT (by omega)) ⟨h8, nx_put (by omega) ⟨h8, h8, ?_⟩⟩
        rw [hl]
        refine nm_r (congrArg (upd ln u) (nI_1 L)) ?_
        unfold wpY_append
        refine ny_bu1 hU hu (br_t rfl (ny_tk1 hN htk (br_f (by decide) ⟨h8, ?_⟩)))
        rw [nI_clamp (n := u) (by omega), hl, nh_c32]
        refine br_t (nI_lt hLT (by omega)) ⟨h8, ny_put (by omega) ⟨h8, h8, ?_⟩⟩
        rw [hl]
        exact nm_r (congrArg (upd ln u) (nI_1 L)) ⟨rfl, nh_mkR (nh_RT h (nh_TVu hTV (nh_tvk htk)) (nh_lnu hln (by omega)))⟩
      · refine br_f (nI_nlt (by omega) (by omega)) ?_
        unfold wpY_append
        refine ny_bu1 hU hu (br_t rfl (ny_tk1 hN htk (br_f (by decide) ⟨h8, ?_⟩)))
        rw [nI_clamp (n := u) (by omega), hl]
        exact br_f (nI_nlt (by omega) (by omega)) ⟨rfl, nh_mkR h⟩
    · refine nx_tk0 hN htk (br_t rfl ?_)
      unfold wpY_append
      exact ny_bu1 hU hu (br_t rfl (ny_tk0 hN htk (br_t rfl ⟨rfl, nh_mkR h⟩)))
theorem i_vc_setToken {k : Nat} {u : SX} {v : SY} (I : i_Rel k u v) (hk : k + 5 ≤ 2563) (v1 : Int32) (v2 : Int32) (v3 : Int32) (v4 : Int32) : wpX_setToken (fun r u' => wpY_setToken (fun r' v' => r' = r ∧ i_Rel (k + 5) u' v') v v1 v2 v3 v4) u v1 v2 v3 v4 := by
  obtain ⟨U, T, N, on, ok, fl, dp, tt, pr, K, V, ln, ue, dc, uu, ow, st, w, ch, no, ns, nr, es, nu, re, oT, oP, us, ds, po, ps, pv, rc, rd, fS, fP, fN, rfl, rfl, h⟩ := I
  obtain ⟨⟨hU2, hU⟩, ⟨hT8, hT⟩, ⟨hN4, hN⟩, hln, hTV, hus, hue⟩ := id h
  unfold wpX_setToken
  rcases pk_ix v1 (n := U) (by omega) with ho | ho | ⟨u, hu, rfl⟩
  · refine nx_htu hU (Or.inl ho) (br_t rfl ?_)
    unfold wpY_setToken
    exact ny_bu0 hU (Or.inl ho) (br_f (by decide) ⟨rfl, nh_mkR h⟩)
  · refine nx_htu hU (Or.inr ho) (br_t rfl ?_)
    unfold wpY_setToken
    exact ny_bu0 hU (Or.inr ho) (br_f (by decide) ⟨rfl, nh_mkR h⟩)
  · have h8 : vp_in (nI u) 8 := vp_in_nI (by omega) (by decide)
    obtain ⟨L, hL, hl⟩ := hln u
    rcases pk_ix v2 (n := L) (by omega) with ho | ho | ⟨i, hi, rfl⟩
    · refine nx_ht0 hU hu hl (by omega) (Or.inl ho) (br_t rfl ?_)
      unfold wpY_setToken
      exact ny_bu1 hU hu (br_t rfl (br_t ho ⟨rfl, nh_mkR h⟩))
    · refine nx_ht0 hU hu hl (by omega) (Or.inr ho) (br_t rfl ?_)
      unfold wpY_setToken
      refine ny_bu1 hU hu (br_t rfl (br_f (nh_nn (by omega) ho) ⟨h8, ?_⟩))
      rw [nI_clamp (n := u) (by omega), hl]
      exact br_t ho ⟨rfl, nh_mkR h⟩
    · refine nx_ht1 hU hu hl (by omega) hi (br_f (by decide) ?_)
      by_cases htk : nh_tk N v3 v4
      · refine nx_tk1 hN htk (br_f (by decide) (nx_put (by omega) ?_))
        unfold wpY_setToken
        refine ny_bu1 hU hu (br_t rfl (br_f (nI_pos (by omega)) ⟨h8, ?_⟩))
        rw [nI_clamp (n := u) (by omega), hl, nh_c32]
        exact br_f (nI_ge hi (by omega)) (ny_tk1 hN htk (br_f (by decide) (ny_put (by omega) ⟨rfl, nh_mkR (nh_RT h (nh_TVu hTV (nh_tvk htk)) hln)⟩)))
      · refine nx_tk0 hN htk (br_t rfl ?_)
        unfold wpY_setToken
        refine ny_bu1 hU hu (br_t rfl (br_f (nI_pos (by omega)) ⟨h8, ?_⟩))
        rw [nI_clamp (n := u) (by omega), hl]
        exact br_f (nI_ge hi (by omega)) (ny_tk0 hN htk (br_t rfl ⟨rfl, nh_mkR h⟩))
theorem i_vc_insertToken {k : Nat} {u : SX} {v : SY} (I : i_Rel k u v) (hk : k + 5 ≤ 2563) (v1 : Int32) (v2 : Int32) (v3 : Int32) (v4 : Int32) : wpX_insertToken (fun r u' => wpY_insertToken (fun r' v' => r' = r ∧ i_Rel (k + 5) u' v') v v1 v2 v3 v4) u v1 v2 v3 v4 := by
  obtain ⟨U, T, N, on, ok, fl, dp, tt, pr, K, V, ln, ue, dc, uu, ow, st, w, ch, no, ns, nr, es, nu, re, oT, oP, us, ds, po, ps, pv, rc, rd, fS, fP, fN, rfl, rfl, h⟩ := I
  obtain ⟨⟨hU2, hU⟩, ⟨hT8, hT⟩, ⟨hN4, hN⟩, hln, hTV, hus, hue⟩ := id h
  unfold wpX_insertToken
  rcases pk_ix v1 (n := U) (by omega) with ho | ho | ⟨u, hu, rfl⟩
  · refine nx_hu0 hU (Or.inl ho) (br_t rfl ?_)
    unfold wpY_insertToken
    exact ny_bu0 hU (Or.inl ho) (br_f (by decide) ⟨rfl, nh_mkR h⟩)
  · refine nx_hu0 hU (Or.inr ho) (br_t rfl ?_)
    unfold wpY_insertToken
    exact ny_bu0 hU (Or.inr ho) (br_f (by decide) ⟨rfl, nh_mkR h⟩)
  · have h8 : vp_in (nI u) 8 := vp_in_nI (by omega) (by decide)
    have hcu : (nI u).toNatClampNeg = u := nI_clamp (by omega)
    obtain ⟨L, hL, hl⟩ := hln u
    refine nx_hu1 hU hu (br_f (by decide) ?_)
    rcases pk_ix v2 (n := L + 1) (by omega) with ho | ho | ⟨i, hi, rfl⟩
    · refine br_t ho ?_
      unfold wpY_insertToken
      exact ny_bu1 hU hu (br_t rfl (br_t ho ⟨rfl, nh_mkR h⟩))
    · have hnle : ¬ v2 ≤ nI L := fun h' => nI_ge (Nat.lt_succ_self L) (by omega) (Int32.le_trans ho h')
      refine br_f (nh_nn (by omega) ho) ⟨h8, ?_⟩
      rw [hcu, hl]
      refine br_f hnle ?_
      unfold wpY_insertToken
      refine ny_bu1 hU hu (br_t rfl (br_f (nh_nn (by omega) ho) ⟨h8, ?_⟩))
      rw [hcu, hl]
      exact br_t (Int32.not_le.mp hnle) ⟨rfl, nh_mkR h⟩
    · refine br_f (nI_pos (by omega)) ⟨h8, ?_⟩
      rw [hcu, hl]
      refine br_t (nI_le (by omega) (by omega)) ?_
      by_cases htk : nh_tk N v3 v4
      · refine nx_tk1 hN htk (br_f (by decide) ⟨h8, ?_⟩)
        by_cases hLT : L < T
        · refine br_t (nI_lt hLT (by omega)) ⟨h8, nm_e ⟨L + 1, ?_⟩⟩
          obtain ⟨d, rfl⟩ : ∃ d, L = i + d := ⟨L - i, by omega⟩
          refine nx_ins (by omega) hl d _ K V (by omega) (by omega) ?_
          unfold wpY_insertToken
          refine ny_bu1 hU hu (br_t rfl (br_f (nI_pos (by omega)) ⟨h8, ?_⟩))
          rw [hcu, hl]
          refine br_f (nI_nlt (by omega) (by omega)) (ny_tk1 hN htk (br_f (by decide) ⟨h8, ?_⟩))
          refine br_t (nI_lt hLT (by omega)) (nm_r (nh_e32 u) ⟨h8, nm_e ⟨i + d + 1, ?_⟩⟩)
          exact ny_ins (by omega) hl d _ K V (by omega) (by omega) ⟨rfl, nh_mkR (nh_RT h (nh_TVu (nh_shT d K V hTV) (nh_tvk htk)) (nh_lnu hln (by omega)))⟩
        · refine br_f (nI_nlt (by omega) (by omega)) ?_
          unfold wpY_insertToken
          refine ny_bu1 hU hu (br_t rfl (br_f (nI_pos (by omega)) ⟨h8, ?_⟩))
          rw [hcu, hl]
          exact br_f (nI_nlt (by omega) (by omega)) (ny_tk1 hN htk (br_f (by decide) ⟨h8, br_f (nI_nlt (by omega) (by omega)) ⟨rfl, nh_mkR h⟩⟩))
      · refine nx_tk0 hN htk (br_t rfl ?_)
        unfold wpY_insertToken
        refine ny_bu1 hU hu (br_t rfl (br_f (nI_pos (by omega)) ⟨h8, ?_⟩))
        rw [hcu, hl]
        exact br_f (nI_nlt (by omega) (by omega)) (ny_tk0 hN htk (br_t rfl ⟨rfl, nh_mkR h⟩))
theorem i_vc_deleteToken {k : Nat} {u : SX} {v : SY} (I : i_Rel k u v) (hk : k + 5 ≤ 2563) (v1 : Int32) (v2 : Int32) : wpX_deleteToken (fun r u' => wpY_deleteToken (fun r' v' => r' = r ∧ i_Rel (k + 5) u' v') v v1 v2) u v1 v2 := by
  obtain ⟨U, T, N, on, ok, fl, dp, tt, pr, K, V, ln, ue, dc, uu, ow, st, w, ch, no, ns, nr, es, nu, re, oT, oP, us, ds, po, ps, pv, rc, rd, fS, fP, fN, rfl, rfl, h⟩ := I
  obtain ⟨⟨hU2, hU⟩, ⟨hT8, hT⟩, ⟨hN4, hN⟩, hln, hTV, hus, hue⟩ := id h
  unfold wpX_deleteToken
  rcases pk_ix v1 (n := U) (by omega) with ho | ho | ⟨u, hu, rfl⟩
  · refine nx_htu hU (Or.inl ho) (br_t rfl ?_)
    unfold wpY_deleteToken
    exact ny_bu0 hU (Or.inl ho) (br_f (by decide) ⟨rfl, nh_mkR h⟩)
  · refine nx_htu hU (Or.inr ho) (br_t rfl ?_)
    unfold wpY_deleteToken
    exact ny_bu0 hU (Or.inr ho) (br_f (by decide) ⟨rfl, nh_mkR h⟩)
  · have h8 : vp_in (nI u) 8 := vp_in_nI (by omega) (by decide)
    have hcu : (nI u).toNatClampNeg = u := nI_clamp (by omega)
    obtain ⟨L, hL, hl⟩ := hln u
    rcases pk_ix v2 (n := L) (by omega) with ho | ho | ⟨i, hi, rfl⟩
    · refine nx_ht0 hU hu hl (by omega) (Or.inl ho) (br_t rfl ?_)
      unfold wpY_deleteToken
      exact ny_bu1 hU hu (br_t rfl (br_t ho ⟨rfl, nh_mkR h⟩))
    · refine nx_ht0 hU hu hl (by omega) (Or.inr ho) (br_t rfl ?_)
      unfold wpY_deleteToken
      refine ny_bu1 hU hu (br_t rfl (br_f (nh_nn (by omega) ho) ⟨h8, ?_⟩))
      rw [hcu, hl]
      exact br_f (Int32.not_lt.mpr ho) ⟨rfl, nh_mkR h⟩
    · refine nx_ht1 hU hu hl (by omega) hi (br_f (by decide) (nm_r (nI_1 i) ⟨L + 1, ?_⟩))
      obtain ⟨d, rfl⟩ : ∃ d, L = i + d + 1 := ⟨L - i - 1, by omega⟩
      refine nx_del (by omega) hl (by omega) d i _ K V rfl (by omega) ?_
      unfold wpY_deleteToken
      refine ny_bu1 hU hu (br_t rfl (br_f (nI_pos (by omega)) ⟨h8, ?_⟩))
      rw [hcu, hl]
      refine br_t (nI_lt hi (by omega)) (nm_r (nh_e32 u) ⟨i + d + 1, ?_⟩)
      exact ny_del (by omega) hl (by omega) d i _ K V rfl (by omega) ⟨rfl, nh_mkR (nh_RT h (nh_sdT d i K V hTV) (nh_lnu hln (by omega)))⟩
theorem i_vc_clearUnit {k : Nat} {u : SX} {v : SY} (I : i_Rel k u v) (hk : k + 5 ≤ 2563) (v1 : Int32) : wpX_clearUnit (fun r u' => wpY_clearUnit (fun r' v' => r' = r ∧ i_Rel (k + 5) u' v') v v1) u v1 := by
  obtain ⟨U, T, N, on, ok, fl, dp, tt, pr, K, V, ln, ue, dc, uu, ow, st, w, ch, no, ns, nr, es, nu, re, oT, oP, us, ds, po, ps, pv, rc, rd, fS, fP, fN, rfl, rfl, h⟩ := I
  obtain ⟨⟨hU2, hU⟩, ⟨hT8, hT⟩, ⟨hN4, hN⟩, hln, hTV, hus, hue⟩ := id h
  unfold wpX_clearUnit
  rcases pk_ix v1 (n := U) (by omega) with ho | ho | ⟨u, hu, rfl⟩
  · refine nx_hu0 hU (Or.inl ho) (br_t rfl ?_)
    unfold wpY_clearUnit
    exact ny_bu0 hU (Or.inl ho) (br_f (by decide) ⟨rfl, nh_mkR h⟩)
  · refine nx_hu0 hU (Or.inr ho) (br_t rfl ?_)
    unfold wpY_clearUnit
    exact ny_bu0 hU (Or.inr ho) (br_f (by decide) ⟨rfl, nh_mkR h⟩)
  · have h8 : vp_in (nI u) 8 := vp_in_nI (by omega) (by decide)
    have hcu : (nI u).toNatClampNeg = u := nI_clamp (by omega)
    refine nx_hu1 hU hu (br_f (by decide) ⟨h8, ?_⟩)
    rw [hcu]
    refine nm_e ?_
    unfold wpY_clearUnit
    refine ny_bu1 hU hu (br_t rfl ⟨h8, ?_⟩)
    rw [hcu]
    exact nm_e ⟨rfl, nh_mkR (nh_RT h hTV (nh_lnu (l := 0) hln (Nat.zero_le T)))⟩
