/-! 11: X builds -/
def nh_OS (K V : Nat → Int32) (Ln : Nat → Nat) (U N : Nat) (no : Nat → Int32) : Prop := ∀ n, n < N → (¬ nh_ow K V Ln U n → no n = -1) ∧ ∀ u s, nh_fs K V Ln U n u s → no n = nI u
theorem nx_b31 {U T N : Nat} {on dp tt pr : Int32} {K V ln ue dc uu ow st w ch no es nu re oT oP : Nat → Int32} {post : Int32 → St2 → Prop} (hU : U ≤ 8) (hN : N ≤ 16) (hT : T ≤ 32) (hln : ∀ u, ∃ l, l ≤ T ∧ ln u = nI l) (hTV : nh_TV N K V) (hX : nh_XF K V (nh_L ln) U N no es nu on)
    (hR : nh_RR (nh_ow K V (nh_L ln) U) (nh_uq K V (nh_L ln) U) N N re)
    (hp : ∀ ns nr fl ok dp tt pr oT oP, nh_sol (nh_ow K V (nh_L ln) U) (nh_uq K V (nh_L ln) U) (nh_vl K V (nh_L ln) U) N ns nr →
      post (nI (nh_cc (nh_ch ow st w no ns nr) N)) (nI U, nI T, nI N, on, ok, fl, dp, tt, pr, K, V, ln, ue, dc, uu, nh_mx N no ow, nh_mx N ns st, nh_mx N nr w, nh_mx N (nh_ch ow st w no ns nr) ch, no, ns, nr, es, nu, re, oT, oP)) :
    ∀ (d i n : Nat) (ns nr : Nat → Int32) (fl : Int32), i + d = N → d < n → nh_XG (nh_ow K V (nh_L ln) U) (nh_uq K V (nh_L ln) U) N i ns nr fl → wX_build_31 post n (nI i) (nI U) (nI T) (nI N) on 0 fl dp tt pr K V ln ue dc uu ow st w ch no ns nr es nu re oT oP := by
  intro d
  induction d with
  | zero =>
    intro i n ns nr fl hid hn hG
    obtain ⟨m, rfl⟩ : ∃ m, n = m + 1 := ⟨n - 1, by omega⟩
    have e : i = N := by omega
    subst e
    refine br_t (nI_le (Nat.le_refl _) (by omega)) ?_
    exact ⟨i + 1, nx_r2 hU hN hT hln hTV hX (fun ns' nr' fl' ok' dp' tt' pr' oT' oP' h => nx_pub hN (hp ns' nr' fl' ok' dp' tt' pr' oT' oP' h)) i 0 (i + 1) ns nr fl 0 dp tt pr oT oP (by omega) (by omega) (nh_XR0 hG)⟩
  | succ d ih =>
    intro i n ns nr fl hid hn hG
    obtain ⟨m, rfl⟩ : ∃ m, n = m + 1 := ⟨n - 1, by omega⟩
    exact br_f (nI_ge (by omega) (by omega)) (nx_graph hN hTV hX hR (by omega) hG (fun ns' nr' fl' h => nm_r (nI_1 i) (ih (i + 1) m ns' nr' fl' (by omega) (by omega) h)))
theorem nx_b6 {U T N : Nat} {dp tt pr : Int32} {K V ln ue dc ow st w ch ns nr re oT oP : Nat → Int32} {post : Int32 → St2 → Prop} (hU : U ≤ 8) (hN : N ≤ 16) (hT : T ≤ 32) (hln : ∀ u, ∃ l, l ≤ T ∧ ln u = nI l) (hTV : nh_TV N K V)
    (hp : ∀ on ok fl dp tt pr uu no ns nr es nu re oT oP, (∀ u, u < U → nh_ubits K V ln u (uu u)) → nh_OS K V (nh_L ln) U N no → nh_sol (nh_ow K V (nh_L ln) U) (nh_uq K V (nh_L ln) U) (nh_vl K V (nh_L ln) U) N ns nr →
      post (nI (nh_cc (nh_ch ow st w no ns nr) N)) (nI U, nI T, nI N, on, ok, fl, dp, tt, pr, K, V, ln, nh_mx U (nh_E K ln) ue, nh_mx U (nh_C K ln) dc, uu, nh_mx N no ow, nh_mx N ns st, nh_mx N nr w, nh_mx N (nh_ch ow st w no ns nr) ch, no, ns, nr, es, nu, re, oT, oP)) :
    ∀ (d i n : Nat) (on : Int32) (uu no es nu : Nat → Int32), i + d = U → d < n → nh_XI K V (nh_L ln) U N i 0 no es nu on → (∀ u, u < i → nh_ubits K V ln u (uu u)) →
      wX_build_6 post n (nI i) (nI U) (nI T) (nI N) on 0 0 dp tt pr K V ln (nh_mx i (nh_E K ln) ue) (nh_mx i (nh_C K ln) dc) uu ow st w ch no ns nr es nu re oT oP := by
  intro d
  induction d with
  | zero =>
    intro i n on uu no es nu hid hn hX hb
    obtain ⟨m, rfl⟩ : ∃ m, n = m + 1 := ⟨n - 1, by omega⟩
    have e : i = U := by omega
    subst e
    have hF := nh_XIf hX
    refine br_t (nI_le (Nat.le_refl _) (by omega)) (nx_reach hN hF (fun re' hR => ?_))
    exact ⟨N + 1, nx_b31 hU hN hT hln hTV hF hR (fun ns nr fl ok dp tt pr oT oP h => hp on ok fl dp tt pr uu no ns nr es nu re' oT oP hb (fun n hn => ⟨(hF n hn).2.2.1, fun u s hf => ((hF n hn).2.2.2 u s hf).1⟩) h) N 0 (N + 1) ns nr 0 (by omega) (by omega) nh_XG0⟩
  | succ d ih =>
    intro i n on uu no es nu hid hn hX hb
    obtain ⟨m, rfl⟩ : ∃ m, n = m + 1 := ⟨n - 1, by omega⟩
    refine br_f (nI_ge (by omega) (by omega)) (nx_readUnit hU hN hT (by omega) hln hTV hX (fun on' x no' es' nu' h1 h2 => ?_))
    rw [nh_mxs, nh_mxs]
    refine nm_r (nI_1 i) (ih (i + 1) m on' _ no' es' nu' (by omega) (by omega) h2 (fun u hu => ?_))
    by_cases e : u = i
    · rw [e, pk_us]; exact h1
    · rw [pk_un e]; exact hb u (by omega)
theorem nx_build {U T N : Nat} {on ok fl dp tt pr : Int32} {K V ln ue dc uu ow st w ch no ns nr es nu re oT oP : Nat → Int32} {post : Int32 → St2 → Prop} (hU : U ≤ 8) (hN : N ≤ 16) (hT : T ≤ 32) (hln : ∀ u, ∃ l, l ≤ T ∧ ln u = nI l) (hTV : nh_TV N K V)
    (hp : ∀ on ok fl dp tt pr uu no ns nr es nu re oT oP, (∀ u, u < U → nh_ubits K V ln u (uu u)) → nh_OS K V (nh_L ln) U N no → nh_sol (nh_ow K V (nh_L ln) U) (nh_uq K V (nh_L ln) U) (nh_vl K V (nh_L ln) U) N ns nr →
      post (nI (nh_cc (nh_ch ow st w no ns nr) N)) (nI U, nI T, nI N, on, ok, fl, dp, tt, pr, K, V, ln, nh_mx U (nh_E K ln) ue, nh_mx U (nh_C K ln) dc, uu, nh_mx N no ow, nh_mx N ns st, nh_mx N nr w, nh_mx N (nh_ch ow st w no ns nr) ch, no, ns, nr, es, nu, re, oT, oP)) : wpX_build post (nI U, nI T, nI N, on, ok, fl, dp, tt, pr, K, V, ln, ue, dc, uu, ow, st, w, ch, no, ns, nr, es, nu, re, oT, oP) := by
  unfold wpX_build
  refine nx_forget hN (fun no' nu' h => ⟨U + 1, ?_⟩)
  have h1 := nx_b6 (post := post) (U := U) (T := T) (N := N) (ue := ue) (dc := dc) (dp := dp) (tt := tt) (pr := pr) (ns := ns) (nr := nr) (re := re) (oT := oT) (oP := oP) hU hN hT hln hTV hp U 0 (U + 1) 0 uu no' es nu' (by omega) (by omega) (nh_XI0 h rfl) (fun u hu => absurd hu (Nat.not_lt_zero u))
  rw [nh_mx0, nh_mx0] at h1
  exact h1
