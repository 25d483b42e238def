/-! 15: the law's small functions; construction; queries compared -/
theorem nl_mod {post : Int32 → Prop} {p d : Int32} (hd : ¬ d = 0) (hp : ∀ r, post r) : wpL_mod post () p d := ⟨hd, fun x _ => br_c (fun _ => hp _) (fun _ => hp _)⟩
theorem nh_nI {x : Int32} {m : Nat} (h0 : 0 ≤ x.toInt) (hm : x.toInt < m) : ∃ j, j < m ∧ x = nI j := by
  have hn : ¬ x < 0 := by
    rw [Int32.lt_iff_toInt_lt, show (0 : Int32).toInt = 0 from by decide]
    omega
  obtain ⟨j, hj, e⟩ := nI_of hn
  rw [e, nI_toInt hj] at hm
  exact ⟨j, by omega, e⟩
theorem nl_modr {post : Int32 → Prop} {p : Int32} {m : Nat} (h0 : 0 < m) (hm : m < 2 ^ 30) (hp : ∀ j, j < m → post (nI j)) : wpL_mod post () p (nI m) := by
  have hmI : (nI m).toInt = (m : Int) := nI_toInt (by omega)
  refine ⟨nI_ne0 h0 (by omega), fun x ex => ?_⟩
  have hb := tmod_bounds (a := p.toInt) (M := (m : Int)) (by omega)
  have hx : x.toInt = p.toInt.tmod m := by rw [ex, rem_toInt, hmI]
  rw [← hx] at hb
  refine br_c (fun h => ?_) (fun h => ?_)
  · rw [Int32.le_iff_toInt_le, show (0 : Int32).toInt = 0 from by decide] at h
    obtain ⟨j, hj, e⟩ := nh_nI h hb.2
    rw [e]
    exact hp j hj
  · rw [Int32.le_iff_toInt_le, show (0 : Int32).toInt = 0 from by decide] at h
    have hs : (x + nI m).toInt = x.toInt + m := by
      rw [Int32.toInt_add, hmI]
      exact Int.bmod_eq_of_le (by omega) (by omega)
    obtain ⟨j, hj, e⟩ := nh_nI (x := x + nI m) (m := m) (by omega) (by omega)
    rw [e]
    exact hp j hj
theorem nl_cell {post : Int32 → Prop} {L q : Nat} {xs : Nat → Int32} (hL : L ≤ 260) (hq : q < 2 ^ 31) (hp : ∀ r, post r) : wpL_cell post L xs () (nI q) := by
  by_cases h : L ≤ q
  · exact br_t (nI_le h hq) (hp _)
  · exact br_f (nI_ge (by omega) (by omega)) ⟨vp_in_nI (by omega) (by omega), hp _⟩
theorem nl_pk {post : Int32 → Prop} {p : Int32} (hp : ∀ r, post r) : wpL_pk post () p := br_c (fun _ => hp _) (fun _ => hp _)
theorem nl_pv {post : Int32 → Prop} {p d : Int32} (hd : ¬ d = 0) (hp : ∀ r, post r) : wpL_pv post () p d := br_c (fun _ => hp _) (fun _ => nl_mod hd hp)
theorem nl_binop {post : Int32 → Prop} {p : Int32} (hp : ∀ r, post r) : wpL_binop post () p := br_c (fun _ => hp _) (fun _ => br_c (fun _ => hp _) (fun _ => hp _))
theorem nl_clamp (p : Int32) (lo hi : Nat) (h : lo ≤ hi) (hh : hi < 2 ^ 31) : ∃ c, lo ≤ c ∧ c ≤ hi ∧ (∀ post : Int32 → Prop, post (nI c) → wpX_clamp post () p (nI lo) (nI hi)) ∧ (∀ post : Int32 → Prop, post (nI c) → wpL_clamp post () p (nI lo) (nI hi)) := by
  by_cases h1 : nI lo ≤ p
  · by_cases h2 : p ≤ nI hi
    · obtain ⟨c, hc, rfl⟩ := nI_of2 (nI_toInt hh) (nh_nn (by omega) h1) h2
      exact ⟨c, (nI_leI (by omega) (by omega)).mp h1, hc, fun post hp => br_t h1 (br_t h2 hp), fun A hp => br_t h1 (br_t h2 hp)⟩
    · exact ⟨hi, h, Nat.le_refl hi, fun post hp => br_t h1 (br_f h2 hp), fun A hp => br_t h1 (br_f h2 hp)⟩
  · exact ⟨lo, Nat.le_refl lo, h, fun post hp => br_f h1 hp, fun A hp => br_f h1 hp⟩
def nh_m1 : Nat → Int32 := fun _ => -1
theorem nl_i211 {U T N : Nat} {on ok fl dp tt pr : Int32} {K V ln ue dc uu ow st w ch no ns nr es nu re oT oP : Nat → Int32} {post : St2 → Prop} {mc ms kc ks : Nat} (hp : post (nI U, nI T, nI N, on, ok, fl, dp, tt, pr, K, V, ln, ue, dc, uu, nh_mx 16 nh_m1 ow, nh_mx 16 nh_z0 st, w, ch, no, ns, nr, es, nu, re, oT, oP)) : ∃ n, wX_init_211 post mc ms kc ks (nI U) (nI T) (nI N) on ok fl dp tt pr n 0 K V ln ue dc uu ow st w ch no ns nr es nu re oT oP := by
  have key : ∀ (d i n : Nat), i + d = 16 → d < n → wX_init_211 post mc ms kc ks (nI U) (nI T) (nI N) on ok fl dp tt pr n (nI i) K V ln ue dc uu (nh_mx i nh_m1 ow) (nh_mx i nh_z0 st) w ch no ns nr es nu re oT oP := by
    intro d
    induction d with
    | zero =>
      intro i n hi hn
      obtain ⟨m, rfl⟩ : ∃ m, n = m + 1 := ⟨n - 1, by omega⟩
      have e : i = 16 := by omega
      subst e
      exact br_t (nI_le (a := 16) (Nat.le_refl 16) (by decide)) hp
    | succ d ih =>
      intro i n hi hn
      obtain ⟨m, rfl⟩ : ∃ m, n = m + 1 := ⟨n - 1, by omega⟩
      have h16 : vp_in (nI i) 16 := vp_in_nI (by omega) (by decide)
      refine br_f (nI_ge (b := 16) (by omega) (by decide)) ⟨h16, ?_⟩
      rw [nI_clamp (n := i) (by omega)]
      exact nm_r (nh_mxs i nh_m1 ow) ⟨h16, nm_r (nh_mxs i nh_z0 st) (nm_r (nI_1 i) (ih (i + 1) m (by omega) (by omega)))⟩
  have h0 := key 16 0 17 (by omega) (by omega)
  rw [nh_mx0, nh_mx0] at h0
  exact ⟨17, h0⟩
theorem nl_i187 {U T N : Nat} {on ok fl dp tt pr : Int32} {K V ln ue dc uu ow st w ch no ns nr es nu re oT oP : Nat → Int32} {post : St2 → Prop} {mc ms kc ks : Nat} (hp : post (nI U, nI T, nI N, on, ok, fl, dp, tt, pr, K, V, ln, nh_mx 8 nh_m1 ue, dc, uu, nh_mx 16 nh_m1 ow, nh_mx 16 nh_z0 st, w, ch, no, ns, nr, es, nu, re, oT, oP)) : ∃ n, wX_init_187 post mc ms kc ks (nI U) (nI T) (nI N) on ok fl dp tt pr n 0 K V ln ue dc uu ow st w ch no ns nr es nu re oT oP := by
  have key : ∀ (d i n : Nat), i + d = 8 → d < n → wX_init_187 post mc ms kc ks (nI U) (nI T) (nI N) on ok fl dp tt pr n (nI i) K V ln (nh_mx i nh_m1 ue) dc uu ow st w ch no ns nr es nu re oT oP := by
    intro d
    induction d with
    | zero =>
      intro i n hi hn
      obtain ⟨m, rfl⟩ : ∃ m, n = m + 1 := ⟨n - 1, by omega⟩
      have e : i = 8 := by omega
      subst e
      exact br_t (nI_le (a := 8) (Nat.le_refl 8) (by decide)) (nl_i211 hp)
    | succ d ih =>
      intro i n hi hn
      obtain ⟨m, rfl⟩ : ∃ m, n = m + 1 := ⟨n - 1, by omega⟩
      have h8 : vp_in (nI i) 8 := vp_in_nI (by omega) (by decide)
      refine br_f (nI_ge (b := 8) (by omega) (by decide)) ⟨h8, ?_⟩
      rw [nI_clamp (n := i) (by omega)]
      exact nm_r (nh_mxs i nh_m1 ue) (nm_r (nI_1 i) (ih (i + 1) m (by omega) (by omega)))
  have h0 := key 8 0 9 (by omega) (by omega)
  rw [nh_mx0] at h0
  exact ⟨9, h0⟩
/-- a new object: sizes by the clamps, no token -/
theorem nl_init {post : St2 → Prop} {U T N : Nat} {x1 x2 x3 : Int32} (xU : ∀ post : Int32 → Prop, post (nI U) → wpX_clamp post () x1 2 8) (xT : ∀ post : Int32 → Prop, post (nI T) → wpX_clamp post () x2 8 32) (xN : ∀ post : Int32 → Prop, post (nI N) → wpX_clamp post () x3 4 16)
    (hp : ∀ on ok fl dp tt pr ue dc uu ow st w ch no ns nr es nu re oT oP, post (nI U, nI T, nI N, on, ok, fl, dp, tt, pr, nh_z0, nh_z0, nh_z0, ue, dc, uu, ow, st, w, ch, no, ns, nr, es, nu, re, oT, oP)) : wpX_init post 18 768 (0, 0, 0, 0, 0, 0, 0, 0, 0) x1 x2 x3 := by
  have key : wpX_clamp (fun r_73 => (wpX_clamp (fun r_74 => (wpX_clamp (fun r_75 => (∃ fu187 : Nat, wX_init_187 post 18 768 18 768 r_73 r_74 r_75 0 0 0 0 0 0 fu187 0 (fun _ => 0) (fun _ => 0) (fun _ => 0) (fun _ => 0) (fun _ => 0) (fun _ => 0) (fun _ => 0) (fun _ => 0) (fun _ => 0) (fun _ => 0) (fun _ => 0) (fun _ => 0) (fun _ => 0) (fun _ => 0) (fun _ => 0) (fun _ => 0) (fun _ => 0) (fun _ => 0))) () x3 4 16)) () x2 8 32)) () x1 2 8 :=
    xU _ (xT _ (xN _ (nl_i187 (hp _ _ _ _ _ _ _ _ _ _ _ _ _ _ _ _ _ _ _ _ _))))
  unfold wpX_init
  refine ⟨by omega, by omega, by omega, by omega, by omega, by omega, by omega, by omega, by omega, by omega, by omega, by omega, by omega, by omega, by omega, by omega, by omega, by omega, by omega, by omega, by omega, by omega, by omega, by omega, by omega, by omega, by omega, by omega, by omega, by omega, by omega, by omega, by omega, by omega, by omega, by omega, key⟩
theorem nh_PV0 {U T N : Nat} : nh_PV U T N nh_z0 nh_z0 nh_z0 :=
  ⟨fun u => ⟨0, Nat.zero_le T, rfl⟩, fun p hp => absurd (show (0 : Int32) = 2 from hp) (by decide), fun p _ _ => rfl, fun u i _ hi => absurd (show i < 0 from hi) (Nat.not_lt_zero i)⟩
/-! queries of the two objects compared -/
theorem nl_qu {q : (Int32 → Prop) → St2 → Int32 → Prop} {C D : Prop} {x : Int32} {A F : St2} (hq : ∃ a b, a = b ∧ (∀ post : Int32 → Prop, post a → q post A x) ∧ (∀ post : Int32 → Prop, post b → q post F x)) (hC : C) : q (fun r => q (fun r' => (r = r' → C) ∧ (¬ r = r' → D)) F x) A x := by
  obtain ⟨a, b, e, h1, h2⟩ := hq
  exact h1 _ (h2 _ (br_t e hC))
theorem nl_qv {q : (Int32 → Prop) → St2 → Int32 → Int32 → Prop} {C D : Prop} {x y : Int32} {A F : St2} (hq : ∃ a b, a = b ∧ (∀ post : Int32 → Prop, post a → q post A x y) ∧ (∀ post : Int32 → Prop, post b → q post F x y)) (hC : C) : q (fun r => q (fun r' => (r = r' → C) ∧ (¬ r = r' → D)) F x y) A x y := by
  obtain ⟨a, b, e, h1, h2⟩ := hq
  exact h1 _ (h2 _ (br_t e hC))
theorem nl_getUnitError {U T N : Nat} {on ok fl dp tt pr : Int32} {K V ln ue dc uu ow st w ch no ns nr es nu re oT oP : Nat → Int32} {on' ok' fl' dp' tt' pr' : Int32} {K' V' ln' ue' dc' uu' ow' st' w' ch' no' ns' nr' es' nu' re' oT' oP' : Nat → Int32} {x : Int32} (hU : U ≤ 8) (hA : ∀ u, u < U → ue u = ue' u) : ∃ a b, a = b ∧ (∀ post : Int32 → Prop, post a → wpX_getUnitError post (nI U, nI T, nI N, on, ok, fl, dp, tt, pr, K, V, ln, ue, dc, uu, ow, st, w, ch, no, ns, nr, es, nu, re, oT, oP) x) ∧ (∀ post : Int32 → Prop, post b → wpX_getUnitError post (nI U, nI T, nI N, on', ok', fl', dp', tt', pr', K', V', ln', ue', dc', uu', ow', st', w', ch', no', ns', nr', es', nu', re', oT', oP') x) := by
  unfold wpX_getUnitError
  rcases pk_ix x (n := U) (by omega) with ho | ho | ⟨u, hu, rfl⟩
  · exact ⟨(-2), (-2), rfl, fun post hp => nx_hu0 hU (Or.inl ho) (br_t rfl hp), fun post hp => nx_hu0 hU (Or.inl ho) (br_t rfl hp)⟩
  · exact ⟨(-2), (-2), rfl, fun post hp => nx_hu0 hU (Or.inr ho) (br_t rfl hp), fun post hp => nx_hu0 hU (Or.inr ho) (br_t rfl hp)⟩
  · have h8 : vp_in (nI u) 8 := vp_in_nI (by omega) (by decide)
    refine ⟨ue (nI u).toNatClampNeg, ue' (nI u).toNatClampNeg, ?_, fun post hp => nx_hu1 hU hu (br_f (by decide) ⟨h8, hp⟩), fun post hp => nx_hu1 hU hu (br_f (by decide) ⟨h8, hp⟩)⟩
    rw [nI_clamp (n := u) (by omega)]
    exact hA u hu
theorem nl_getDefCount {U T N : Nat} {on ok fl dp tt pr : Int32} {K V ln ue dc uu ow st w ch no ns nr es nu re oT oP : Nat → Int32} {on' ok' fl' dp' tt' pr' : Int32} {K' V' ln' ue' dc' uu' ow' st' w' ch' no' ns' nr' es' nu' re' oT' oP' : Nat → Int32} {x : Int32} (hU : U ≤ 8) (hA : ∀ u, u < U → dc u = dc' u) : ∃ a b, a = b ∧ (∀ post : Int32 → Prop, post a → wpX_getDefCount post (nI U, nI T, nI N, on, ok, fl, dp, tt, pr, K, V, ln, ue, dc, uu, ow, st, w, ch, no, ns, nr, es, nu, re, oT, oP) x) ∧ (∀ post : Int32 → Prop, post b → wpX_getDefCount post (nI U, nI T, nI N, on', ok', fl', dp', tt', pr', K', V', ln', ue', dc', uu', ow', st', w', ch', no', ns', nr', es', nu', re', oT', oP') x) := by
  unfold wpX_getDefCount
  rcases pk_ix x (n := U) (by omega) with ho | ho | ⟨u, hu, rfl⟩
  · exact ⟨(-1), (-1), rfl, fun post hp => nx_hu0 hU (Or.inl ho) (br_t rfl hp), fun post hp => nx_hu0 hU (Or.inl ho) (br_t rfl hp)⟩
  · exact ⟨(-1), (-1), rfl, fun post hp => nx_hu0 hU (Or.inr ho) (br_t rfl hp), fun post hp => nx_hu0 hU (Or.inr ho) (br_t rfl hp)⟩
  · have h8 : vp_in (nI u) 8 := vp_in_nI (by omega) (by decide)
    refine ⟨dc (nI u).toNatClampNeg, dc' (nI u).toNatClampNeg, ?_, fun post hp => nx_hu1 hU hu (br_f (by decide) ⟨h8, hp⟩), fun post hp => nx_hu1 hU hu (br_f (by decide) ⟨h8, hp⟩)⟩
    rw [nI_clamp (n := u) (by omega)]
    exact hA u hu
theorem nl_getLength {U T N : Nat} {on ok fl dp tt pr : Int32} {K V ln ue dc uu ow st w ch no ns nr es nu re oT oP : Nat → Int32} {on' ok' fl' dp' tt' pr' : Int32} {K' V' ln' ue' dc' uu' ow' st' w' ch' no' ns' nr' es' nu' re' oT' oP' : Nat → Int32} {x : Int32} (hU : U ≤ 8) (hA : ∀ u, u < U → ln u = ln' u) : ∃ a b, a = b ∧ (∀ post : Int32 → Prop, post a → wpX_getLength post (nI U, nI T, nI N, on, ok, fl, dp, tt, pr, K, V, ln, ue, dc, uu, ow, st, w, ch, no, ns, nr, es, nu, re, oT, oP) x) ∧ (∀ post : Int32 → Prop, post b → wpX_getLength post (nI U, nI T, nI N, on', ok', fl', dp', tt', pr', K', V', ln', ue', dc', uu', ow', st', w', ch', no', ns', nr', es', nu', re', oT', oP') x) := by
  unfold wpX_getLength
  rcases pk_ix x (n := U) (by omega) with ho | ho | ⟨u, hu, rfl⟩
  · exact ⟨(-1), (-1), rfl, fun post hp => nx_hu0 hU (Or.inl ho) (br_t rfl hp), fun post hp => nx_hu0 hU (Or.inl ho) (br_t rfl hp)⟩
  · exact ⟨(-1), (-1), rfl, fun post hp => nx_hu0 hU (Or.inr ho) (br_t rfl hp), fun post hp => nx_hu0 hU (Or.inr ho) (br_t rfl hp)⟩
  · have h8 : vp_in (nI u) 8 := vp_in_nI (by omega) (by decide)
    refine ⟨ln (nI u).toNatClampNeg, ln' (nI u).toNatClampNeg, ?_, fun post hp => nx_hu1 hU hu (br_f (by decide) ⟨h8, hp⟩), fun post hp => nx_hu1 hU hu (br_f (by decide) ⟨h8, hp⟩)⟩
    rw [nI_clamp (n := u) (by omega)]
    exact hA u hu
theorem nl_getOwner {U T N : Nat} {on ok fl dp tt pr : Int32} {K V ln ue dc uu ow st w ch no ns nr es nu re oT oP : Nat → Int32} {on' ok' fl' dp' tt' pr' : Int32} {K' V' ln' ue' dc' uu' ow' st' w' ch' no' ns' nr' es' nu' re' oT' oP' : Nat → Int32} {x : Int32} (hN : N ≤ 16) (hA : ∀ n, n < N → ow n = ow' n) : ∃ a b, a = b ∧ (∀ post : Int32 → Prop, post a → wpX_getOwner post (nI U, nI T, nI N, on, ok, fl, dp, tt, pr, K, V, ln, ue, dc, uu, ow, st, w, ch, no, ns, nr, es, nu, re, oT, oP) x) ∧ (∀ post : Int32 → Prop, post b → wpX_getOwner post (nI U, nI T, nI N, on', ok', fl', dp', tt', pr', K', V', ln', ue', dc', uu', ow', st', w', ch', no', ns', nr', es', nu', re', oT', oP') x) := by
  unfold wpX_getOwner
  rcases pk_ix x (n := N) (by omega) with ho | ho | ⟨u, hu, rfl⟩
  · exact ⟨(-1), (-1), rfl, fun post hp => nx_hn0 hN (Or.inl ho) (br_t rfl hp), fun post hp => nx_hn0 hN (Or.inl ho) (br_t rfl hp)⟩
  · exact ⟨(-1), (-1), rfl, fun post hp => nx_hn0 hN (Or.inr ho) (br_t rfl hp), fun post hp => nx_hn0 hN (Or.inr ho) (br_t rfl hp)⟩
  · have h16 : vp_in (nI u) 16 := vp_in_nI (by omega) (by decide)
    refine ⟨ow (nI u).toNatClampNeg, ow' (nI u).toNatClampNeg, ?_, fun post hp => nx_hn1 hN hu (br_f (by decide) ⟨h16, hp⟩), fun post hp => nx_hn1 hN hu (br_f (by decide) ⟨h16, hp⟩)⟩
    rw [nI_clamp (n := u) (by omega)]
    exact hA u hu
theorem nl_getStatus {U T N : Nat} {on ok fl dp tt pr : Int32} {K V ln ue dc uu ow st w ch no ns nr es nu re oT oP : Nat → Int32} {on' ok' fl' dp' tt' pr' : Int32} {K' V' ln' ue' dc' uu' ow' st' w' ch' no' ns' nr' es' nu' re' oT' oP' : Nat → Int32} {x : Int32} (hN : N ≤ 16) (hA : ∀ n, n < N → st n = st' n) : ∃ a b, a = b ∧ (∀ post : Int32 → Prop, post a → wpX_getStatus post (nI U, nI T, nI N, on, ok, fl, dp, tt, pr, K, V, ln, ue, dc, uu, ow, st, w, ch, no, ns, nr, es, nu, re, oT, oP) x) ∧ (∀ post : Int32 → Prop, post b → wpX_getStatus post (nI U, nI T, nI N, on', ok', fl', dp', tt', pr', K', V', ln', ue', dc', uu', ow', st', w', ch', no', ns', nr', es', nu', re', oT', oP') x) := by
  unfold wpX_getStatus
  rcases pk_ix x (n := N) (by omega) with ho | ho | ⟨u, hu, rfl⟩
  · exact ⟨0, 0, rfl, fun post hp => nx_hn0 hN (Or.inl ho) (br_t rfl hp), fun post hp => nx_hn0 hN (Or.inl ho) (br_t rfl hp)⟩
  · exact ⟨0, 0, rfl, fun post hp => nx_hn0 hN (Or.inr ho) (br_t rfl hp), fun post hp => nx_hn0 hN (Or.inr ho) (br_t rfl hp)⟩
  · have h16 : vp_in (nI u) 16 := vp_in_nI (by omega) (by decide)
    refine ⟨st (nI u).toNatClampNeg, st' (nI u).toNatClampNeg, ?_, fun post hp => nx_hn1 hN hu (br_f (by decide) ⟨h16, hp⟩), fun post hp => nx_hn1 hN hu (br_f (by decide) ⟨h16, hp⟩)⟩
    rw [nI_clamp (n := u) (by omega)]
    exact hA u hu
theorem nl_getValue {U T N : Nat} {on ok fl dp tt pr : Int32} {K V ln ue dc uu ow st w ch no ns nr es nu re oT oP : Nat → Int32} {on' ok' fl' dp' tt' pr' : Int32} {K' V' ln' ue' dc' uu' ow' st' w' ch' no' ns' nr' es' nu' re' oT' oP' : Nat → Int32} {x : Int32} (hN : N ≤ 16) (hA : ∀ n, n < N → w n = w' n) : ∃ a b, a = b ∧ (∀ post : Int32 → Prop, post a → wpX_getValue post (nI U, nI T, nI N, on, ok, fl, dp, tt, pr, K, V, ln, ue, dc, uu, ow, st, w, ch, no, ns, nr, es, nu, re, oT, oP) x) ∧ (∀ post : Int32 → Prop, post b → wpX_getValue post (nI U, nI T, nI N, on', ok', fl', dp', tt', pr', K', V', ln', ue', dc', uu', ow', st', w', ch', no', ns', nr', es', nu', re', oT', oP') x) := by
  unfold wpX_getValue
  rcases pk_ix x (n := N) (by omega) with ho | ho | ⟨u, hu, rfl⟩
  · exact ⟨0, 0, rfl, fun post hp => nx_hn0 hN (Or.inl ho) (br_t rfl hp), fun post hp => nx_hn0 hN (Or.inl ho) (br_t rfl hp)⟩
  · exact ⟨0, 0, rfl, fun post hp => nx_hn0 hN (Or.inr ho) (br_t rfl hp), fun post hp => nx_hn0 hN (Or.inr ho) (br_t rfl hp)⟩
  · have h16 : vp_in (nI u) 16 := vp_in_nI (by omega) (by decide)
    refine ⟨w (nI u).toNatClampNeg, w' (nI u).toNatClampNeg, ?_, fun post hp => nx_hn1 hN hu (br_f (by decide) ⟨h16, hp⟩), fun post hp => nx_hn1 hN hu (br_f (by decide) ⟨h16, hp⟩)⟩
    rw [nI_clamp (n := u) (by omega)]
    exact hA u hu
theorem nl_usesName {U T N : Nat} {on ok fl dp tt pr : Int32} {K V ln ue dc uu ow st w ch no ns nr es nu re oT oP : Nat → Int32} {on' ok' fl' dp' tt' pr' : Int32} {K' V' ln' ue' dc' uu' ow' st' w' ch' no' ns' nr' es' nu' re' oT' oP' : Nat → Int32} {x y : Int32} (hU : U ≤ 8) (hN : N ≤ 16) (hA : ∀ u m, u < U → m < N → bt (uu u) m = bt (uu' u) m) : ∃ a b, a = b ∧ (∀ post : Int32 → Prop, post a → wpX_usesName post (nI U, nI T, nI N, on, ok, fl, dp, tt, pr, K, V, ln, ue, dc, uu, ow, st, w, ch, no, ns, nr, es, nu, re, oT, oP) x y) ∧ (∀ post : Int32 → Prop, post b → wpX_usesName post (nI U, nI T, nI N, on', ok', fl', dp', tt', pr', K', V', ln', ue', dc', uu', ow', st', w', ch', no', ns', nr', es', nu', re', oT', oP') x y) := by
  unfold wpX_usesName
  rcases pk_ix x (n := U) (by omega) with ho | ho | ⟨u, hu, rfl⟩
  · exact ⟨0, 0, rfl, fun post hp => nx_hu0 hU (Or.inl ho) (br_t rfl hp), fun post hp => nx_hu0 hU (Or.inl ho) (br_t rfl hp)⟩
  · exact ⟨0, 0, rfl, fun post hp => nx_hu0 hU (Or.inr ho) (br_t rfl hp), fun post hp => nx_hu0 hU (Or.inr ho) (br_t rfl hp)⟩
  · have h8 : vp_in (nI u) 8 := vp_in_nI (by omega) (by decide)
    have hcu : (nI u).toNatClampNeg = u := nI_clamp (by omega)
    rcases pk_ix y (n := N) (by omega) with ho | ho | ⟨m, hm, rfl⟩
    · exact ⟨0, 0, rfl, fun post hp => nx_hu1 hU hu (br_f (by decide) (nx_hn0 hN (Or.inl ho) (br_t rfl hp))), fun post hp => nx_hu1 hU hu (br_f (by decide) (nx_hn0 hN (Or.inl ho) (br_t rfl hp)))⟩
    · exact ⟨0, 0, rfl, fun post hp => nx_hu1 hU hu (br_f (by decide) (nx_hn0 hN (Or.inr ho) (br_t rfl hp))), fun post hp => nx_hu1 hU hu (br_f (by decide) (nx_hn0 hN (Or.inr ho) (br_t rfl hp)))⟩
    · have hb := hA u m hu hm
      refine ⟨if bt (uu u) m = true then 1 else 0, if bt (uu' u) m = true then 1 else 0, by rw [hb], fun post hp => nx_hu1 hU hu (br_f (by decide) (nx_hn1 hN hm (br_f (by decide) ⟨h8, ?_⟩))), fun post hp => nx_hu1 hU hu (br_f (by decide) (nx_hn1 hN hm (br_f (by decide) ⟨h8, ?_⟩)))⟩
      · rw [hcu]
        refine nx_has (by omega) (fun h => br_f (by decide) ?_) (fun h => br_t rfl ?_)
        · rw [if_pos h] at hp; exact hp
        · rw [if_neg (by rw [h]; decide)] at hp; exact hp
      · rw [hcu]
        refine nx_has (by omega) (fun h => br_f (by decide) ?_) (fun h => br_t rfl ?_)
        · rw [if_pos h] at hp; exact hp
        · rw [if_neg (by rw [h]; decide)] at hp; exact hp
theorem nl_getTokenKind {U T N : Nat} {on ok fl dp tt pr : Int32} {K V ln ue dc uu ow st w ch no ns nr es nu re oT oP : Nat → Int32} {on' ok' fl' dp' tt' pr' : Int32} {K' V' ln' ue' dc' uu' ow' st' w' ch' no' ns' nr' es' nu' re' oT' oP' : Nat → Int32} {x y : Int32} (hU : U ≤ 8) (hT : T ≤ 32) (h1 : ∀ u, ∃ l, l ≤ T ∧ ln u = nI l) (h2 : ∀ u, u < U → ln u = ln' u) (hA : ∀ u i, u < U → i < nh_L ln u → K (u * 32 + i) = K' (u * 32 + i)) : ∃ a b, a = b ∧ (∀ post : Int32 → Prop, post a → wpX_getTokenKind post (nI U, nI T, nI N, on, ok, fl, dp, tt, pr, K, V, ln, ue, dc, uu, ow, st, w, ch, no, ns, nr, es, nu, re, oT, oP) x y) ∧ (∀ post : Int32 → Prop, post b → wpX_getTokenKind post (nI U, nI T, nI N, on', ok', fl', dp', tt', pr', K', V', ln', ue', dc', uu', ow', st', w', ch', no', ns', nr', es', nu', re', oT', oP') x y) := by
  unfold wpX_getTokenKind
  rcases pk_ix x (n := U) (by omega) with ho | ho | ⟨u, hu, rfl⟩
  · exact ⟨0, 0, rfl, fun post hp => nx_htu hU (Or.inl ho) (br_t rfl hp), fun post hp => nx_htu hU (Or.inl ho) (br_t rfl hp)⟩
  · exact ⟨0, 0, rfl, fun post hp => nx_htu hU (Or.inr ho) (br_t rfl hp), fun post hp => nx_htu hU (Or.inr ho) (br_t rfl hp)⟩
  · obtain ⟨L, hL, hl⟩ := h1 u
    have hl' : ln' u = nI L := (h2 u hu).symm.trans hl
    have e : nh_L ln u = L := by unfold nh_L; rw [hl]; exact nI_clamp (by omega)
    rcases pk_ix y (n := L) (by omega) with ho | ho | ⟨i, hi, rfl⟩
    · exact ⟨0, 0, rfl, fun post hp => nx_ht0 hU hu hl (by omega) (Or.inl ho) (br_t rfl hp), fun post hp => nx_ht0 hU hu hl' (by omega) (Or.inl ho) (br_t rfl hp)⟩
    · exact ⟨0, 0, rfl, fun post hp => nx_ht0 hU hu hl (by omega) (Or.inr ho) (br_t rfl hp), fun post hp => nx_ht0 hU hu hl' (by omega) (Or.inr ho) (br_t rfl hp)⟩
    · have hin : vp_in (nI u * 32 + nI i) 256 := by rw [nh_c32]; exact vp_in_nI (by omega) (by decide)
      refine ⟨K (nI u * 32 + nI i).toNatClampNeg, K' (nI u * 32 + nI i).toNatClampNeg, ?_, fun post hp => nx_ht1 hU hu hl (by omega) hi (br_f (by decide) ⟨hin, hp⟩), fun post hp => nx_ht1 hU hu hl' (by omega) hi (br_f (by decide) ⟨hin, hp⟩)⟩
      rw [nh_c32, nI_clamp (n := u * 32 + i) (by omega)]
      exact hA u i hu (by omega)
theorem nl_getTokenValue {U T N : Nat} {on ok fl dp tt pr : Int32} {K V ln ue dc uu ow st w ch no ns nr es nu re oT oP : Nat → Int32} {on' ok' fl' dp' tt' pr' : Int32} {K' V' ln' ue' dc' uu' ow' st' w' ch' no' ns' nr' es' nu' re' oT' oP' : Nat → Int32} {x y : Int32} (hU : U ≤ 8) (hT : T ≤ 32) (h1 : ∀ u, ∃ l, l ≤ T ∧ ln u = nI l) (h2 : ∀ u, u < U → ln u = ln' u) (hA : ∀ u i, u < U → i < nh_L ln u → V (u * 32 + i) = V' (u * 32 + i)) : ∃ a b, a = b ∧ (∀ post : Int32 → Prop, post a → wpX_getTokenValue post (nI U, nI T, nI N, on, ok, fl, dp, tt, pr, K, V, ln, ue, dc, uu, ow, st, w, ch, no, ns, nr, es, nu, re, oT, oP) x y) ∧ (∀ post : Int32 → Prop, post b → wpX_getTokenValue post (nI U, nI T, nI N, on', ok', fl', dp', tt', pr', K', V', ln', ue', dc', uu', ow', st', w', ch', no', ns', nr', es', nu', re', oT', oP') x y) := by
  unfold wpX_getTokenValue
  rcases pk_ix x (n := U) (by omega) with ho | ho | ⟨u, hu, rfl⟩
  · exact ⟨0, 0, rfl, fun post hp => nx_htu hU (Or.inl ho) (br_t rfl hp), fun post hp => nx_htu hU (Or.inl ho) (br_t rfl hp)⟩
  · exact ⟨0, 0, rfl, fun post hp => nx_htu hU (Or.inr ho) (br_t rfl hp), fun post hp => nx_htu hU (Or.inr ho) (br_t rfl hp)⟩
  · obtain ⟨L, hL, hl⟩ := h1 u
    have hl' : ln' u = nI L := (h2 u hu).symm.trans hl
    have e : nh_L ln u = L := by unfold nh_L; rw [hl]; exact nI_clamp (by omega)
    rcases pk_ix y (n := L) (by omega) with ho | ho | ⟨i, hi, rfl⟩
    · exact ⟨0, 0, rfl, fun post hp => nx_ht0 hU hu hl (by omega) (Or.inl ho) (br_t rfl hp), fun post hp => nx_ht0 hU hu hl' (by omega) (Or.inl ho) (br_t rfl hp)⟩
    · exact ⟨0, 0, rfl, fun post hp => nx_ht0 hU hu hl (by omega) (Or.inr ho) (br_t rfl hp), fun post hp => nx_ht0 hU hu hl' (by omega) (Or.inr ho) (br_t rfl hp)⟩
    · have hin : vp_in (nI u * 32 + nI i) 256 := by rw [nh_c32]; exact vp_in_nI (by omega) (by decide)
      refine ⟨V (nI u * 32 + nI i).toNatClampNeg, V' (nI u * 32 + nI i).toNatClampNeg, ?_, fun post hp => nx_ht1 hU hu hl (by omega) hi (br_f (by decide) ⟨hin, hp⟩), fun post hp => nx_ht1 hU hu hl' (by omega) hi (br_f (by decide) ⟨hin, hp⟩)⟩
      rw [nh_c32, nI_clamp (n := u * 32 + i) (by omega)]
      exact hA u i hu (by omega)
