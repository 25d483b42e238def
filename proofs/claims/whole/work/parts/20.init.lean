/-! 20: the constructors -/
theorem nh_clamp (p : Int32) (lo hi : Nat) (h : lo ≤ hi) (hh : hi < 2 ^ 31) : ∃ c, lo ≤ c ∧ c ≤ hi ∧ (∀ post : Int32 → Prop, post (nI c) → wpX_clamp post p (nI lo) (nI hi)) ∧
    (∀ A : Int32 → Prop, A (nI c) → ((nI lo ≤ p → ((p ≤ nI hi → A p) ∧ (¬ p ≤ nI hi → A (nI hi)))) ∧ (¬ nI lo ≤ p → A (nI lo)))) := by
  by_cases h1 : nI lo ≤ p
  · by_cases h2 : p ≤ nI hi
    · obtain ⟨c, hc, rfl⟩ := nI_of2 (nI_toInt hh) (nh_nn (by omega) h1) h2
      exact ⟨c, (nI_leI (by omega) (by omega)).mp h1, hc, fun post hp => br_t h1 (br_t h2 hp), fun A hp => br_t h1 (br_t h2 hp)⟩
    · exact ⟨hi, h, Nat.le_refl hi, fun post hp => br_t h1 (br_f h2 hp), fun A hp => br_t h1 (br_f h2 hp)⟩
  · exact ⟨lo, Nat.le_refl lo, h, fun post hp => br_f h1 hp, fun A hp => br_f h1 hp⟩
theorem nh_mxz (N : Nat) : nh_mx N nh_z0 nh_z0 = nh_z0 := by
  funext n
  by_cases e : n < N
  · exact nh_mxl e
  · exact nh_mxg (by omega)
def nh_m1 : Nat → Int32 := fun _ => -1
theorem nx_i211 {U T N : Nat} {on ok fl dp tt pr : Int32} {K V ln ue dc uu ow st w ch no ns nr es nu re oT oP : Nat → Int32} {post : SX → Prop} (hp : post (nI U, nI T, nI N, on, ok, fl, dp, tt, pr, K, V, ln, ue, dc, uu, nh_mx 16 nh_m1 ow, nh_mx 16 nh_z0 st, w, ch, no, ns, nr, es, nu, re, oT, oP)) : ∃ n, wX_init_211 post (nI U) (nI T) (nI N) on ok fl dp tt pr n 0 K V ln ue dc uu ow st w ch no ns nr es nu re oT oP := by
  have key : ∀ (d i n : Nat), i + d = 16 → d < n → wX_init_211 post (nI U) (nI T) (nI N) on ok fl dp tt pr n (nI i) K V ln ue dc uu (nh_mx i nh_m1 ow) (nh_mx i nh_z0 st) w ch no ns nr es nu re oT oP := by
    intro d
    induction d with
    | zero =>
      intro i n hi hn
      obtain ⟨m, rfl⟩ : ∃ m, n = m + 1 := ⟨n - 1, by omega⟩
      have e : i = 16 := by omega
      subst e
      exact br_t (nI_le (a := 16) (Nat.le_refl 16) (by decide)) hp
    | succ d ih =>
      intro i n hi hn
      obtain ⟨m, rfl⟩ : ∃ m, n = m + 1 := ⟨n - 1, by omega⟩
      have h16 : vp_in (nI i) 16 := vp_in_nI (by omega) (by decide)
      refine br_f (nI_ge (b := 16) (by omega) (by decide)) ⟨h16, ?_⟩
      rw [nI_clamp (n := i) (by omega)]
      exact nm_r (nh_mxs i nh_m1 ow) ⟨h16, nm_r (nh_mxs i nh_z0 st) (nm_r (nI_1 i) (ih (i + 1) m (by omega) (by omega)))⟩
  have h0 := key 16 0 17 (by omega) (by omega)
  rw [nh_mx0, nh_mx0] at h0
  exact ⟨17, h0⟩
theorem nx_i187 {U T N : Nat} {on ok fl dp tt pr : Int32} {K V ln ue dc uu ow st w ch no ns nr es nu re oT oP : Nat → Int32} {post : SX → Prop} (hp : post (nI U, nI T, nI N, on, ok, fl, dp, tt, pr, K, V, ln, nh_mx 8 nh_m1 ue, dc, uu, nh_mx 16 nh_m1 ow, nh_mx 16 nh_z0 st, w, ch, no, ns, nr, es, nu, re, oT, oP)) : ∃ n, wX_init_187 post (nI U) (nI T) (nI N) on ok fl dp tt pr n 0 K V ln ue dc uu ow st w ch no ns nr es nu re oT oP := by
  have key : ∀ (d i n : Nat), i + d = 8 → d < n → wX_init_187 post (nI U) (nI T) (nI N) on ok fl dp tt pr n (nI i) K V ln (nh_mx i nh_m1 ue) dc uu ow st w ch no ns nr es nu re oT oP := by
    intro d
    induction d with
    | zero =>
      intro i n hi hn
      obtain ⟨m, rfl⟩ : ∃ m, n = m + 1 := ⟨n - 1, by omega⟩
      have e : i = 8 := by omega
      subst e
      exact br_t (nI_le (a := 8) (Nat.le_refl 8) (by decide)) (nx_i211 hp)
    | succ d ih =>
      intro i n hi hn
      obtain ⟨m, rfl⟩ : ∃ m, n = m + 1 := ⟨n - 1, by omega⟩
      have h8 : vp_in (nI i) 8 := vp_in_nI (by omega) (by decide)
      refine br_f (nI_ge (b := 8) (by omega) (by decide)) ⟨h8, ?_⟩
      rw [nI_clamp (n := i) (by omega)]
      exact nm_r (nh_mxs i nh_m1 ue) (nm_r (nI_1 i) (ih (i + 1) m (by omega) (by omega)))
  have h0 := key 8 0 9 (by omega) (by omega)
  rw [nh_mx0] at h0
  exact ⟨9, h0⟩
theorem ny_i264 {U T N : Nat} {K V ln ue dc us ow st w ch ds po ps pv rc rd fS fP fN : Nat → Int32} {post : SY → Prop} (hp : post (nI U, nI T, nI N, K, V, ln, ue, dc, us, nh_mx 16 nh_m1 ow, st, w, ch, ds, po, ps, pv, rc, rd, fS, fP, fN)) : ∃ n, wY_init_264 post (nI U) (nI T) (nI N) n 0 K V ln ue dc us ow st w ch ds po ps pv rc rd fS fP fN := by
  have key : ∀ (d i n : Nat), i + d = 16 → d < n → wY_init_264 post (nI U) (nI T) (nI N) n (nI i) K V ln ue dc us (nh_mx i nh_m1 ow) st w ch ds po ps pv rc rd fS fP fN := by
    intro d
    induction d with
    | zero =>
      intro i n hi hn
      obtain ⟨m, rfl⟩ : ∃ m, n = m + 1 := ⟨n - 1, by omega⟩
      have e : i = 16 := by omega
      subst e
      exact br_t (nI_le (a := 16) (Nat.le_refl 16) (by decide)) hp
    | succ d ih =>
      intro i n hi hn
      obtain ⟨m, rfl⟩ : ∃ m, n = m + 1 := ⟨n - 1, by omega⟩
      have h16 : vp_in (nI i) 16 := vp_in_nI (by omega) (by decide)
      refine br_f (nI_ge (b := 16) (by omega) (by decide)) ⟨h16, ?_⟩
      rw [nI_clamp (n := i) (by omega)]
      exact nm_r (nh_mxs i nh_m1 ow) (nm_r (nI_1 i) (ih (i + 1) m (by omega) (by omega)))
  have h0 := key 16 0 17 (by omega) (by omega)
  rw [nh_mx0] at h0
  exact ⟨17, h0⟩
theorem ny_i240 {U T N : Nat} {K V ln ue dc us ow st w ch ds po ps pv rc rd fS fP fN : Nat → Int32} {post : SY → Prop} (hp : post (nI U, nI T, nI N, K, V, ln, nh_mx 8 nh_m1 ue, dc, us, nh_mx 16 nh_m1 ow, st, w, ch, ds, po, ps, pv, rc, rd, fS, fP, fN)) : ∃ n, wY_init_240 post (nI U) (nI T) (nI N) n 0 K V ln ue dc us ow st w ch ds po ps pv rc rd fS fP fN := by
  have key : ∀ (d i n : Nat), i + d = 8 → d < n → wY_init_240 post (nI U) (nI T) (nI N) n (nI i) K V ln (nh_mx i nh_m1 ue) dc us ow st w ch ds po ps pv rc rd fS fP fN := by
    intro d
    induction d with
    | zero =>
      intro i n hi hn
      obtain ⟨m, rfl⟩ : ∃ m, n = m + 1 := ⟨n - 1, by omega⟩
      have e : i = 8 := by omega
      subst e
      exact br_t (nI_le (a := 8) (Nat.le_refl 8) (by decide)) (ny_i264 hp)
    | succ d ih =>
      intro i n hi hn
      obtain ⟨m, rfl⟩ : ∃ m, n = m + 1 := ⟨n - 1, by omega⟩
      have h8 : vp_in (nI i) 8 := vp_in_nI (by omega) (by decide)
      refine br_f (nI_ge (b := 8) (by omega) (by decide)) ⟨h8, ?_⟩
      rw [nI_clamp (n := i) (by omega)]
      exact nm_r (nh_mxs i nh_m1 ue) (nm_r (nI_1 i) (ih (i + 1) m (by omega) (by omega)))
  have h0 := key 8 0 9 (by omega) (by omega)
  rw [nh_mx0] at h0
  exact ⟨9, h0⟩
theorem nh_R0 {U T N : Nat} (hU : 2 ≤ U ∧ U ≤ 8) (hT : 8 ≤ T ∧ T ≤ 32) (hN : 4 ≤ N ∧ N ≤ 16) : nh_Rel U T N nh_z0 nh_z0 nh_z0 (nh_mx 8 nh_m1 nh_z0) nh_z0 nh_z0 := by
  refine ⟨hU, hT, hN, fun u => ⟨0, Nat.zero_le T, rfl⟩, fun p hp => absurd (show (0 : Int32) = 2 from hp) (by decide), fun u m _ _ => ?_, fun u hu he => absurd (nh_mxl (by omega)) he⟩
  rw [show nh_z0 u = 0 from rfl, b_0]
  rfl
theorem i_vc0 (k0 : Int32) (k1 : Int32) (k2 : Int32) : wpX_init (fun u => wpY_init (fun v => i_Rel 3 u v) k0 k1 k2) k0 k1 k2 := by
  obtain ⟨U, hU1, hU2, xU, yU⟩ := nh_clamp k0 2 8 (by decide) (by decide)
  obtain ⟨T, hT1, hT2, xT, yT⟩ := nh_clamp k1 8 32 (by decide) (by decide)
  obtain ⟨N, hN1, hN2, xN, yN⟩ := nh_clamp k2 4 16 (by decide) (by decide)
  have hR := nh_R0 (U := U) (T := T) (N := N) ⟨hU1, hU2⟩ ⟨hT1, hT2⟩ ⟨hN1, hN2⟩
  unfold wpX_init
  refine xU _ (xT _ (xN _ (nx_i187 ?_)))
  have hY : wpY_init (fun v => i_Rel 3 (nI U, nI T, nI N, 0, 0, 0, 0, 0, 0, nh_z0, nh_z0, nh_z0, nh_mx 8 nh_m1 nh_z0, nh_z0, nh_z0, nh_mx 16 nh_m1 nh_z0, nh_mx 16 nh_z0 nh_z0, nh_z0, nh_z0, nh_z0, nh_z0, nh_z0, nh_z0, nh_z0, nh_z0, nh_z0, nh_z0) v) k0 k1 k2 := by
    rw [nh_mxz]
    exact yU (fun z => wY_init_182 _ k1 k2 z 0 0 0 (fun _ => 0) (fun _ => 0) (fun _ => 0) (fun _ => 0) (fun _ => 0) (fun _ => 0) (fun _ => 0) (fun _ => 0) (fun _ => 0) (fun _ => 0) (fun _ => 0) (fun _ => 0) (fun _ => 0) (fun _ => 0) (fun _ => 0) (fun _ => 0) (fun _ => 0) (fun _ => 0) (fun _ => 0))
      (yT (fun z => wY_init_209 _ k2 z (nI U) 0 0 (fun _ => 0) (fun _ => 0) (fun _ => 0) (fun _ => 0) (fun _ => 0) (fun _ => 0) (fun _ => 0) (fun _ => 0) (fun _ => 0) (fun _ => 0) (fun _ => 0) (fun _ => 0) (fun _ => 0) (fun _ => 0) (fun _ => 0) (fun _ => 0) (fun _ => 0) (fun _ => 0) (fun _ => 0))
        (yN (fun z => ∃ n240, wY_init_240 _ (nI U) (nI T) z n240 0 (fun _ => 0) (fun _ => 0) (fun _ => 0) (fun _ => 0) (fun _ => 0) (fun _ => 0) (fun _ => 0) (fun _ => 0) (fun _ => 0) (fun _ => 0) (fun _ => 0) (fun _ => 0) (fun _ => 0) (fun _ => 0) (fun _ => 0) (fun _ => 0) (fun _ => 0) (fun _ => 0) (fun _ => 0))
          (ny_i240 (nh_mkR hR))))
  exact hY
