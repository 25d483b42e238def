/-! 17: the small methods, each side; the shifts of tokens -/
theorem nh_nn {n : Nat} {x : Int32} (hn : n < 2 ^ 31) (h : nI n ≤ x) : ¬ x < 0 := Int32.not_lt.mpr (Int32.le_trans (nI_pos' hn) h)
theorem nx_hu1 {U T N : Nat} {on ok fl dp tt pr : Int32} {K V ln ue dc uu ow st w ch no ns nr es nu re oT oP : Nat → Int32} {post : Int32 → Prop} {u : Nat} (hU : U ≤ 8) (hu : u < U) (hp : post 1) : wpX_hasUnit post (nI U, nI T, nI N, on, ok, fl, dp, tt, pr, K, V, ln, ue, dc, uu, ow, st, w, ch, no, ns, nr, es, nu, re, oT, oP) (nI u) := br_f (nI_pos (by omega)) (br_f (nI_ge hu (by omega)) hp)
theorem nx_hu0 {U T N : Nat} {on ok fl dp tt pr : Int32} {K V ln ue dc uu ow st w ch no ns nr es nu re oT oP : Nat → Int32} {post : Int32 → Prop} {x : Int32} (hU : U ≤ 8) (hx : x < 0 ∨ nI U ≤ x) (hp : post 0) : wpX_hasUnit post (nI U, nI T, nI N, on, ok, fl, dp, tt, pr, K, V, ln, ue, dc, uu, ow, st, w, ch, no, ns, nr, es, nu, re, oT, oP) x := by
  rcases hx with h | h
  · exact br_t h hp
  · exact br_f (nh_nn (by omega) h) (br_t h hp)
theorem nx_hn1 {U T N : Nat} {on ok fl dp tt pr : Int32} {K V ln ue dc uu ow st w ch no ns nr es nu re oT oP : Nat → Int32} {post : Int32 → Prop} {u : Nat} (hN : N ≤ 16) (hu : u < N) (hp : post 1) : wpX_hasName post (nI U, nI T, nI N, on, ok, fl, dp, tt, pr, K, V, ln, ue, dc, uu, ow, st, w, ch, no, ns, nr, es, nu, re, oT, oP) (nI u) := br_f (nI_pos (by omega)) (br_f (nI_ge hu (by omega)) hp)
theorem nx_hn0 {U T N : Nat} {on ok fl dp tt pr : Int32} {K V ln ue dc uu ow st w ch no ns nr es nu re oT oP : Nat → Int32} {post : Int32 → Prop} {x : Int32} (hN : N ≤ 16) (hx : x < 0 ∨ nI N ≤ x) (hp : post 0) : wpX_hasName post (nI U, nI T, nI N, on, ok, fl, dp, tt, pr, K, V, ln, ue, dc, uu, ow, st, w, ch, no, ns, nr, es, nu, re, oT, oP) x := by
  rcases hx with h | h
  · exact br_t h hp
  · exact br_f (nh_nn (by omega) h) (br_t h hp)
/-- a token that may be stored -/
def nh_tk (N : Nat) (k v : Int32) : Prop := ¬ k < 1 ∧ ¬ 9 < k ∧ (k = 2 → ∃ m, m < N ∧ v = nI m)
theorem nx_tk1 {U T N : Nat} {on ok fl dp tt pr : Int32} {K V ln ue dc uu ow st w ch no ns nr es nu re oT oP : Nat → Int32} {post : Int32 → Prop} {k v : Int32} (hN : N ≤ 16) (h : nh_tk N k v) (hp : post 1) : wpX_isToken post (nI U, nI T, nI N, on, ok, fl, dp, tt, pr, K, V, ln, ue, dc, uu, ow, st, w, ch, no, ns, nr, es, nu, re, oT, oP) k v := by
  by_cases k2 : k = 2
  · obtain ⟨m, hm, rfl⟩ := h.2.2 k2
    exact br_t k2 (nx_hn1 hN hm ⟨rfl, hp⟩)
  · exact br_f k2 (br_f h.1 (br_f h.2.1 hp))
theorem nx_tk0 {U T N : Nat} {on ok fl dp tt pr : Int32} {K V ln ue dc uu ow st w ch no ns nr es nu re oT oP : Nat → Int32} {post : Int32 → Prop} {k v : Int32} (hN : N ≤ 16) (h : ¬ nh_tk N k v) (hp : post 0) : wpX_isToken post (nI U, nI T, nI N, on, ok, fl, dp, tt, pr, K, V, ln, ue, dc, uu, ow, st, w, ch, no, ns, nr, es, nu, re, oT, oP) k v := by
  by_cases k2 : k = 2
  · refine br_t k2 ?_
    rcases pk_ix v (n := N) (by omega) with ho | ho | ⟨m, hm, e⟩
    · exact nx_hn0 hN (Or.inl ho) ⟨rfl, hp⟩
    · exact nx_hn0 hN (Or.inr ho) ⟨rfl, hp⟩
    · exact absurd ⟨by rw [k2]; decide, by rw [k2]; decide, fun _ => ⟨m, hm, e⟩⟩ h
  · exact br_f k2 (br_c (fun _ => hp) (fun h1 => br_c (fun _ => hp) (fun h2 => absurd ⟨h1, h2, fun h3 => absurd h3 k2⟩ h)))
def nh_tv (k v : Int32) : Int32 := if k = 1 then v else if k = 2 then v else 0
theorem nh_tvk {N : Nat} {k v : Int32} (h : nh_tk N k v) : k = 2 → ∃ m, m < N ∧ nh_tv k v = nI m := by
  intro k2
  obtain ⟨m, hm, e⟩ := h.2.2 k2
  refine ⟨m, hm, ?_⟩
  rw [nh_tv, if_neg (by rw [k2]; decide), if_pos k2, e]
theorem nx_put {U T N : Nat} {on ok fl dp tt pr : Int32} {K V ln ue dc uu ow st w ch no ns nr es nu re oT oP : Nat → Int32} {post : St2 → Prop} {u i : Nat} {k v : Int32} (hi : u * 32 + i < 256) (hp : post (nI U, nI T, nI N, on, ok, fl, dp, tt, pr, upd K (u * 32 + i) k, upd V (u * 32 + i) (nh_tv k v), ln, ue, dc, uu, ow, st, w, ch, no, ns, nr, es, nu, re, oT, oP)) : wpX_putToken post (nI U, nI T, nI N, on, ok, fl, dp, tt, pr, K, V, ln, ue, dc, uu, ow, st, w, ch, no, ns, nr, es, nu, re, oT, oP) (nI u) (nI i) k v := by
  have hin : vp_in (nI (u * 32 + i)) 256 := vp_in_nI hi (by decide)
  refine nm_r (nh_c32 u i) ⟨hin, ?_⟩
  rw [nI_clamp (n := u * 32 + i) (by omega)]
  refine nm_e ?_
  by_cases k1 : k = 1
  · rw [nh_tv, if_pos k1] at hp
    exact br_t k1 ⟨hin, nm_e hp⟩
  · rw [nh_tv, if_neg k1] at hp
    by_cases k2 : k = 2
    · rw [if_pos k2] at hp
      exact br_f k1 (br_t k2 ⟨hin, nm_e hp⟩)
    · rw [if_neg k2] at hp
      exact br_f k1 (br_f k2 ⟨hin, nm_e hp⟩)
theorem nx_move {U T N : Nat} {on ok fl dp tt pr : Int32} {K V ln ue dc uu ow st w ch no ns nr es nu re oT oP : Nat → Int32} {post : St2 → Prop} {u i j : Nat} (hi : u * 32 + i < 256) (hj : u * 32 + j < 256) (hp : post (nI U, nI T, nI N, on, ok, fl, dp, tt, pr, upd K (u * 32 + j) (K (u * 32 + i)), upd V (u * 32 + j) (V (u * 32 + i)), ln, ue, dc, uu, ow, st, w, ch, no, ns, nr, es, nu, re, oT, oP)) : wpX_moveToken post (nI U, nI T, nI N, on, ok, fl, dp, tt, pr, K, V, ln, ue, dc, uu, ow, st, w, ch, no, ns, nr, es, nu, re, oT, oP) (nI u) (nI i) (nI j) := by
  have h1 : vp_in (nI (u * 32 + i)) 256 := vp_in_nI hi (by decide)
  have h2 : vp_in (nI (u * 32 + j)) 256 := vp_in_nI hj (by decide)
  refine nm_r (nh_e32 u) ?_
  rw [nI_add, nI_add, nI_clamp (n := u * 32 + i) (by omega), nI_clamp (n := u * 32 + j) (by omega)]
  exact ⟨h1, h2, nm_e ⟨h1, h2, nm_e hp⟩⟩
theorem nx_ht1 {U T N : Nat} {on ok fl dp tt pr : Int32} {K V ln ue dc uu ow st w ch no ns nr es nu re oT oP : Nat → Int32} {post : Int32 → Prop} {u i L : Nat} (hU : U ≤ 8) (hu : u < U) (hl : ln u = nI L) (hL : L ≤ 32) (hi : i < L) (hp : post 1) : wpX_holdsToken post (nI U, nI T, nI N, on, ok, fl, dp, tt, pr, K, V, ln, ue, dc, uu, ow, st, w, ch, no, ns, nr, es, nu, re, oT, oP) (nI u) (nI i) := by
  unfold wpX_holdsToken
  refine nx_hu1 hU hu (br_f (by decide) (br_f (nI_pos (by omega)) ⟨vp_in_nI (by omega) (by decide), ?_⟩))
  rw [nI_clamp (n := u) (by omega), hl]
  exact br_f (nI_ge hi (by omega)) hp
theorem nx_ht0 {U T N : Nat} {on ok fl dp tt pr : Int32} {K V ln ue dc uu ow st w ch no ns nr es nu re oT oP : Nat → Int32} {post : Int32 → Prop} {u L : Nat} {x : Int32} (hU : U ≤ 8) (hu : u < U) (hl : ln u = nI L) (hL : L ≤ 32) (hx : x < 0 ∨ nI L ≤ x) (hp : post 0) : wpX_holdsToken post (nI U, nI T, nI N, on, ok, fl, dp, tt, pr, K, V, ln, ue, dc, uu, ow, st, w, ch, no, ns, nr, es, nu, re, oT, oP) (nI u) x := by
  unfold wpX_holdsToken
  refine nx_hu1 hU hu (br_f (by decide) ?_)
  rcases hx with h | h
  · exact br_t h hp
  · refine br_f (nh_nn (by omega) h) ⟨vp_in_nI (by omega) (by decide), ?_⟩
    rw [nI_clamp (n := u) (by omega), hl]
    exact br_t h hp
theorem nx_htu {U T N : Nat} {on ok fl dp tt pr : Int32} {K V ln ue dc uu ow st w ch no ns nr es nu re oT oP : Nat → Int32} {post : Int32 → Prop} {x y : Int32} (hU : U ≤ 8) (hx : x < 0 ∨ nI U ≤ x) (hp : post 0) : wpX_holdsToken post (nI U, nI T, nI N, on, ok, fl, dp, tt, pr, K, V, ln, ue, dc, uu, ow, st, w, ch, no, ns, nr, es, nu, re, oT, oP) x y := by
  unfold wpX_holdsToken
  exact nx_hu0 hU hx (br_t rfl hp)
/-! the shifts: up from the end (insert), down from an index (delete) -/
def nh_sh (b i : Nat) : Nat → (Nat → Int32) → Nat → Int32
  | 0, K => K
  | d + 1, K => nh_sh b i d (upd K (b + (i + d + 1)) (K (b + (i + d))))
def nh_sd (b : Nat) : Nat → Nat → (Nat → Int32) → Nat → Int32
  | 0, _, K => K
  | d + 1, j, K => nh_sd b d (j + 1) (upd K (b + j) (K (b + (j + 1))))
theorem nh_TVc {N : Nat} {K V : Nat → Int32} {p q : Nat} (h : nh_TV N K V) : nh_TV N (upd K p (K q)) (upd V p (V q)) := nh_TVu h (fun e => h q e)
theorem nh_shT {N b i : Nat} : ∀ (d : Nat) (K V : Nat → Int32), nh_TV N K V → nh_TV N (nh_sh b i d K) (nh_sh b i d V) := by
  intro d
  induction d with
  | zero => intro K V h; exact h
  | succ d ih => intro K V h; exact ih _ _ (nh_TVc h)
theorem nh_sdT {N b : Nat} : ∀ (d j : Nat) (K V : Nat → Int32), nh_TV N K V → nh_TV N (nh_sd b d j K) (nh_sd b d j V) := by
  intro d
  induction d with
  | zero => intro j K V h; exact h
  | succ d ih => intro j K V h; exact ih _ _ _ (nh_TVc h)
theorem nx_ins {U T N : Nat} {on ok fl dp tt pr : Int32} {ln ue dc uu ow st w ch no ns nr es nu re oT oP : Nat → Int32} {post : Int32 → St2 → Prop} {u i L : Nat} {k v : Int32} (hu : u < 8) (hl : ln u = nI L) : ∀ (d n : Nat) (K V : Nat → Int32), i + d ≤ 31 → d < n →
    post 1 (nI U, nI T, nI N, on, ok, fl, dp, tt, pr, upd (nh_sh (u * 32) i d K) (u * 32 + i) k, upd (nh_sh (u * 32) i d V) (u * 32 + i) (nh_tv k v), upd ln u (nI (L + 1)), ue, dc, uu, ow, st, w, ch, no, ns, nr, es, nu, re, oT, oP) → wX_insertToken_57 post (nI u) (nI i) k v n (nI (i + d)) (nI U) (nI T) (nI N) on ok fl dp tt pr K V ln ue dc uu ow st w ch no ns nr es nu re oT oP := by
  have h8 : vp_in (nI u) 8 := vp_in_nI hu (by decide)
  intro d
  induction d with
  | zero =>
    intro n K V hd hn hp
    obtain ⟨m, rfl⟩ : ∃ m, n = m + 1 := ⟨n - 1, by omega⟩
    refine br_t (nI_le (by omega) (by omega)) (nx_put (by omega) ⟨h8, h8, ?_⟩)
    rw [nI_clamp (n := u) (by omega), hl]
    exact nm_r (congrArg (upd ln u) (nI_1 L)) hp
  | succ d ih =>
    intro n K V hd hn hp
    obtain ⟨m, rfl⟩ : ∃ m, n = m + 1 := ⟨n - 1, by omega⟩
    refine br_f (nI_ge (by omega) (by omega)) ?_
    rw [show nI (i + (d + 1)) - 1 = nI (i + d) from nI_pred (i + d)]
    exact nx_move (by omega) (by omega) (nm_r (pk_m1 (i + d)) (ih m _ _ (by omega) (by omega) hp))
theorem nx_del {U T N : Nat} {on ok fl dp tt pr : Int32} {ln ue dc uu ow st w ch no ns nr es nu re oT oP : Nat → Int32} {post : Int32 → St2 → Prop} {u L : Nat} (hu : u < 8) (hl : ln u = nI (L + 1)) (hL : L < 32) : ∀ (d j n : Nat) (K V : Nat → Int32), j + d = L → d < n →
    post 1 (nI U, nI T, nI N, on, ok, fl, dp, tt, pr, nh_sd (u * 32) d j K, nh_sd (u * 32) d j V, upd ln u (nI L), ue, dc, uu, ow, st, w, ch, no, ns, nr, es, nu, re, oT, oP) → wX_deleteToken_15 post (nI u) n (nI (j + 1)) (nI U) (nI T) (nI N) on ok fl dp tt pr K V ln ue dc uu ow st w ch no ns nr es nu re oT oP := by
  have h8 : vp_in (nI u) 8 := vp_in_nI hu (by decide)
  intro d
  induction d with
  | zero =>
    intro j n K V hd hn hp
    obtain ⟨m, rfl⟩ : ∃ m, n = m + 1 := ⟨n - 1, by omega⟩
    refine ⟨h8, ?_⟩
    rw [nI_clamp (n := u) (by omega), hl]
    exact br_t (nI_le (by omega) (by omega)) ⟨h8, h8, nm_r (congrArg (upd ln u) (nI_pred L)) hp⟩
  | succ d ih =>
    intro j n K V hd hn hp
    obtain ⟨m, rfl⟩ : ∃ m, n = m + 1 := ⟨n - 1, by omega⟩
    refine ⟨h8, ?_⟩
    rw [nI_clamp (n := u) (by omega), hl, nI_pred j]
    exact br_f (nI_ge (by omega) (by omega)) (nx_move (by omega) (by omega) (nm_r (nI_1 (j + 1)) (ih (j + 1) m _ _ (by omega) (by omega) hp)))
