/-! 08: X reads the units -/
def nh_E (K ln : Nat → Int32) (u : Nat) : Int32 := nh_er K (u * 32) (nh_L ln u) 0
def nh_C (K ln : Nat → Int32) (u : Nat) : Int32 := if nh_E K ln u = -1 then nI (nh_ct K (u * 32) (nh_L ln u)) else 0
def nh_ubits (K V ln : Nat → Int32) (u : Nat) (x : Int32) : Prop := ∀ m, m < 32 → (bt x m = true ↔ (nh_E K ln u = -1 ∧ nh_uu K V (u * 32) (nh_L ln u) m))
theorem nh_uself (f : Nat → Int32) (k : Nat) : upd f k (f k) = f := by
  funext j
  by_cases e : j = k
  · rw [e, pk_us]
  · rw [pk_un e]
theorem nx_in {post : Int32 → Prop} {k : Int32} {d : Nat} (hp : post (nI (nh_nx k 2 d))) : wpX_stateInOperand post () k := by
  rw [nh_n2] at hp
  by_cases k1 : k = 1
  · rw [if_pos k1] at hp; subst k1; exact br_f (by decide) (br_f (by decide) (br_t rfl hp))
  rw [if_neg k1] at hp
  by_cases k2 : k = 2
  · rw [if_pos k2] at hp; subst k2; exact br_f (by decide) (br_f (by decide) (br_f (by decide) (br_t rfl hp)))
  rw [if_neg k2] at hp
  by_cases k4 : k = 4
  · rw [if_pos k4] at hp; subst k4; exact br_f (by decide) (br_f (by decide) (br_f (by decide) (br_f (by decide) (br_f (by decide) (br_t rfl hp)))))
  rw [if_neg k4] at hp
  by_cases k6 : k = 6
  · rw [if_pos k6] at hp; subst k6; exact br_f (by decide) (br_f (by decide) (br_f (by decide) (br_f (by decide) (br_f (by decide) (br_f (by decide) (br_f (by decide) (br_t rfl hp)))))))
  rw [if_neg k6] at hp
  have h4 : post 4 := hp
  exact br_c (fun _ => h4) (fun _ => br_c (fun _ => h4) (fun _ => br_f k1 (br_f k2 (br_c (fun _ => h4) (fun _ => br_f k4 (br_c (fun _ => h4) (fun _ => br_f k6 trivial)))))))
theorem nx_after {post : Int32 → Prop} {k : Int32} {d : Nat} (hd : d < 2 ^ 31) (hp : post (nI (nh_nx k 3 d))) : wpX_stateAfterOperand post () k (nI d) := by
  rw [nh_n3] at hp
  by_cases k3 : k = 3
  · rw [if_pos k3] at hp; subst k3; exact br_f (by decide) (br_f (by decide) (br_t rfl hp))
  rw [if_neg k3] at hp
  by_cases k4 : k = 4
  · rw [if_pos k4] at hp; subst k4; exact br_f (by decide) (br_f (by decide) (br_f (by decide) (br_t rfl hp)))
  rw [if_neg k4] at hp
  by_cases k5 : k = 5
  · rw [if_pos k5] at hp; subst k5; exact br_f (by decide) (br_f (by decide) (br_f (by decide) (br_f (by decide) (br_t rfl hp))))
  rw [if_neg k5] at hp
  by_cases k7 : k = 7
  · rw [if_pos k7] at hp; subst k7
    refine br_f (by decide) (br_f (by decide) (br_f (by decide) (br_f (by decide) (br_f (by decide) (br_f (by decide) (br_t rfl ?_))))))
    by_cases hz : 0 < d
    · rw [if_pos hz] at hp; exact br_f (nI_nle hz hd) hp
    · rw [if_neg hz] at hp
      have e : d = 0 := by omega
      subst e
      exact br_t (by decide) hp
  rw [if_neg k7] at hp
  by_cases k9 : k = 9
  · rw [if_pos k9] at hp; subst k9
    refine br_f (by decide) (br_f (by decide) (br_f (by decide) (br_f (by decide) (br_f (by decide) (br_f (by decide) (br_f (by decide) (br_f (by decide) (br_t rfl ?_))))))))
    by_cases hz : d = 0
    · rw [if_pos hz] at hp; subst hz; exact br_t (by decide) hp
    · rw [if_neg hz] at hp; exact br_f (nI_ne0 (by omega) hd) hp
  rw [if_neg k9] at hp
  have h4 : post 4 := hp
  exact br_c (fun _ => h4) (fun _ => br_c (fun _ => h4) (fun _ => br_f k3 (br_f k4 (br_f k5 (br_c (fun _ => h4) (fun _ => br_f k7 (br_c (fun _ => h4) (fun _ => br_f k9 trivial))))))))
theorem nx_next {post : Int32 → Prop} {k : Int32} {st d : Nat} (hs : st ≤ 3) (hd : d < 2 ^ 31) (hp : post (nI (nh_nx k st d))) : wpX_nextState post () (nI st) k (nI d) := by
  have hc : st = 0 ∨ st = 1 ∨ st = 2 ∨ st = 3 := by omega
  rcases hc with e | e | e | e
  · subst e
    rw [nh_n0] at hp
    refine br_f (by decide) (br_f (by decide) (br_t (by decide) ?_))
    by_cases k2 : k = 2
    · rw [if_pos k2] at hp; exact br_t k2 hp
    · rw [if_neg k2] at hp; exact br_f k2 hp
  · subst e
    rw [nh_n1] at hp
    refine br_f (by decide) (br_f (by decide) (br_f (by decide) (br_t (by decide) ?_)))
    by_cases k2 : k = 8
    · rw [if_pos k2] at hp; exact br_t k2 hp
    · rw [if_neg k2] at hp; exact br_f k2 hp
  · subst e
    exact br_f (by decide) (br_f (by decide) (br_f (by decide) (br_f (by decide) (br_t (by decide) (nx_in hp)))))
  · subst e
    exact br_f (by decide) (br_t (by decide) (nx_after hd hp))
theorem nh_Dle (K : Nat → Int32) (b : Nat) : ∀ i, nh_D K b i ≤ i := by
  intro i
  induction i with
  | zero => exact Nat.le_refl 0
  | succ i ih => rw [nh_D1, nh_dp]; split <;> (try split) <;> omega
theorem nh_D6 {K : Nat → Int32} {b i : Nat} (h : K (b + i) = 6) : nh_D K b (i + 1) = nh_D K b i + 1 := by rw [nh_D1, nh_dp, if_pos h]
theorem nh_D7 {K : Nat → Int32} {b i : Nat} (h : K (b + i) = 7) : nh_D K b (i + 1) = nh_D K b i - 1 := by rw [nh_D1, nh_dp, if_neg (by rw [h]; decide), if_pos h]
theorem nh_Dn {K : Nat → Int32} {b i : Nat} (h6 : ¬ K (b + i) = 6) (h7 : ¬ K (b + i) = 7) : nh_D K b (i + 1) = nh_D K b i := by rw [nh_D1, nh_dp, if_neg h6, if_neg h7]
/-- a closing parenthesis that is taken closes an open one -/
theorem nh_7pos {st d : Nat} (hs : st ≤ 3) (h : nh_nx 7 st d ≠ 4) : 0 < d := by
  have hc : st = 0 ∨ st = 1 ∨ st = 2 ∨ st = 3 := by omega
  rcases hc with e | e | e | e
  · subst e; exact absurd (nh_x0 h).1 (by decide)
  · subst e; exact absurd (nh_x1 h).1 (by decide)
  · subst e
    rcases nh_x2 h with ⟨h1, _⟩ | ⟨h1, _⟩
    · exact absurd h1 (by decide)
    · exact absurd h1 (by decide)
  · subst e
    rcases nh_x3 h with ⟨h1, _⟩ | h1 | ⟨h1, _⟩
    · exact absurd h1 (by decide)
    · exact h1.2.1
    · exact absurd h1 (by decide)
theorem nx_fe {U T N : Nat} {on ok fl dp tt pr : Int32} {K V ln ue dc uu ow st w ch no ns nr es nu re oT oP : Nat → Int32} {post : Int32 → Prop} {u L : Nat} (hu : u < 8) (hl : ln u = nI L) (hL : L ≤ 32) : ∀ (d i n : Nat), i + d = L → d < n → nh_S K (u * 32) i ≤ 3 → post (nh_er K (u * 32) d i) →
    wX_findError_7 post (nI u) (nI U) (nI T) (nI N) on ok fl dp tt pr K V ln ue dc uu ow st w ch no ns nr es nu re oT oP n (nI (nh_S K (u * 32) i)) (nI (nh_D K (u * 32) i)) (nI i) := by
  have hcu : (nI u).toNatClampNeg = u := nI_clamp (by omega)
  intro d
  induction d with
  | zero =>
    intro i n hi hn hs hp
    obtain ⟨m, rfl⟩ : ∃ m, n = m + 1 := ⟨n - 1, by omega⟩
    refine ⟨vp_in_nI hu (by decide), ?_⟩
    rw [hcu, hl]
    refine br_t (nI_le (by omega) (by omega)) ?_
    rw [nh_er] at hp
    by_cases e : nh_S K (u * 32) i = 0
    · rw [if_pos e] at hp
      rw [e]
      exact br_t (by decide) hp
    · rw [if_neg e] at hp
      refine br_f (nI_ne0 (by omega) (by omega)) ⟨vp_in_nI hu (by decide), ?_⟩
      rw [show L = i by omega]
      exact hp
  | succ d ih =>
    intro i n hi hn hs hp
    obtain ⟨m, rfl⟩ : ∃ m, n = m + 1 := ⟨n - 1, by omega⟩
    have hD := nh_Dle K (u * 32) i
    refine ⟨vp_in_nI hu (by decide), ?_⟩
    rw [hcu, hl]
    refine br_f (nI_ge (by omega) (by omega)) ?_
    rw [nh_c32, nI_clamp (n := u * 32 + i) (by omega)]
    refine ⟨vp_in_nI (by omega) (by decide), nm_e (nx_next hs (by omega) ?_)⟩
    rw [← nh_S1]
    rw [nh_er] at hp
    by_cases h4 : nh_S K (u * 32) (i + 1) = 4
    · rw [if_pos h4] at hp
      rw [h4]
      exact br_t (by decide) hp
    · rw [if_neg h4] at hp
      have hS1 : nh_S K (u * 32) (i + 1) ≤ 3 := by
        have := nh_xle (K (u * 32 + i)) (nh_S K (u * 32) i) (nh_D K (u * 32) i)
        rw [← nh_S1] at this
        omega
      have hnext := ih (i + 1) m (by omega) (by omega) hS1 hp
      refine br_f (fun e => h4 (nh_im (b := 4) e (by omega) (by decide))) ?_
      by_cases h6 : K (u * 32 + i) = 6
      · refine br_t h6 (nm_r ?_ (nm_r (nI_1 i) hnext))
        rw [nh_D6 h6]; exact nI_1 _
      · refine br_f h6 ?_
        by_cases h7 : K (u * 32 + i) = 7
        · refine br_t h7 (nm_r ?_ (nm_r (nI_1 i) hnext))
          have hpos : 0 < nh_D K (u * 32) i := by
            rw [nh_S1, h7] at h4
            exact nh_7pos hs h4
          rw [nh_D7 h7]
          obtain ⟨q, hq⟩ : ∃ q, nh_D K (u * 32) i = q + 1 := ⟨nh_D K (u * 32) i - 1, by omega⟩
          rw [hq]
          exact pk_m1 q
        · refine br_f h7 (nm_r (nI_1 i) ?_)
          rw [nh_Dn h6 h7] at hnext
          exact hnext
theorem nx_findError {U T N : Nat} {on ok fl dp tt pr : Int32} {K V ln ue dc uu ow st w ch no ns nr es nu re oT oP : Nat → Int32} {post : Int32 → Prop} {u : Nat} (hu : u < 8) (hT : T ≤ 32) (hln : ∀ u, ∃ l, l ≤ T ∧ ln u = nI l) (hp : post (nh_E K ln u)) : wpX_findError post (nI U, nI T, nI N, on, ok, fl, dp, tt, pr, K, V, ln, ue, dc, uu, ow, st, w, ch, no, ns, nr, es, nu, re, oT, oP) (nI u) := by
  have ⟨h1, h2⟩ := nh_Ln hT hln u
  exact ⟨nh_L ln u + 1, nx_fe hu h1 (by omega) (nh_L ln u) 0 _ (by omega) (by omega) (by rw [nh_S0]; decide) hp⟩
theorem nx_claim {U T N : Nat} {on ok fl dp tt pr : Int32} {K V ln ue dc uu ow st w ch no ns nr es nu re oT oP : Nat → Int32} {post : Int32 → St2 → Prop} {m u i : Nat} (hm : m < 16)
    (h1 : no m = -1 → post (nI m) (nI U, nI T, nI N, on ||| ((1 : Int32) <<< (nI m &&& 31)), ok, fl, dp, tt, pr, K, V, ln, ue, dc, uu, ow, st, w, ch, upd no m (nI u), ns, nr, upd es m (nI (i + 2)), nu, re, oT, oP)) (h2 : ¬ no m = -1 → post (-1) (nI U, nI T, nI N, on, ok, fl, dp, tt, pr, K, V, ln, ue, dc, uu, ow, st, w, ch, no, ns, nr, es, nu, re, oT, oP)) : wpX_claimName post (nI U, nI T, nI N, on, ok, fl, dp, tt, pr, K, V, ln, ue, dc, uu, ow, st, w, ch, no, ns, nr, es, nu, re, oT, oP) (nI m) (nI u) (nI i) := by
  have hcm : (nI m).toNatClampNeg = m := nI_clamp (by omega)
  have hi := vp_in_nI hm (by decide)
  refine ⟨hi, ?_⟩
  rw [hcm]
  exact br_c (fun h => ⟨hi, nm_e ⟨hi, nm_r (congrArg (upd es m) (nI_add i 2)) (nm_e (h1 h))⟩⟩) h2
theorem nx_note0 {U T N : Nat} {on ok fl dp tt pr : Int32} {K V ln ue dc uu ow st w ch no ns nr es nu re oT oP : Nat → Int32} {post : St2 → Prop} {m u : Nat} (hu : u < 8) (h1 : post (nI U, nI T, nI N, on, ok, fl, dp, tt, pr, K, V, ln, ue, dc, upd uu u (uu u ||| ((1 : Int32) <<< (nI m &&& 31))), ow, st, w, ch, no, ns, nr, es, nu, re, oT, oP)) : wpX_noteUse post (nI U, nI T, nI N, on, ok, fl, dp, tt, pr, K, V, ln, ue, dc, uu, ow, st, w, ch, no, ns, nr, es, nu, re, oT, oP) (nI u) (-1) (nI m) := by
  have hcu : (nI u).toNatClampNeg = u := nI_clamp (by omega)
  have hi := vp_in_nI hu (by decide)
  refine ⟨hi, hi, ?_⟩
  rw [hcu]
  exact nm_e (br_t rfl h1)
theorem nx_note1 {U T N : Nat} {on ok fl dp tt pr : Int32} {K V ln ue dc uu ow st w ch no ns nr es nu re oT oP : Nat → Int32} {post : St2 → Prop} {m u n : Nat} (hu : u < 8) (hn : n < 16) (h1 : post (nI U, nI T, nI N, on, ok, fl, dp, tt, pr, K, V, ln, ue, dc, upd uu u (uu u ||| ((1 : Int32) <<< (nI m &&& 31))), ow, st, w, ch, no, ns, nr, es, upd nu n (nu n ||| ((1 : Int32) <<< (nI m &&& 31))), re, oT, oP)) : wpX_noteUse post (nI U, nI T, nI N, on, ok, fl, dp, tt, pr, K, V, ln, ue, dc, uu, ow, st, w, ch, no, ns, nr, es, nu, re, oT, oP) (nI u) (nI n) (nI m) := by
  have hcu : (nI u).toNatClampNeg = u := nI_clamp (by omega)
  have hcn : (nI n).toNatClampNeg = n := nI_clamp (by omega)
  have hi := vp_in_nI hu (by decide)
  have hj := vp_in_nI hn (by decide)
  refine ⟨hi, hi, ?_⟩
  rw [hcu]
  refine nm_e (br_f (nh_ne1 (by omega)) ⟨hj, hj, ?_⟩)
  rw [hcn]
  exact nm_e h1
theorem nx_rd {U T N : Nat} {ok fl dp tt pr : Int32} {K V ln ue ow st w ch ns nr re oT oP : Nat → Int32} {post : St2 → Prop} {u L : Nat} (hU : U ≤ 8) (hN : N ≤ 16) (hu : u < U) (hl : nh_L ln u = L) (hl2 : ln u = nI L) (hL : L ≤ 32) (hTV : nh_TV N K V) (hok : nh_ok K (u * 32) L) :
    ∀ (d i n : Nat) (x2 x3 on : Int32) (dc uu no es nu : Nat → Int32), i + d = L → d < n → (x2 = 0 ↔ ¬ nh_S K (u * 32) i = 0) → (¬ nh_S K (u * 32) i = 0 → nh_cur K V (nh_L ln) U N u i x3) → nh_XI K V (nh_L ln) U N u i no es nu on →
    dc u = nI (nh_ct K (u * 32) i) → (∀ m, m < 32 → (bt (uu u) m = true ↔ nh_uu K V (u * 32) i m)) →
    (∀ on' x no' es' nu', (∀ m, m < 32 → (bt x m = true ↔ nh_uu K V (u * 32) L m)) → nh_XI K V (nh_L ln) U N u L no' es' nu' on' → post (nI U, nI T, nI N, on', ok, fl, dp, tt, pr, K, V, ln, ue, upd dc u (nI (nh_ct K (u * 32) L)), upd uu u x, ow, st, w, ch, no', ns, nr, es', nu', re, oT, oP)) →
    wX_readDefs_7 post (nI u) n x2 x3 (nI i) (nI U) (nI T) (nI N) on ok fl dp tt pr K V ln ue dc uu ow st w ch no ns nr es nu re oT oP := by
  have hcu : (nI u).toNatClampNeg = u := nI_clamp (by omega)
  have h8 : vp_in (nI u) 8 := vp_in_nI (by omega) (by decide)
  intro d
  induction d with
  | zero =>
    intro i n x2 x3 on dc uu no es nu hi hn hx2 hx3 hX hdc huu hp
    obtain ⟨m, rfl⟩ : ∃ m, n = m + 1 := ⟨n - 1, by omega⟩
    have e : i = L := by omega
    subst e
    refine ⟨h8, ?_⟩
    rw [hcu, hl2]
    refine br_t (nI_le (Nat.le_refl _) (by omega)) ?_
    have h1 := hp on (uu u) no es nu huu hX
    rw [← hdc, nh_uself, nh_uself] at h1
    exact h1
  | succ d ih =>
    intro i n x2 x3 on dc uu no es nu hi hn hx2 hx3 hX hdc huu hp
    obtain ⟨m, rfl⟩ : ∃ m, n = m + 1 := ⟨n - 1, by omega⟩
    have hp256 : u * 32 + i < 256 := by omega
    have hiL : i < nh_L ln u := by omega
    refine ⟨h8, ?_⟩
    rw [hcu, hl2]
    refine br_f (nI_ge (by omega) (by omega)) ?_
    rw [nh_c32, nI_clamp (n := u * 32 + i) (by omega)]
    refine ⟨vp_in_nI hp256 (by decide), nm_e ⟨vp_in_nI hp256 (by decide), nm_e ?_⟩⟩
    by_cases h9 : K (u * 32 + i) = 9
    · -- a semicolon
      have ⟨hS, hS1⟩ := nh_nine hok (by omega) h9
      have hns : ¬ nh_S K (u * 32) i = 0 := by omega
      refine br_t h9 ⟨h8, h8, nm_e (nm_r (nI_1 i) ?_)⟩
      refine ih (i + 1) m 1 x3 on _ uu no es nu (by omega) (by omega) ⟨fun h => absurd h (by decide), fun h => absurd hS1 h⟩ (fun h => absurd hS1 h)
        (nh_XIa hX (fun n _ hd => absurd hd.2.2.1 hns) (fun s n q _ _ hu => by have h2 := hu.2.2.2.1; rw [h9] at h2; exact absurd h2 (by decide))) ?_ (fun q hq => ?_) (fun on' x no' es' nu' h1 h2 => ?_)
      · rw [pk_us, hdc, nI_1, nh_ct, if_pos h9]
      · rw [huu q hq, nh_uun (fun h => by rw [h9] at h; exact absurd h.2 (by decide))]
      · rw [nh_ub]; exact hp on' x no' es' nu' h1 h2
    · refine br_f h9 ?_
      have hct : nh_ct K (u * 32) (i + 1) = nh_ct K (u * 32) i := by rw [nh_ct, if_neg h9]
      have hS1 : ¬ nh_S K (u * 32) (i + 1) = 0 := nh_n9 h9
      by_cases h2 : K (u * 32 + i) = 2
      · obtain ⟨v, hv, hV⟩ := hTV _ h2
        refine br_t h2 ?_
        by_cases h0 : nh_S K (u * 32) i = 0
        · -- a definition begins
          refine br_f (fun e => hx2.mp e h0) ?_
          have hdf : nh_df K V (nh_L ln) u i v := ⟨by rw [hl]; exact hok, hiL, h0, hV⟩
          rw [hV]
          refine nx_claim (by omega) (fun hno => ?_) (fun hno => ?_)
          · have ⟨hf, hX1⟩ := nh_XIc hX hU hN hu hv hdf hno
            refine nm_r (nI_1 i) (ih (i + 1) m 0 (nI v) _ dc uu _ _ nu (by omega) (by omega) ⟨fun _ => hS1, fun _ => rfl⟩ (fun _ => ⟨i, v, by omega, hv, hdf, fun t h1 h2 => by omega, Or.inl ⟨hf, rfl⟩⟩) hX1 ?_ (fun q hq => ?_) hp)
            · rw [hct]; exact hdc
            · rw [huu q hq, nh_uun (fun h => h.1 h0)]
          · have hnf : ¬ nh_fs K V (nh_L ln) U v u i := fun hf => by
              rcases hX v hv with ⟨h3, _⟩ | ⟨u', i', hb, hf2, _⟩
              · exact hno h3
              · exact hf.2.2 u' i' hf2.2.1 hb
            refine nm_r (nI_1 i) (ih (i + 1) m 0 (-1) on dc uu no es nu (by omega) (by omega) ⟨fun _ => hS1, fun _ => rfl⟩ (fun _ => ⟨i, v, by omega, hv, hdf, fun t h1 h2 => by omega, Or.inr ⟨hnf, rfl⟩⟩) ?_ ?_ (fun q hq => ?_) hp)
            · refine nh_XIa hX (fun n hn hd => ?_) (fun s n q _ hf hu => nh_us0 hf.2.1 h0 hu)
              have e1 : n = v := nh_im (by rw [← hd.2.2.2, hV]) (by omega) (by omega)
              rw [e1]; exact hno
            · rw [hct]; exact hdc
            · rw [huu q hq, nh_uun (fun h => h.1 h0)]
        · -- a use
          refine br_t (hx2.mpr h0) (br_t h2 ?_)
          obtain ⟨s, n0, hs, hn0, hd0, hrun, hcase⟩ := hx3 h0
          have hbits : ∀ q, q < 32 → (bt (upd uu u (uu u ||| ((1 : Int32) <<< (nI v &&& 31))) u) q = true ↔ nh_uu K V (u * 32) (i + 1) q) := by
            intro q hq
            rw [pk_us, nh_or1 (by omega) hq, huu q hq, nh_uus]
            refine ⟨fun h => h.elim Or.inl (fun h => Or.inr ⟨h0, h2, by rw [hV, h]⟩), fun h => h.elim Or.inl (fun h => Or.inr (nh_im (by rw [← h.2.2, hV]) (by omega) (by omega)))⟩
          rw [hV]
          rcases hcase with ⟨hf, hx⟩ | ⟨hnf, hx⟩
          · rw [hx]
            refine nx_note1 (by omega) (by omega) (nm_r (nI_1 i) (ih (i + 1) m x2 (nI n0) on dc _ no es _ (by omega) (by omega) ⟨fun _ => hS1, fun _ => hx2.mpr h0⟩ (fun _ => ?_) (nh_XIu hX hN hiL hs hn0 hf hrun h0 h2 hV hv) ?_ hbits (fun on' x no' es' nu' h1 h2 => ?_)))
            · rw [← hx]; exact nh_cur1 (hx3 h0) h9
            · rw [hct]; exact hdc
            · rw [nh_ub]; exact hp on' x no' es' nu' h1 h2
          · rw [hx]
            refine nx_note0 (by omega) (nm_r (nI_1 i) (ih (i + 1) m x2 (-1) on dc _ no es nu (by omega) (by omega) ⟨fun _ => hS1, fun _ => hx2.mpr h0⟩ (fun _ => ?_) (nh_XIn hX hN hs hn0 hd0 hrun hnf h0) ?_ hbits (fun on' x no' es' nu' h1 h2 => ?_)))
            · rw [← hx]; exact nh_cur1 (hx3 h0) h9
            · rw [hct]; exact hdc
            · rw [nh_ub]; exact hp on' x no' es' nu' h1 h2
      · -- another token
        have h0 : ¬ nh_S K (u * 32) i = 0 := fun h0 => h2 (nh_st0 hok (by omega) h0).1
        refine br_f h2 (br_f h2 (nm_r (nI_1 i) (ih (i + 1) m x2 x3 on dc uu no es nu (by omega) (by omega) ⟨fun _ => hS1, fun _ => hx2.mpr h0⟩ (fun _ => nh_cur1 (hx3 h0) h9) ?_ ?_ (fun q hq => ?_) hp)))
        · exact nh_XIa hX (fun n _ hd => absurd hd.2.2.1 h0) (fun s n q _ _ hu => h2 hu.2.2.2.1)
        · rw [hct]; exact hdc
        · rw [huu q hq, nh_uun (fun h => h2 h.2)]
theorem nx_readDefs {U T N : Nat} {on ok fl dp tt pr : Int32} {K V ln ue dc uu ow st w ch no ns nr es nu re oT oP : Nat → Int32} {post : St2 → Prop} {u : Nat} (hU : U ≤ 8) (hN : N ≤ 16) (hT : T ≤ 32) (hu : u < U) (hln : ∀ u, ∃ l, l ≤ T ∧ ln u = nI l) (hTV : nh_TV N K V) (hE : nh_E K ln u = -1) (hX : nh_XI K V (nh_L ln) U N u 0 no es nu on) (hdc : dc u = 0) (huu : uu u = 0)
    (hp : ∀ on' x no' es' nu', nh_ubits K V ln u x → nh_XI K V (nh_L ln) U N (u + 1) 0 no' es' nu' on' → post (nI U, nI T, nI N, on', ok, fl, dp, tt, pr, K, V, ln, ue, upd dc u (nh_C K ln u), upd uu u x, ow, st, w, ch, no', ns, nr, es', nu', re, oT, oP)) : wpX_readDefs post (nI U, nI T, nI N, on, ok, fl, dp, tt, pr, K, V, ln, ue, dc, uu, ow, st, w, ch, no, ns, nr, es, nu, re, oT, oP) (nI u) := by
  have ⟨h1, h2⟩ := nh_Ln hT hln u
  have hok : nh_ok K (u * 32) (nh_L ln u) := nh_ok_of (by omega) hE
  refine ⟨nh_L ln u + 1, nx_rd hU hN hu rfl h1 (by omega) hTV hok (nh_L ln u) 0 _ 1 (-1) on dc uu no es nu (by omega) (by omega) ⟨fun h => absurd h (by decide), fun h => absurd (nh_S0 _ _) h⟩ (fun h => absurd (nh_S0 _ _) h) hX ?_ (fun q hq => ?_) (fun on' x no' es' nu' h3 h4 => ?_)⟩
  · rw [hdc]; exact nI_0.symm
  · rw [huu, b_0]; exact ⟨fun h => absurd h (by decide), fun h => absurd h nh_uu0⟩
  · have h5 := hp on' x no' es' nu' (fun q hq => by rw [h3 q hq]; exact ⟨fun h => ⟨hE, h⟩, fun h => h.2⟩) (nh_XIe h4)
    rw [nh_C, if_pos hE] at h5
    exact h5
theorem nx_readUnit {U T N : Nat} {on ok fl dp tt pr : Int32} {K V ln ue dc uu ow st w ch no ns nr es nu re oT oP : Nat → Int32} {post : St2 → Prop} {u : Nat} (hU : U ≤ 8) (hN : N ≤ 16) (hT : T ≤ 32) (hu : u < U) (hln : ∀ u, ∃ l, l ≤ T ∧ ln u = nI l) (hTV : nh_TV N K V) (hX : nh_XI K V (nh_L ln) U N u 0 no es nu on)
    (hp : ∀ on' x no' es' nu', nh_ubits K V ln u x → nh_XI K V (nh_L ln) U N (u + 1) 0 no' es' nu' on' → post (nI U, nI T, nI N, on', ok, fl, dp, tt, pr, K, V, ln, upd ue u (nh_E K ln u), upd dc u (nh_C K ln u), upd uu u x, ow, st, w, ch, no', ns, nr, es', nu', re, oT, oP)) : wpX_readUnit post (nI U, nI T, nI N, on, ok, fl, dp, tt, pr, K, V, ln, ue, dc, uu, ow, st, w, ch, no, ns, nr, es, nu, re, oT, oP) (nI u) := by
  have hcu : (nI u).toNatClampNeg = u := nI_clamp (by omega)
  have h8 : vp_in (nI u) 8 := vp_in_nI (by omega) (by decide)
  unfold wpX_readUnit
  refine nx_findError (by omega) hT hln ?_
  rw [hcu]
  refine ⟨h8, nm_e ⟨h8, nm_e ⟨h8, nm_e ⟨h8, ?_⟩⟩⟩⟩
  rw [pk_us]
  by_cases hE : nh_E K ln u = -1
  · refine br_t hE (nx_readDefs hU hN hT hu hln hTV hE hX pk_us pk_us (fun on' x no' es' nu' h1 h2 => ?_))
    rw [nh_ub, nh_ub]
    exact hp on' x no' es' nu' h1 h2
  · refine br_f hE ?_
    have h5 := hp on 0 no es nu (fun q hq => by rw [b_0]; exact ⟨fun h => absurd h (by decide), fun h => absurd h.1 hE⟩) (nh_XIb hX (fun hk => hE (nh_ok_er hk)))
    rw [nh_C, if_neg hE] at h5
    exact h5
theorem nx_forget {U T N : Nat} {on ok fl dp tt pr : Int32} {K V ln ue dc uu ow st w ch no ns nr es nu re oT oP : Nat → Int32} {post : St2 → Prop} (hN : N ≤ 16) (hp : ∀ no' nu', (∀ n, n < N → no' n = -1 ∧ nu' n = 0) → post (nI U, nI T, nI N, 0, 0, 0, dp, tt, pr, K, V, ln, ue, dc, uu, ow, st, w, ch, no', ns, nr, es, nu', re, oT, oP)) : wpX_forgetDefinitions post (nI U, nI T, nI N, on, ok, fl, dp, tt, pr, K, V, ln, ue, dc, uu, ow, st, w, ch, no, ns, nr, es, nu, re, oT, oP) := by
  refine loop_0 (σ := (Nat → Int32) × (Nat → Int32)) (fun n i s => wX_forgetDefinitions_2 post (nI U) (nI T) (nI N) on ok fl dp tt pr n (nI i) K V ln ue dc uu ow st w ch s.1 ns nr es s.2 re oT oP) (fun i s => ∀ n, n < i → s.1 n = -1 ∧ s.2 n = 0) N (no, nu) (fun n h => absurd h (Nat.not_lt_zero n)) (fun n s h => ?_) (fun n i s hi h hs => ?_)
  · exact br_t (nI_le (Nat.le_refl N) (by omega)) (hp s.1 s.2 h)
  · have h16 : vp_in (nI i) 16 := vp_in_nI (by omega) (by decide)
    refine br_f (nI_ge hi (by omega)) ?_
    rw [nI_clamp (n := i) (by omega)]
    refine ⟨h16, nm_e ⟨h16, nm_e (nm_r (nI_1 i) (hs (upd s.1 i (-1), upd s.2 i 0) (fun n hn => ?_)))⟩⟩
    show upd s.1 i (-1) n = -1 ∧ upd s.2 i 0 n = 0
    by_cases e : n = i
    · rw [e, pk_us, pk_us]; exact ⟨rfl, rfl⟩
    · rw [pk_un e, pk_un e]; exact h n (by omega)
