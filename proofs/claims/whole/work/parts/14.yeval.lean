/-! 14: the reference's value of an expr is X's -/
def nh_sg (x : Int32) : Int32 := if x = 0 then 1 else -1
theorem nh_sg0 : nh_sg 0 = 1 := by decide
theorem nh_sgz {b : Int32} (h : b = 0) : nh_sg b = 1 := if_pos h
theorem nh_sgn {b : Int32} (h : ¬ b = 0) : nh_sg b = -1 := if_neg h
theorem nh_r1 (x : Int32) : x = 1 * x := by grind
theorem nh_r2 (x : Int32) : 0 - x = -1 * x := by grind
theorem nh_r3 (g p x : Int32) : g * p * x = 1 * (p * (g * x)) := by grind
theorem nh_r4 (p : Int32) : -(1 * p) = -1 * p := by grind
theorem nh_r5 (p : Int32) : -(-1 * p) = 1 * p := by grind
theorem nh_r6 (s p : Int32) : s + 1 * p = s + p := by grind
theorem ny_operand {U T N : Nat} {K V ln ue dc us ow st w ch ds po ps pv rc rd fS fP fN : Nat → Int32} {post : Int32 → SY → Prop} {J : Int32 → Int32 → Int32 → (Nat → Int32) → (Nat → Int32) → (Nat → Int32) → (Nat → Int32) → (Nat → Int32) → (Nat → Int32) → (Nat → Int32) → (Nat → Int32) → (Nat → Int32) → (Nat → Int32) → (Nat → Int32) → (Nat → Int32) → (Nat → Int32) → (Nat → Int32) → (Nat → Int32) → (Nat → Int32) → (Nat → Int32) → (Nat → Int32) → (Nat → Int32) → Prop} {x1 x3 x5 x8 : Int32} {d i : Nat} (hd : d < 34)
    (hJ : J (nI d) 1 (nI (i + 1)) K V ln ue dc us ow st w ch ds po ps pv rc rd fS (upd fP d (fP d * (nh_sg (fN d) * x8))) (upd fN d 0)) : wY_eval_332 post J x1 x3 (nI d) x5 (nI i) x8 1 (nI U) (nI T) (nI N) K V ln ue dc us ow st w ch ds po ps pv rc rd fS fP fN := by
  have hin : vp_in (nI d) 34 := vp_in_nI hd (by decide)
  have hcd : (nI d).toNatClampNeg = d := nI_clamp (by omega)
  have h353 : ∀ y, y = nh_sg (fN d) * x8 → wY_eval_353 post J x1 x3 (nI d) (nI i) y (nI U) (nI T) (nI N) K V ln ue dc us ow st w ch ds po ps pv rc rd fS fP fN := by
    intro y hy
    subst hy
    refine ⟨hin, ?_⟩
    rw [hcd, nh_vb0]
    exact nm_e ⟨hin, hin, nm_e (nm_r (nI_1 i) hJ)⟩
  refine br_f (by decide) ⟨hin, ?_⟩
  rw [hcd]
  refine br_c (fun h => h353 _ ?_) (fun h => nm_e (h353 _ ?_))
  · rw [nh_sgz h]; exact nh_r1 x8
  · rw [nh_sgn h]; exact nh_r2 x8
theorem ny_ev {U T N : Nat} {K V ln ue dc us ow st w ch ds po ps pv rc rd : Nat → Int32} {post : Int32 → SY → Prop} {u L : Nat} (hu : u < 8) (hN : N ≤ 16) (hl : ln u = nI L) (hL : L ≤ 32) (hTV : nh_TV N K V) (hok : nh_ok K (u * 32) L) :
    ∀ (f i n : Nat) (x5 : Int32) (d : Nat) (af : Bool) (t q : Int32) (oT oP fS fP fN : Nat → Int32), i + f = L → f < n → d + f ≤ 32 → (nh_S K (u * 32) i = 2 ∨ nh_S K (u * 32) i = 3) → nh_D K (u * 32) i = d →
    (x5 = 0 ↔ ¬ nh_S K (u * 32) i = 3) → (af = true ↔ nh_S K (u * 32) i = 3) → t = fS d → q = nh_sg (fN d) * fP d → (nh_S K (u * 32) i = 3 → fN d = 0) → (∀ j, j < d → oT j = fS j ∧ oP j = nh_sg (fN j) * fP j) →
    (∀ fS' fP' fN', post (nh_pe K V w f (u * 32 + i) af d t q oT oP) (nI U, nI T, nI N, K, V, ln, ue, dc, us, ow, st, w, ch, ds, po, ps, pv, rc, rd, fS', fP', fN')) → wY_eval_37 post (nI u) (nI (u * 32)) (nI U) (nI T) (nI N) n (nI d) x5 (nI i) K V ln ue dc us ow st w ch ds po ps pv rc rd fS fP fN := by
  have hcu : (nI u).toNatClampNeg = u := nI_clamp (by omega)
  have h8 : vp_in (nI u) 8 := vp_in_nI hu (by decide)
  intro f
  induction f with
  | zero =>
    intro i n x5 d af t q oT oP fS fP fN hi hn hdf hS hD hx haf ht hq h3 hst hp
    have e : i = L := by omega
    have h0 := hok.2
    rw [← e] at h0
    omega
  | succ f ih =>
    intro i n x5 d af t q oT oP fS fP fN hi hn hdf hS hD hx haf ht hq h3 hst hp
    obtain ⟨m, rfl⟩ : ∃ m, n = m + 1 := ⟨n - 1, by omega⟩
    have hpin : vp_in (nI (u * 32 + i)) 256 := vp_in_nI (by omega) (by decide)
    have hin : vp_in (nI d) 34 := vp_in_nI (by omega) (by decide)
    have hcd : (nI d).toNatClampNeg = d := nI_clamp (by omega)
    have ea : u * 32 + i + 1 = u * 32 + (i + 1) := rfl
    rw [nh_peS, ea] at hp
    refine ⟨h8, ?_⟩
    rw [hcu, hl]
    refine br_f (nI_ge (by omega) (by omega)) ?_
    rw [nI_add, nI_clamp (n := u * 32 + i) (by omega)]
    refine ⟨hpin, nm_e ?_⟩
    rcases hS with hS | hS
    · -- an operand is wanted
      have hx0 : x5 = 0 := hx.mpr (by omega)
      have haf0 : ¬ af = true := fun h => by have := haf.mp h; omega
      rcases nh_st2 hok (by omega) hS with ⟨hk, hS1⟩ | ⟨hk, hS1⟩
      · have h67 : ¬ K (u * 32 + i) = 6 ∧ ¬ K (u * 32 + i) = 7 ∧ ¬ K (u * 32 + i) = 9 := by
          rcases hk with hk | hk
          · rw [hk]; decide
          · rw [hk]; decide
        have hD1 := nh_Dn (K := K) (b := u * 32) (i := i) h67.1 h67.2.1
        rw [if_neg h67.2.2] at hp
        refine br_f h67.2.2 ?_
        have hgo : ∀ x8, (∀ fS' fP' fN', post (nh_pe K V w f (u * 32 + (i + 1)) true d t (q * x8) oT oP) (nI U, nI T, nI N, K, V, ln, ue, dc, us, ow, st, w, ch, ds, po, ps, pv, rc, rd, fS', fP', fN')) →
            wY_eval_332 post (wY_eval_37 post (nI u) (nI (u * 32)) (nI U) (nI T) (nI N) m) (nI u) (nI (u * 32)) (nI d) x5 (nI i) x8 1 (nI U) (nI T) (nI N) K V ln ue dc us ow st w ch ds po ps pv rc rd fS fP fN := by
          intro x8 hp8
          refine ny_operand (by omega) (ih (i + 1) m 1 d true t (q * x8) oT oP fS _ _ (by omega) (by omega) (by omega) (Or.inr hS1) (by rw [hD1]; exact hD) ⟨fun h => absurd h (by decide), fun h => absurd hS1 h⟩ ⟨fun _ => hS1, fun _ => rfl⟩ ht ?_ (fun _ => pk_us) (fun j hj => ?_) hp8)
          · rw [pk_us, pk_us, nh_sg0, hq]; exact nh_r3 _ _ _
          · rw [pk_un (by omega), pk_un (by omega)]; exact hst j hj
        by_cases k1 : K (u * 32 + i) = 1
        · rw [if_pos k1] at hp
          exact br_t k1 ⟨hpin, nm_e (hgo _ hp)⟩
        · have k2 : K (u * 32 + i) = 2 := hk.elim (fun h => absurd h k1) id
          obtain ⟨v, hv, hV⟩ := hTV _ k2
          rw [if_neg k1, if_pos k2] at hp
          refine br_f k1 (br_t k2 ⟨hpin, ?_, nm_e (hgo _ hp)⟩)
          rw [hV]; exact vp_in_nI (by omega) (by decide)
      · have h7 : ¬ K (u * 32 + i) = 9 ∧ ¬ K (u * 32 + i) = 1 ∧ ¬ K (u * 32 + i) = 2 ∧ ¬ K (u * 32 + i) = 7 ∧ ¬ K (u * 32 + i) = 3 := by
          rcases hk with hk | hk
          · rw [hk]; decide
          · rw [hk]; decide
        rw [if_neg h7.1, if_neg h7.2.1, if_neg h7.2.2.1, if_neg h7.2.2.2.2] at hp
        refine br_f h7.1 (br_f h7.2.1 (br_f h7.2.2.1 ?_))
        by_cases k6 : K (u * 32 + i) = 6
        · have k4 : ¬ K (u * 32 + i) = 4 := by rw [k6]; decide
          rw [if_neg k4, if_pos k6] at hp
          have hin1 : vp_in (nI (d + 1)) 34 := vp_in_nI (by omega) (by decide)
          refine br_t k6 (br_f (nI_ge (b := 33) (by omega) (by decide)) (nm_r (nI_1 d) ?_))
          rw [nI_clamp (n := d + 1) (by omega), nh_vb0]
          refine ⟨hin1, nm_e ⟨hin1, nm_e ⟨hin1, nm_e (br_t rfl (nm_r (nI_1 i) ?_))⟩⟩⟩
          refine ih (i + 1) m x5 (d + 1) false 0 1 _ _ _ _ _ (by omega) (by omega) (by omega) (Or.inl hS1) (by rw [nh_D6 k6, hD]) ⟨fun _ => by omega, fun _ => hx0⟩ ⟨fun h => absurd h (by decide), fun h => by omega⟩ pk_us.symm ?_ (fun h => by omega) (fun j hj => ?_) hp
          · rw [pk_us, pk_us, nh_sg0]; decide
          · by_cases e : j = d
            · subst e
              rw [pk_us, pk_us, pk_un (by omega), pk_un (by omega), pk_un (by omega)]
              exact ⟨ht, hq⟩
            · rw [pk_un e, pk_un e, pk_un (by omega), pk_un (by omega), pk_un (by omega)]
              exact hst j (by omega)
        · have k4 : K (u * 32 + i) = 4 := hk.elim id (fun h => absurd h k6)
          have hD1 := nh_Dn (K := K) (b := u * 32) (i := i) k6 h7.2.2.2.1
          rw [if_pos k4, if_neg haf0] at hp
          refine br_f k6 (br_f h7.2.2.2.1 (br_f h7.2.2.2.2 (br_t k4 (br_t hx0 ⟨hin, ?_⟩))))
          rw [hcd]
          refine br_c (fun hz => ⟨hin, ?_⟩) (fun hz => ⟨hin, ?_⟩)
          · rw [hcd, nh_vb1]
            refine nm_e (br_t rfl (nm_r (nI_1 i) (ih (i + 1) m x5 d false t (-q) oT oP fS fP _ (by omega) (by omega) (by omega) (Or.inl hS1) (by rw [hD1]; exact hD) ⟨fun _ => by omega, fun _ => hx0⟩ ⟨fun h => absurd h (by decide), fun h => by omega⟩ ht ?_ (fun h => by omega) (fun j hj => ?_) hp)))
            · rw [pk_us, nh_sgn (by decide), hq, nh_sgz hz]; exact nh_r4 _
            · rw [pk_un (by omega)]; exact hst j hj
          · rw [hcd, nh_vb0]
            refine nm_e (br_t rfl (nm_r (nI_1 i) (ih (i + 1) m x5 d false t (-q) oT oP fS fP _ (by omega) (by omega) (by omega) (Or.inl hS1) (by rw [hD1]; exact hD) ⟨fun _ => by omega, fun _ => hx0⟩ ⟨fun h => absurd h (by decide), fun h => by omega⟩ ht ?_ (fun h => by omega) (fun j hj => ?_) hp)))
            · rw [pk_us, nh_sg0, hq, nh_sgn hz]; exact nh_r5 _
            · rw [pk_un (by omega)]; exact hst j hj
    · -- an operator is wanted
      have hx1 : ¬ x5 = 0 := fun h => hx.mp h hS
      have haf1 : af = true := haf.mpr hS
      have hz := h3 hS
      have hq1 : q = fP d := by rw [hq, nh_sgz hz]; exact (nh_r1 _).symm
      rcases nh_st3 hok (by omega) hS with ⟨hk, hS1⟩ | ⟨k7, hpos, hS1⟩ | ⟨k9, hD0, hS1⟩
      · have h7 : ¬ K (u * 32 + i) = 9 ∧ ¬ K (u * 32 + i) = 1 ∧ ¬ K (u * 32 + i) = 2 ∧ ¬ K (u * 32 + i) = 6 ∧ ¬ K (u * 32 + i) = 7 := by
          rcases hk with hk | hk | hk
          · rw [hk]; decide
          · rw [hk]; decide
          · rw [hk]; decide
        have hD1 := nh_Dn (K := K) (b := u * 32) (i := i) h7.2.2.2.1 h7.2.2.2.2
        rw [if_neg h7.1, if_neg h7.2.1, if_neg h7.2.2.1] at hp
        refine br_f h7.1 (br_f h7.2.1 (br_f h7.2.2.1 (br_f h7.2.2.2.1 (br_f h7.2.2.2.2 ?_))))
        have T2 : (0 : Int32) = 0 ↔ ¬ nh_S K (u * 32) (i + 1) = 3 := ⟨fun _ => by omega, fun _ => rfl⟩
        have A2 : false = true ↔ nh_S K (u * 32) (i + 1) = 3 := ⟨fun h => absurd h (by decide), fun h => by omega⟩
        by_cases k3 : K (u * 32 + i) = 3
        · rw [if_pos k3] at hp
          refine br_t k3 ⟨hin, hin, hin, ?_⟩
          rw [hcd]
          refine nm_e ⟨hin, nm_e (br_t rfl (nm_r (nI_1 i) (ih (i + 1) m 0 d false (t + q) 1 oT oP _ _ fN (by omega) (by omega) (by omega) (Or.inl hS1) (by rw [hD1]; exact hD) T2 A2 ?_ ?_ (fun h => by omega) (fun j hj => ?_) hp)))⟩
          · rw [pk_us, ht, hq1]
          · rw [pk_us, nh_sgz hz]; decide
          · rw [pk_un (by omega), pk_un (by omega)]; exact hst j hj
        rw [if_neg k3] at hp
        refine br_f k3 ?_
        by_cases k4 : K (u * 32 + i) = 4
        · rw [if_pos k4, if_pos haf1] at hp
          refine br_t k4 (br_f hx1 ⟨hin, hin, hin, ?_⟩)
          rw [hcd]
          refine nm_e ⟨hin, nm_e (br_t rfl (nm_r (nI_1 i) (ih (i + 1) m 0 d false (t + q) (-1) oT oP _ _ fN (by omega) (by omega) (by omega) (Or.inl hS1) (by rw [hD1]; exact hD) T2 A2 ?_ ?_ (fun h => by omega) (fun j hj => ?_) hp)))⟩
          · rw [pk_us, ht, hq1]
          · rw [pk_us, nh_sgz hz]; decide
          · rw [pk_un (by omega), pk_un (by omega)]; exact hst j hj
        rw [if_neg k4, if_neg h7.2.2.2.1, if_neg h7.2.2.2.2] at hp
        have k5 : K (u * 32 + i) = 5 := hk.elim (fun h => absurd h k3) (fun h => h.elim (fun h => absurd h k4) id)
        exact br_f k4 (br_t k5 (br_t rfl (nm_r (nI_1 i) (ih (i + 1) m 0 d false t q oT oP fS fP fN (by omega) (by omega) (by omega) (Or.inl hS1) (by rw [hD1]; exact hD) T2 A2 ht hq (fun h => by omega) hst hp))))
      · have h7 : ¬ K (u * 32 + i) = 9 ∧ ¬ K (u * 32 + i) = 1 ∧ ¬ K (u * 32 + i) = 2 ∧ ¬ K (u * 32 + i) = 6 ∧ ¬ K (u * 32 + i) = 3 ∧ ¬ K (u * 32 + i) = 4 := by
          rw [k7]; decide
        rw [if_neg h7.1, if_neg h7.2.1, if_neg h7.2.2.1, if_neg h7.2.2.2.2.1, if_neg h7.2.2.2.2.2, if_neg h7.2.2.2.1, if_pos k7, if_neg (by omega)] at hp
        refine br_f h7.1 (br_f h7.2.1 (br_f h7.2.2.1 (br_f h7.2.2.2.1 (br_t k7 ⟨hin, hin, ?_⟩))))
        rw [hcd]
        refine nm_e (br_f (nI_nle (by omega) (by omega)) (nm_r (e' := nI (d - 1)) ?_ ?_))
        · obtain ⟨z, hz1⟩ : ∃ z, d = z + 1 := ⟨d - 1, by omega⟩
          rw [hz1]; exact pk_m1 z
        · have hst1 := hst (d - 1) (by omega)
          refine ny_operand (by omega) (ih (i + 1) m 1 (d - 1) true (oT (d - 1)) (oP (d - 1) * (t + q)) oT oP fS _ _ (by omega) (by omega) (by omega) (Or.inr hS1) (by rw [nh_D7 k7, hD]) ⟨fun h => absurd h (by decide), fun h => absurd hS1 h⟩ ⟨fun _ => hS1, fun _ => rfl⟩ hst1.1 ?_ (fun _ => pk_us) (fun j hj => ?_) hp)
          · rw [pk_us, pk_us, nh_sg0, hst1.2, ht, hq1]; exact nh_r3 _ _ _
          · rw [pk_un (by omega), pk_un (by omega)]; exact hst j (by omega)
      · rw [if_pos k9] at hp
        have hd0 : d = 0 := by omega
        subst hd0
        refine br_t k9 ?_
        have h9 := hp fS fP fN
        rw [ht, hq1] at h9
        exact h9
theorem ny_eval {U T N : Nat} {K V ln ue dc us ow st w ch ds po ps pv rc rd fS fP fN : Nat → Int32} {post : Int32 → SY → Prop} {n u s : Nat} (hU : U ≤ 8) (hN : N ≤ 16) (hT : T ≤ 32) (hln : ∀ u, ∃ l, l ≤ T ∧ ln u = nI l) (hTV : nh_TV N K V) (hf : nh_fs K V (nh_L ln) U n u s)
    (hp : ∀ fS' fP' fN', post (nh_ev K V (nh_L ln) w u s) (nI U, nI T, nI N, K, V, ln, ue, dc, us, ow, st, w, ch, ds, po, ps, pv, rc, rd, fS', fP', fN')) : wpY_eval post (nI U, nI T, nI N, K, V, ln, ue, dc, us, ow, st, w, ch, ds, po, ps, pv, rc, rd, fS, fP, fN) (nI u) (nI s) := by
  have ⟨hl1, hl2⟩ := nh_Ln hT hln u
  have hu := hf.1
  obtain ⟨hk, hs, hs0, _⟩ := hf.2.1
  have hst := nh_st0 hk hs hs0
  have hs1 : s + 2 ≤ nh_L ln u := by
    by_cases e : s + 1 = nh_L ln u
    · have h2 := hk.2
      rw [← e, hst.2] at h2
      exact absurd h2 (by decide)
    · omega
  have hst1 := nh_st1 hk (by omega) hst.2
  have hD2 : nh_D K (u * 32) (s + 2) = 0 := by
    have h1 := nh_D00 K (u * 32) (s + 1) (by omega)
    have h2 := nh_Dn (K := K) (b := u * 32) (i := s + 1) (by rw [hst1.1]; decide) (by rw [hst1.1]; decide)
    exact h2.trans h1
  refine nm_r (nh_e32 u) (nm_e (nm_e ?_))
  rw [nh_vb0]
  refine nm_e (nm_r (nI_add s 2) ⟨nh_L ln u - (s + 2) + 1, ?_⟩)
  refine ny_ev (by omega) hN hl1 (by omega) hTV hk (nh_L ln u - (s + 2)) (s + 2) _ 0 0 false 0 1 nh_z0 nh_z0 _ _ _ (by omega) (by omega) (by omega) (Or.inl hst1.2) hD2 ⟨fun _ => ?_, fun _ => rfl⟩ ⟨fun h => absurd h (by decide), fun h => ?_⟩ pk_us.symm ?_ (fun h => pk_us) (fun j hj => absurd hj (Nat.not_lt_zero j)) hp
  · rw [hst1.2]; decide
  · rw [hst1.2] at h; exact absurd h (by decide)
  · rw [pk_us, pk_us, nh_sg0]; decide
