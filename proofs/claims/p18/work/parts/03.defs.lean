/-! 03: definitions of names, their uses, and the scan that finds them: pure -/
def nh_df (K V : Nat → Int32) (Ln : Nat → Nat) (u i n : Nat) : Prop := nh_ok K (u * 32) (Ln u) ∧ i < Ln u ∧ nh_S K (u * 32) i = 0 ∧ V (u * 32 + i) = nI n
def nh_bf (u i u' i' : Nat) : Prop := u' < u ∨ (u' = u ∧ i' < i)
def nh_fs (K V : Nat → Int32) (Ln : Nat → Nat) (U n u i : Nat) : Prop := u < U ∧ nh_df K V Ln u i n ∧ ∀ u' i', nh_df K V Ln u' i' n → ¬ nh_bf u i u' i'
def nh_us (K V : Nat → Int32) (Ln : Nat → Nat) (u s j m : Nat) : Prop := s < j ∧ j < Ln u ∧ (∀ t, s < t → t ≤ j → K (u * 32 + t) ≠ 9) ∧ K (u * 32 + j) = 2 ∧ V (u * 32 + j) = nI m
def nh_uq (K V : Nat → Int32) (Ln : Nat → Nat) (U n m : Nat) : Prop := ∃ u s j, nh_fs K V Ln U n u s ∧ nh_us K V Ln u s j m
def nh_ow (K V : Nat → Int32) (Ln : Nat → Nat) (U n : Nat) : Prop := ∃ u s, nh_fs K V Ln U n u s
theorem nh_bfs {u i u' i' : Nat} (h : nh_bf u (i + 1) u' i') : nh_bf u i u' i' ∨ (u' = u ∧ i' = i) := by
  unfold nh_bf at *; omega
theorem nh_bfm {u i u' i' : Nat} (h : nh_bf u i u' i') : nh_bf u (i + 1) u' i' := by
  unfold nh_bf at *; omega
theorem nh_fs1 {K V : Nat → Int32} {Ln : Nat → Nat} {U n u i u' i' : Nat} (h : nh_fs K V Ln U n u i) (h' : nh_fs K V Ln U n u' i') : u' = u ∧ i' = i := by
  have h1 := h.2.2 u' i' h'.2.1
  have h2 := h'.2.2 u i h.2.1
  unfold nh_bf at *; omega
/-- no run from an earlier start reaches a start -/
theorem nh_us0 {K V : Nat → Int32} {Ln : Nat → Nat} {u s i n m : Nat} (hd : nh_df K V Ln u s n) (h0 : nh_S K (u * 32) i = 0) (h : nh_us K V Ln u s i m) : False := by
  obtain ⟨h1, h2, h3, _, _⟩ := h
  obtain ⟨hk, hs, hs0, _⟩ := hd
  obtain ⟨q, rfl⟩ : ∃ q, i = q + 1 := ⟨i - 1, by omega⟩
  have h9 := nh_pre h0
  by_cases e : q = s
  · rw [e, (nh_st0 hk hs hs0).1] at h9; exact absurd h9 (by decide)
  · exact h3 q (by omega) (by omega) h9
/-- what X's scan has found of name n before (u, i): its owner o, start e, uses x, owned or not b -/
def nh_XN (K V : Nat → Int32) (Ln : Nat → Nat) (U u i n : Nat) (o e x : Int32) (b : Bool) : Prop :=
  (o = -1 ∧ b = false ∧ x = 0 ∧ ∀ u' i', nh_df K V Ln u' i' n → ¬ nh_bf u i u' i') ∨
    (∃ u' i', nh_bf u i u' i' ∧ nh_fs K V Ln U n u' i' ∧ o = nI u' ∧ e = nI (i' + 2) ∧ b = true ∧
      ∀ m, m < 32 → (bt x m = true ↔ ∃ j, nh_bf u i u' j ∧ nh_us K V Ln u' i' j m))
def nh_XI (K V : Nat → Int32) (Ln : Nat → Nat) (U N u i : Nat) (no es nu : Nat → Int32) (ow : Int32) : Prop :=
  ∀ n, n < N → nh_XN K V Ln U u i n (no n) (es n) (nu n) (bt ow n)
theorem nh_XI0 {K V : Nat → Int32} {Ln : Nat → Nat} {U N : Nat} {no es nu : Nat → Int32} {ow : Int32} (h : ∀ n, n < N → no n = -1 ∧ nu n = 0) (h0 : ow = 0) : nh_XI K V Ln U N 0 0 no es nu ow := by
  intro n hn
  refine Or.inl ⟨(h n hn).1, by rw [h0]; exact b_0 n, (h n hn).2, fun u' i' _ hb => ?_⟩
  unfold nh_bf at hb; omega
/-- a token that neither claims the name nor is a use of its definition -/
theorem nh_XNa {K V : Nat → Int32} {Ln : Nat → Nat} {U u i n : Nat} {o e x : Int32} {b : Bool} (h : nh_XN K V Ln U u i n o e x b)
    (hd : nh_df K V Ln u i n → ¬ o = -1) (hk : ∀ s m, nh_fs K V Ln U n u s → ¬ nh_us K V Ln u s i m) : nh_XN K V Ln U u (i + 1) n o e x b := by
  rcases h with ⟨h1, h2, h3, h4⟩ | ⟨u', i', hb, hf, h1, h2, h3, h4⟩
  · refine Or.inl ⟨h1, h2, h3, fun u' i' hdf hb => ?_⟩
    rcases nh_bfs hb with hb | ⟨e1, e2⟩
    · exact h4 u' i' hdf hb
    · rw [e1, e2] at hdf; exact hd hdf h1
  · refine Or.inr ⟨u', i', nh_bfm hb, hf, h1, h2, h3, fun m hm => ?_⟩
    rw [h4 m hm]
    constructor
    · rintro ⟨j, hj, hu⟩; exact ⟨j, nh_bfm hj, hu⟩
    · rintro ⟨j, hj, hu⟩
      rcases nh_bfs hj with hj | ⟨e1, e2⟩
      · exact ⟨j, hj, hu⟩
      · rw [e1, e2] at hu; rw [e1] at hf; exact (hk _ _ hf hu).elim
theorem nh_XIa {K V : Nat → Int32} {Ln : Nat → Nat} {U N u i : Nat} {no es nu : Nat → Int32} {ow : Int32} (h : nh_XI K V Ln U N u i no es nu ow)
    (hd : ∀ n, n < N → nh_df K V Ln u i n → ¬ no n = -1) (hk : ∀ s n m, n < N → nh_fs K V Ln U n u s → ¬ nh_us K V Ln u s i m) : nh_XI K V Ln U N u (i + 1) no es nu ow :=
  fun n hn => nh_XNa (h n hn) (hd n hn) (fun s m => hk s n m hn)
/-- a start whose name is free: it is claimed -/
theorem nh_XIc {K V : Nat → Int32} {Ln : Nat → Nat} {U N u i n0 : Nat} {no es nu : Nat → Int32} {ow : Int32} (h : nh_XI K V Ln U N u i no es nu ow)
    (hU : U ≤ 8) (hN : N ≤ 16) (hu : u < U) (hn0 : n0 < N) (hdf : nh_df K V Ln u i n0) (hno : no n0 = -1) :
    nh_fs K V Ln U n0 u i ∧ nh_XI K V Ln U N u (i + 1) (upd no n0 (nI u)) (upd es n0 (nI (i + 2))) nu (ow ||| ((1 : Int32) <<< (nI n0 &&& 31))) := by
  have hfs : nh_fs K V Ln U n0 u i ∧ nu n0 = 0 := by
    rcases h n0 hn0 with ⟨h1, h2, h3, h4⟩ | ⟨u', i', hb, hf, h1, h2, h3, h4⟩
    · exact ⟨⟨hu, hdf, h4⟩, h3⟩
    · rw [h1] at hno; exact absurd hno (nh_ne1 (by have := hf.1; omega))
  refine ⟨hfs.1, fun n hn => ?_⟩
  by_cases e : n = n0
  · subst e
    refine Or.inr ⟨u, i, Or.inr ⟨rfl, by omega⟩, hfs.1, pk_us, pk_us, (nh_or1 (by omega) (by omega)).mpr (Or.inr rfl), fun m hm => ?_⟩
    rw [hfs.2, b_0]
    constructor
    · intro h; exact absurd h (by decide)
    · rintro ⟨j, hj, hu⟩
      have h1 := hu.1
      unfold nh_bf at hj; omega
  · have hob : bt (ow ||| ((1 : Int32) <<< (nI n0 &&& 31))) n = bt ow n := by
      cases hb : bt ow n
      · refine nh_bt0 (fun h1 => ?_)
        rcases (nh_or1 (by omega) (by omega)).mp h1 with h2 | h2
        · rw [hb] at h2; exact absurd h2 (by decide)
        · exact e h2
      · exact (nh_or1 (by omega) (by omega)).mpr (Or.inl hb)
    rw [pk_un e, pk_un e, hob]
    refine nh_XNa (h n hn) (fun hd => ?_) (fun s m hf hu => nh_us0 hf.2.1 hdf.2.2.1 hu)
    have h5 := hd.2.2.2
    rw [hdf.2.2.2] at h5
    exact absurd (nh_im h5 (by omega) (by omega)).symm e
/-- the current definition of a unit: its start, and whether it is the first of its name -/
def nh_cur (K V : Nat → Int32) (Ln : Nat → Nat) (U N u i : Nat) (x : Int32) : Prop :=
  ∃ s n, s < i ∧ n < N ∧ nh_df K V Ln u s n ∧ (∀ t, s < t → t < i → K (u * 32 + t) ≠ 9) ∧ ((nh_fs K V Ln U n u s ∧ x = nI n) ∨ (¬ nh_fs K V Ln U n u s ∧ x = -1))
theorem nh_cur1 {K V : Nat → Int32} {Ln : Nat → Nat} {U N u i : Nat} {x : Int32} (h : nh_cur K V Ln U N u i x) (h9 : ¬ K (u * 32 + i) = 9) : nh_cur K V Ln U N u (i + 1) x := by
  obtain ⟨s, n, h1, h2, h3, h4, h5⟩ := h
  refine ⟨s, n, by omega, h2, h3, fun t ht ht2 => ?_, h5⟩
  by_cases e : t = i
  · rw [e]; exact h9
  · exact h4 t ht (by omega)
theorem nh_segu {K V : Nat → Int32} {Ln : Nat → Nat} {u i s s' n n' m : Nat} (hs : s < i) (hd : nh_df K V Ln u s n) (hn : ∀ t, s < t → t < i → K (u * 32 + t) ≠ 9)
    (hd' : nh_df K V Ln u s' n') (hu : nh_us K V Ln u s' i m) : s = s' :=
  nh_seg hd.1 (Nat.le_of_lt hu.2.1) hs hu.1 hd.2.2.1 hd'.2.2.1 hn (fun t h1 h2 => hu.2.2.1 t h1 (by omega))
/-- a use in a definition that is not the first of its name -/
theorem nh_XIn {K V : Nat → Int32} {Ln : Nat → Nat} {U N u i s n0 : Nat} {no es nu : Nat → Int32} {ow : Int32} (h : nh_XI K V Ln U N u i no es nu ow)
    (hN : N ≤ 16) (hs : s < i) (hn0 : n0 < N) (hd : nh_df K V Ln u s n0) (hn : ∀ t, s < t → t < i → K (u * 32 + t) ≠ 9) (hf0 : ¬ nh_fs K V Ln U n0 u s) (h0 : ¬ nh_S K (u * 32) i = 0) :
    nh_XI K V Ln U N u (i + 1) no es nu ow := by
  refine nh_XIa h (fun n _ hdf => absurd hdf.2.2.1 h0) (fun s' n m hnN hf hu => ?_)
  have e := nh_segu hs hd hn hf.2.1 hu
  subst e
  have e2 : n = n0 := nh_im (by rw [← hf.2.1.2.2.2, hd.2.2.2]) (by omega) (by omega)
  subst e2
  exact hf0 hf
/-- a use in the definition of a name -/
theorem nh_XIu {K V : Nat → Int32} {Ln : Nat → Nat} {U N u i s n0 m0 : Nat} {no es nu : Nat → Int32} {ow : Int32} (h : nh_XI K V Ln U N u i no es nu ow)
    (hN : N ≤ 16) (hi : i < Ln u) (hs : s < i) (hn0 : n0 < N) (hf0 : nh_fs K V Ln U n0 u s) (hn : ∀ t, s < t → t < i → K (u * 32 + t) ≠ 9) (h0 : ¬ nh_S K (u * 32) i = 0)
    (hK : K (u * 32 + i) = 2) (hV : V (u * 32 + i) = nI m0) (hm0 : m0 < N) :
    nh_XI K V Ln U N u (i + 1) no es (upd nu n0 (nu n0 ||| ((1 : Int32) <<< (nI m0 &&& 31)))) ow := by
  intro n hnN
  by_cases e : n = n0
  · subst e
    rcases h n hnN with ⟨h1, h2, h3, h4⟩ | ⟨u', i', hb, hf, h1, h2, h3, h4⟩
    · exact absurd (Or.inr ⟨rfl, hs⟩) (h4 u s hf0.2.1)
    · obtain ⟨e1, e2⟩ := nh_fs1 hf0 hf
      subst e1 e2
      refine Or.inr ⟨_, _, nh_bfm hb, hf, h1, h2, h3, fun m hm => ?_⟩
      rw [pk_us, nh_or1 (by omega) hm, h4 m hm]
      constructor
      · rintro (⟨j, hj, hu⟩ | e3)
        · exact ⟨j, nh_bfm hj, hu⟩
        · subst e3
          refine ⟨i, Or.inr ⟨rfl, by omega⟩, hs, hi, fun t ht ht2 => ?_, hK, hV⟩
          by_cases e4 : t = i
          · rw [e4, hK]; decide
          · exact hn t ht (by omega)
      · rintro ⟨j, hj, hu⟩
        rcases nh_bfs hj with hj | ⟨e1, e2⟩
        · exact Or.inl ⟨j, hj, hu⟩
        · subst e2
          refine Or.inr (nh_im ?_ (by omega) (by omega))
          rw [← hu.2.2.2.2, hV]
  · rw [pk_un e]
    refine nh_XNa (h n hnN) (fun hdf => absurd hdf.2.2.1 h0) (fun s' m hf hu => ?_)
    have e1 := nh_segu hs hf0.2.1 hn hf.2.1 hu
    subst e1
    exact e (nh_im (by rw [← hf.2.1.2.2.2, hf0.2.1.2.2.2]) (by omega) (by omega))
theorem nh_XNe {K V : Nat → Int32} {Ln : Nat → Nat} {U u i u1 i1 n : Nat} {o e x : Int32} {b : Bool} (h : nh_XN K V Ln U u i n o e x b)
    (hb : ∀ u' j, nh_ok K (u' * 32) (Ln u') → j < Ln u' → (nh_bf u i u' j ↔ nh_bf u1 i1 u' j)) : nh_XN K V Ln U u1 i1 n o e x b := by
  rcases h with ⟨h1, h2, h3, h4⟩ | ⟨u', i', hb', hf, h1, h2, h3, h4⟩
  · exact Or.inl ⟨h1, h2, h3, fun u' i' hd hb1 => h4 u' i' hd ((hb u' i' hd.1 hd.2.1).mpr hb1)⟩
  · refine Or.inr ⟨u', i', (hb u' i' hf.2.1.1 hf.2.1.2.1).mp hb', hf, h1, h2, h3, fun m hm => ?_⟩
    rw [h4 m hm]
    constructor
    · rintro ⟨j, hj, hu⟩; exact ⟨j, (hb u' j hf.2.1.1 hu.2.1).mp hj, hu⟩
    · rintro ⟨j, hj, hu⟩; exact ⟨j, (hb u' j hf.2.1.1 hu.2.1).mpr hj, hu⟩
theorem nh_XIe {K V : Nat → Int32} {Ln : Nat → Nat} {U N u : Nat} {no es nu : Nat → Int32} {ow : Int32} (h : nh_XI K V Ln U N u (Ln u) no es nu ow) : nh_XI K V Ln U N (u + 1) 0 no es nu ow := by
  intro n hn
  refine nh_XNe (h n hn) (fun u' j _ hj => ?_)
  unfold nh_bf
  by_cases e : u' = u
  · subst e; omega
  · omega
theorem nh_XIb {K V : Nat → Int32} {Ln : Nat → Nat} {U N u : Nat} {no es nu : Nat → Int32} {ow : Int32} (h : nh_XI K V Ln U N u 0 no es nu ow) (hk : ¬ nh_ok K (u * 32) (Ln u)) : nh_XI K V Ln U N (u + 1) 0 no es nu ow := by
  intro n hn
  refine nh_XNe (h n hn) (fun u' j h1 hj => ?_)
  unfold nh_bf
  by_cases e : u' = u
  · subst e; exact absurd h1 hk
  · omega
/-- what the scan has found at its end -/
def nh_XF (K V : Nat → Int32) (Ln : Nat → Nat) (U N : Nat) (no es nu : Nat → Int32) (ow : Int32) : Prop :=
  ∀ n, n < N → (bt ow n = true ↔ nh_ow K V Ln U n) ∧ (∀ m, m < 32 → (bt (nu n) m = true ↔ nh_uq K V Ln U n m)) ∧ (¬ nh_ow K V Ln U n → no n = -1) ∧ (∀ u s, nh_fs K V Ln U n u s → no n = nI u ∧ es n = nI (s + 2))
theorem nh_XIf {K V : Nat → Int32} {Ln : Nat → Nat} {U N : Nat} {no es nu : Nat → Int32} {ow : Int32} (h : nh_XI K V Ln U N U 0 no es nu ow) : nh_XF K V Ln U N no es nu ow := by
  intro n hn
  rcases h n hn with ⟨h1, h2, h3, h4⟩ | ⟨u', i', hb, hf, h1, h2, h3, h4⟩
  · have hno : ¬ nh_ow K V Ln U n := by
      rintro ⟨u, s, hf⟩
      exact h4 u s hf.2.1 (Or.inl hf.1)
    refine ⟨?_, fun m hm => ?_, fun _ => h1, fun u s hf => absurd ⟨u, s, hf⟩ hno⟩
    · rw [h2]; exact ⟨fun h => absurd h (by decide), fun h => absurd h hno⟩
    · rw [h3, b_0]
      exact ⟨fun h => absurd h (by decide), fun ⟨u, s, j, hf, _⟩ => absurd ⟨u, s, hf⟩ hno⟩
  · refine ⟨?_, fun m hm => ?_, fun hno => absurd ⟨u', i', hf⟩ hno, fun u s hf2 => ?_⟩
    · rw [h3]; exact ⟨fun _ => ⟨u', i', hf⟩, fun _ => rfl⟩
    · rw [h4 m hm]
      constructor
      · rintro ⟨j, _, hu⟩; exact ⟨u', i', j, hf, hu⟩
      · rintro ⟨u, s, j, hf2, hu⟩
        obtain ⟨e1, e2⟩ := nh_fs1 hf hf2
        subst e1 e2
        exact ⟨j, Or.inl hf.1, hu⟩
    · obtain ⟨e1, e2⟩ := nh_fs1 hf hf2
      subst e1 e2
      exact ⟨h1, h2⟩
/-- the names a unit uses, before token i -/
def nh_uu (K V : Nat → Int32) (b i m : Nat) : Prop := ∃ j, j < i ∧ nh_S K b j ≠ 0 ∧ K (b + j) = 2 ∧ V (b + j) = nI m
theorem nh_uu0 {K V : Nat → Int32} {b m : Nat} : ¬ nh_uu K V b 0 m := fun ⟨j, h, _⟩ => absurd h (Nat.not_lt_zero j)
theorem nh_uus {K V : Nat → Int32} {b i m : Nat} : nh_uu K V b (i + 1) m ↔ nh_uu K V b i m ∨ (nh_S K b i ≠ 0 ∧ K (b + i) = 2 ∧ V (b + i) = nI m) := by
  constructor
  · rintro ⟨j, h, h2⟩
    by_cases e : j = i
    · subst e; exact Or.inr h2
    · exact Or.inl ⟨j, by omega, h2⟩
  · rintro (⟨j, h, h2⟩ | h2)
    · exact ⟨j, by omega, h2⟩
    · exact ⟨i, by omega, h2⟩
theorem nh_uun {K V : Nat → Int32} {b i m : Nat} (h : ¬ (nh_S K b i ≠ 0 ∧ K (b + i) = 2)) : nh_uu K V b (i + 1) m ↔ nh_uu K V b i m := by
  rw [nh_uus]
  exact ⟨fun h1 => h1.elim id (fun h2 => absurd ⟨h2.1, h2.2.1⟩ h), Or.inl⟩
/-- the number of definitions -/
def nh_ct (K : Nat → Int32) (b : Nat) : Nat → Nat
  | 0 => 0
  | i + 1 => if K (b + i) = 9 then nh_ct K b i + 1 else nh_ct K b i
theorem nh_ctle (K : Nat → Int32) (b : Nat) : ∀ i, nh_ct K b i ≤ i := by
  intro i
  induction i with
  | zero => exact Nat.le_refl 0
  | succ i ih => rw [nh_ct]; split <;> omega
