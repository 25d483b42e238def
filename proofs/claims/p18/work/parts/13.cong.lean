/-! 13: every pure picture depends only on the tokens below the lengths -/
def nh_ag (U : Nat) (K V K' V' : Nat → Int32) (Ln Ln' : Nat → Nat) : Prop := ∀ u, u < U → Ln u = Ln' u ∧ ∀ i, i < Ln u → K (u * 32 + i) = K' (u * 32 + i) ∧ V (u * 32 + i) = V' (u * 32 + i)
theorem nh_agS {K K' : Nat → Int32} {b : Nat} : ∀ i, (∀ j, j < i → K (b + j) = K' (b + j)) → nh_au K b i = nh_au K' b i := by
  intro i
  induction i with
  | zero => intro _; rfl
  | succ i ih => intro h; rw [nh_au, nh_au, ih (fun j hj => h j (by omega)), h i (by omega)]
theorem nh_agS1 {U u i : Nat} {K V K' V' : Nat → Int32} {Ln Ln' : Nat → Nat} (h : nh_ag U K V K' V' Ln Ln') (hu : u < U) (hi : i ≤ Ln u) : nh_S K (u * 32) i = nh_S K' (u * 32) i := by
  unfold nh_S
  rw [nh_agS i (fun j hj => ((h u hu).2 j (by omega)).1)]
theorem nh_ags {U : Nat} {K V K' V' : Nat → Int32} {Ln Ln' : Nat → Nat} (h : nh_ag U K V K' V' Ln Ln') : nh_ag U K' V' K V Ln' Ln := by
  intro u hu
  have ⟨h1, h2⟩ := h u hu
  exact ⟨h1.symm, fun i hi => ⟨(h2 i (by omega)).1.symm, (h2 i (by omega)).2.symm⟩⟩
theorem nh_agk {U u : Nat} {K V K' V' : Nat → Int32} {Ln Ln' : Nat → Nat} (h : nh_ag U K V K' V' Ln Ln') (hu : u < U) (hk : nh_ok K (u * 32) (Ln u)) : nh_ok K' (u * 32) (Ln' u) := by
  have e := (h u hu).1
  rw [← e]
  exact ⟨fun j hj => by rw [← nh_agS1 h hu hj]; exact hk.1 j hj, by rw [← nh_agS1 h hu (Nat.le_refl _)]; exact hk.2⟩
theorem nh_ager {K K' : Nat → Int32} {b : Nat} : ∀ (d i : Nat), (∀ j, j ≤ i + d → nh_S K b j = nh_S K' b j) → nh_er K b d i = nh_er K' b d i := by
  intro d
  induction d with
  | zero => intro i h; rw [nh_er, nh_er, h i (by omega)]
  | succ d ih => intro i h; rw [nh_er, nh_er, h (i + 1) (by omega), ih (i + 1) (fun j hj => h j (by omega))]
theorem nh_agE {U u : Nat} {K V K' V' ln ln' : Nat → Int32} (h : nh_ag U K V K' V' (nh_L ln) (nh_L ln')) (hu : u < U) : nh_E K ln u = nh_E K' ln' u := by
  unfold nh_E
  rw [← (h u hu).1]
  exact nh_ager _ _ (fun j hj => nh_agS1 h hu (by omega))
theorem nh_agct {K K' : Nat → Int32} {b : Nat} : ∀ i, (∀ j, j < i → K (b + j) = K' (b + j)) → nh_ct K b i = nh_ct K' b i := by
  intro i
  induction i with
  | zero => intro _; rfl
  | succ i ih => intro h; rw [nh_ct, nh_ct, ih (fun j hj => h j (by omega)), h i (by omega)]
theorem nh_agC {U u : Nat} {K V K' V' ln ln' : Nat → Int32} (h : nh_ag U K V K' V' (nh_L ln) (nh_L ln')) (hu : u < U) : nh_C K ln u = nh_C K' ln' u := by
  unfold nh_C
  rw [nh_agE h hu, ← (h u hu).1, nh_agct (nh_L ln u) (fun j hj => ((h u hu).2 j hj).1)]
theorem nh_aguu {U u m : Nat} {K V K' V' : Nat → Int32} {Ln Ln' : Nat → Nat} (h : nh_ag U K V K' V' Ln Ln') (hu : u < U) (hm : nh_uu K V (u * 32) (Ln u) m) : nh_uu K' V' (u * 32) (Ln' u) m := by
  obtain ⟨j, h1, h2, h3, h4⟩ := hm
  have ⟨e1, e2⟩ := (h u hu).2 j h1
  exact ⟨j, by rw [← (h u hu).1]; exact h1, by rw [← nh_agS1 h hu (by omega)]; exact h2, by rw [← e1]; exact h3, by rw [← e2]; exact h4⟩
theorem nh_agdf {U u i n : Nat} {K V K' V' : Nat → Int32} {Ln Ln' : Nat → Nat} (h : nh_ag U K V K' V' Ln Ln') (hu : u < U) (hd : nh_df K V Ln u i n) : nh_df K' V' Ln' u i n := by
  obtain ⟨h1, h2, h3, h4⟩ := hd
  exact ⟨nh_agk h hu h1, by rw [← (h u hu).1]; exact h2, by rw [← nh_agS1 h hu (by omega)]; exact h3, by rw [← ((h u hu).2 i h2).2]; exact h4⟩
theorem nh_agfs {U u i n : Nat} {K V K' V' : Nat → Int32} {Ln Ln' : Nat → Nat} (h : nh_ag U K V K' V' Ln Ln') (hf : nh_fs K V Ln U n u i) : nh_fs K' V' Ln' U n u i := by
  obtain ⟨h1, h2, h3⟩ := hf
  refine ⟨h1, nh_agdf h h1 h2, fun u' i' hd hb => ?_⟩
  have hu' : u' < U := by unfold nh_bf at hb; omega
  exact h3 u' i' (nh_agdf (nh_ags h) hu' hd) hb
theorem nh_agus {U u s j m : Nat} {K V K' V' : Nat → Int32} {Ln Ln' : Nat → Nat} (h : nh_ag U K V K' V' Ln Ln') (hu : u < U) (hs : nh_us K V Ln u s j m) : nh_us K' V' Ln' u s j m := by
  obtain ⟨h1, h2, h3, h4, h5⟩ := hs
  exact ⟨h1, by rw [← (h u hu).1]; exact h2, fun t ht ht2 => by rw [← ((h u hu).2 t (by omega)).1]; exact h3 t ht ht2, by rw [← ((h u hu).2 j h2).1]; exact h4, by rw [← ((h u hu).2 j h2).2]; exact h5⟩
theorem nh_agow {U : Nat} {K V K' V' : Nat → Int32} {Ln Ln' : Nat → Nat} (h : nh_ag U K V K' V' Ln Ln') : nh_ow K V Ln U = nh_ow K' V' Ln' U := by
  funext n
  exact propext ⟨fun ⟨u, s, hf⟩ => ⟨u, s, nh_agfs h hf⟩, fun ⟨u, s, hf⟩ => ⟨u, s, nh_agfs (nh_ags h) hf⟩⟩
theorem nh_aguq {U : Nat} {K V K' V' : Nat → Int32} {Ln Ln' : Nat → Nat} (h : nh_ag U K V K' V' Ln Ln') : nh_uq K V Ln U = nh_uq K' V' Ln' U := by
  funext n m
  exact propext ⟨fun ⟨u, s, j, hf, hu⟩ => ⟨u, s, j, nh_agfs h hf, nh_agus h hf.1 hu⟩, fun ⟨u, s, j, hf, hu⟩ => ⟨u, s, j, nh_agfs (nh_ags h) hf, nh_agus (nh_ags h) hf.1 hu⟩⟩
theorem nh_agpe {K V K' V' w : Nat → Int32} : ∀ (f p : Nat) (af : Bool) (d : Nat) (t q : Int32) (oT oP : Nat → Int32), (∀ j, p ≤ j → j < p + f → K j = K' j ∧ V j = V' j) → nh_pe K V w f p af d t q oT oP = nh_pe K' V' w f p af d t q oT oP := by
  intro f
  induction f with
  | zero => intros; rfl
  | succ f ih =>
    intro p af d t q oT oP h
    have e := fun af d t q oT oP => ih (p + 1) af d t q oT oP (fun j h1 h2 => h j (by omega) (by omega))
    have ⟨h1, h2⟩ := h p (Nat.le_refl p) (by omega)
    rw [nh_peS, nh_peS, h1, h2]
    simp only [e]
theorem nh_agev {U u s : Nat} {K V K' V' w : Nat → Int32} {Ln Ln' : Nat → Nat} (h : nh_ag U K V K' V' Ln Ln') (hu : u < U) : nh_ev K V Ln w u s = nh_ev K' V' Ln' w u s := by
  unfold nh_ev
  rw [← (h u hu).1]
  refine nh_agpe _ _ _ _ _ _ _ _ (fun j h1 h2 => ?_)
  have h3 := (h u hu).2 (j - u * 32) (by omega)
  rw [show u * 32 + (j - u * 32) = j by omega] at h3
  exact h3
theorem nh_agvl {U : Nat} {K V K' V' : Nat → Int32} {Ln Ln' : Nat → Nat} (h : nh_ag U K V K' V' Ln Ln') : nh_vl K V Ln U = nh_vl K' V' Ln' U := by
  funext n w x
  exact propext ⟨fun ⟨u, s, hf, he⟩ => ⟨u, s, nh_agfs h hf, he.trans (nh_agev h hf.1)⟩, fun ⟨u, s, hf, he⟩ => ⟨u, s, nh_agfs (nh_ags h) hf, he.trans (nh_agev (nh_ags h) hf.1)⟩⟩
