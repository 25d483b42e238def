/-! 07: the relation; numbers of cells -/
theorem nh_c32 (u i : Nat) : nI u * 32 + nI i = nI (u * 32 + i) := by
  rw [show (32 : Int32) = nI 32 from by decide, pk_mul, nI_add]
theorem nh_c16 (u i : Nat) : nI u * 16 + nI i = nI (u * 16 + i) := by
  rw [show (16 : Int32) = nI 16 from by decide, pk_mul, nI_add]
theorem nh_e32 (u : Nat) : nI u * 32 = nI (u * 32) := by
  rw [show (32 : Int32) = nI 32 from by decide, pk_mul]
theorem nh_e16 (u : Nat) : nI u * 16 = nI (u * 16) := by
  rw [show (16 : Int32) = nI 16 from by decide, pk_mul]
theorem nh_vb0 : vp_nar .boolean 0 = 0 := by decide
theorem nh_vb1 : vp_nar .boolean 1 = 1 := by decide
theorem nh_ub (f : Nat → Int32) (k : Nat) (x y : Int32) : upd (upd f k x) k y = upd f k y := by
  funext j
  by_cases e : j = k
  · rw [e, pk_us, pk_us]
  · rw [pk_un e, pk_un e, pk_un e]
/-- the lengths as naturals -/
def nh_L (ln : Nat → Int32) : Nat → Nat := fun u => (ln u).toNatClampNeg
theorem nh_Ln {ln : Nat → Int32} {T : Nat} (hT : T ≤ 32) (h : ∀ u, ∃ l, l ≤ T ∧ ln u = nI l) (u : Nat) : ln u = nI (nh_L ln u) ∧ nh_L ln u ≤ T := by
  obtain ⟨l, h1, h2⟩ := h u
  have e : nh_L ln u = l := by unfold nh_L; rw [h2]; exact nI_clamp (by omega)
  rw [e]
  exact ⟨h2, h1⟩
/-- cells of kind NAME hold names -/
def nh_TV (N : Nat) (K V : Nat → Int32) : Prop := ∀ p, K p = 2 → ∃ m, m < N ∧ V p = nI m
theorem nh_TVu {N : Nat} {K V : Nat → Int32} {p : Nat} {k v : Int32} (h : nh_TV N K V) (hk : k = 2 → ∃ m, m < N ∧ v = nI m) : nh_TV N (upd K p k) (upd V p v) := by
  intro q hq
  by_cases e : q = p
  · rw [e, pk_us] at hq; rw [e, pk_us]; exact hk hq
  · rw [pk_un e] at hq; rw [pk_un e]; exact h q hq
def nh_Rel (U T N : Nat) (K V ln ue uu us : Nat → Int32) : Prop :=
  (2 ≤ U ∧ U ≤ 8) ∧ (8 ≤ T ∧ T ≤ 32) ∧ (4 ≤ N ∧ N ≤ 16) ∧ (∀ u, ∃ l, l ≤ T ∧ ln u = nI l) ∧ nh_TV N K V ∧ (∀ u m, u < U → m < N → us (u * 16 + m) = if bt (uu u) m = true then 1 else 0) ∧ (∀ u, u < U → ¬ ue u = -1 → uu u = 0)
