section
/-! 01: rows pasted from kit/rows -/
theorem pk_us {f : Nat → Int32} {k : Nat} {x : Int32} : upd f k x k = x := if_pos rfl
theorem pk_un {f : Nat → Int32} {k j : Nat} {x : Int32} (h : j ≠ k) : upd f k x j = f j := if_neg h
theorem pk_sub {a b : Nat} (h : b ≤ a) : nI a - nI b = nI (a - b) := by
  obtain ⟨c, rfl⟩ : ∃ c, a = c + b := ⟨a - b, by omega⟩
  rw [← nI_add, Int32.add_sub_cancel, Nat.add_sub_cancel]
theorem pk_m1 (n : Nat) : nI (n + 1) + (-1) = nI n := by
  rw [← nI_1, Int32.add_assoc, show (1 : Int32) + (-1) = 0 from rfl, Int32.add_zero]
theorem pk_mul (a b : Nat) : nI a * nI b = nI (a * b) := (Int32.ofNat_mul a b).symm
theorem pk_ix (x : Int32) {n : Nat} (hn : n < 2 ^ 31) : x < 0 ∨ nI n ≤ x ∨ ∃ j : Nat, j < n ∧ x = nI j := by
  by_cases h : x < 0
  · exact Or.inl h
  · obtain ⟨j, hj, rfl⟩ := nI_of h
    by_cases h2 : j < n
    · exact Or.inr (Or.inr ⟨j, h2, rfl⟩)
    · exact Or.inr (Or.inl (nI_le (by omega) hj))
theorem pk_le {x y : Int32} {A B : Prop} (a b : Nat) (f : a ≤ b → A) (g : b < a → B) (hx : x = nI a := by rfl) (hy : y = nI b := by rfl) (ha : a < 2 ^ 31 := by omega) (hb : b < 2 ^ 31 := by omega) : (x ≤ y → A) ∧ (¬ x ≤ y → B) := by
  subst hx hy
  rw [nI_leI ha hb]
  exact ⟨f, fun z => g (by omega)⟩
theorem pk_lt {x y : Int32} {A B : Prop} (a b : Nat) (f : a < b → A) (g : b ≤ a → B) (hx : x = nI a := by rfl) (hy : y = nI b := by rfl) (ha : a < 2 ^ 31 := by omega) (hb : b < 2 ^ 31 := by omega) : (x < y → A) ∧ (¬ x < y → B) := by
  subst hx hy
  rw [nI_ltI ha hb]
  exact ⟨f, fun z => g (by omega)⟩
theorem pk_eq {x y : Int32} {A B : Prop} (a b : Nat) (f : a = b → A) (g : a ≠ b → B) (hx : x = nI a := by rfl) (hy : y = nI b := by rfl) (ha : a < 2 ^ 31 := by omega) (hb : b < 2 ^ 31 := by omega) : (x = y → A) ∧ (¬ x = y → B) := by
  subst hx hy
  rw [nI_eq ha hb]
  exact ⟨f, g⟩
theorem pk_in {x : Int32} (n N : Nat) (h : n < N) (hx : x = nI n := by rfl) (hN : N < 2 ^ 31 := by omega) : vp_in x N := by
  subst hx
  exact vp_in_nI h hN
theorem pk_cl {x : Int32} (n : Nat) (hx : x = nI n := by rfl) (h : n < 2 ^ 31 := by omega) : x.toNatClampNeg = n := by
  subst hx
  exact nI_clamp h
theorem pk_loop {σ : Type} (W : Nat → Nat → σ → Prop) (I : Nat → σ → Prop) (e i0 : Nat) (s : σ) (hi : i0 ≤ e) (h0 : I i0 s) (hx : ∀ n s, I e s → W (n + 1) e s)
    (hs : ∀ n i s, i < e → I i s → (∀ s', I (i + 1) s' → W n (i + 1) s') → W (n + 1) i s) : ∃ n, W n i0 s :=
  ⟨e + 1, loop_i W I e hx hs (e + 1) i0 s hi (by omega) h0⟩
theorem pk_loopD {σ : Type} (W : Nat → Nat → σ → Prop) (I : Nat → σ → Prop) (hx : ∀ n s, I 0 s → W (n + 1) 0 s)
    (hs : ∀ n i s, I (i + 1) s → (∀ s', I i s' → W n i s') → W (n + 1) (i + 1) s) : ∀ (e : Nat) (s : σ), I e s → W (e + 1) e s := by
  intro e
  induction e with
  | zero => exact fun s h => hx 0 s h
  | succ e ih => exact fun s h => hs (e + 1) e s h (fun s' h' => ih s' h')
def bt (x : Int32) (i : Nat) : Bool := x.toBitVec.getLsbD i
theorem b_ext {x y : Int32} (h : ∀ i, i < 32 → bt x i = bt y i) : x = y := Int32.toBitVec_inj.mp (BitVec.eq_of_getLsbD_eq (fun i hi => h i hi))
theorem b_or (x y : Int32) (i : Nat) : bt (x ||| y) i = (bt x i || bt y i) := by unfold bt; rw [Int32.toBitVec_or, BitVec.getLsbD_or]
theorem b_and (x y : Int32) (i : Nat) : bt (x &&& y) i = (bt x i && bt y i) := by unfold bt; rw [Int32.toBitVec_and, BitVec.getLsbD_and]
theorem b_xor (x y : Int32) (i : Nat) : bt (x ^^^ y) i = (bt x i ^^ bt y i) := by unfold bt; rw [Int32.toBitVec_xor, BitVec.getLsbD_xor]
theorem b_m1 : ∀ i, i < 32 → bt (-1) i = true := by decide +kernel
theorem b_0 (i : Nat) : bt 0 i = false := BitVec.getLsbD_zero
theorem s_l : ∀ n, n < 32 → ((nI n &&& 31).toBitVec.smod 32).toNat = n := by decide +kernel
theorem b_shl (n : Nat) (hn : n < 32) (x : Int32) {i : Nat} (hi : i < 32) : bt (x <<< (nI n &&& 31)) i = (decide (n ≤ i) && bt x (i - n)) := by
  unfold bt
  rw [Int32.toBitVec_shiftLeft]
  show (x.toBitVec <<< ((nI n &&& 31).toBitVec.smod 32).toNat).getLsbD i = _
  rw [s_l n hn, BitVec.getLsbD_shiftLeft]
  rcases Nat.lt_or_ge i n with h | h
  · simp [h, Nat.not_le.mpr h]
  · simp [hi, h, Nat.not_lt.mpr h]
end
section
/-! 02: numbers, bits, mixed arrays, the automaton, definitions and uses: pure -/
theorem nh_ne1 {a : Nat} (h : a < 2 ^ 31) : ¬ nI a = -1 := by
  intro e
  have h1 := nI_pos (n := a) h
  rw [e] at h1
  exact h1 (by decide)
theorem nh_im {a b : Nat} (h : nI a = nI b) (ha : a < 2 ^ 31) (hb : b < 2 ^ 31) : a = b := (nI_eq ha hb).mp h
theorem nh_b1 : ∀ n, n < 32 → ∀ i, i < 32 → bt ((1 : Int32) <<< (nI n &&& 31)) i = decide (i = n) := by decide +kernel
theorem nh_z {x : Int32} : x = 0 ↔ ∀ i, i < 32 → bt x i = false :=
  ⟨fun h i _ => by rw [h]; exact b_0 i, fun h => b_ext (fun i hi => by rw [h i hi, b_0])⟩
theorem nh_has {x : Int32} {n : Nat} (hn : n < 32) : (x &&& ((1 : Int32) <<< (nI n &&& 31))) = 0 ↔ bt x n = false := by
  rw [nh_z]
  constructor
  · intro h
    have h1 := h n hn
    rw [b_and, nh_b1 n hn n hn] at h1
    simpa using h1
  · intro h i hi
    rw [b_and, nh_b1 n hn i hi]
    by_cases e : i = n
    · rw [e, h]; rfl
    · simp [e]
theorem nh_or1 {x : Int32} {n i : Nat} (hn : n < 32) (hi : i < 32) : bt (x ||| ((1 : Int32) <<< (nI n &&& 31))) i = true ↔ (bt x i = true ∨ i = n) := by
  rw [b_or, nh_b1 n hn i hi]
  simp
theorem nh_az {x y : Int32} : (x &&& y) = 0 ↔ ∀ i, i < 32 → bt x i = true → bt y i = true → False := by
  rw [nh_z]
  constructor
  · intro h i hi hx hy
    have h1 := h i hi
    rw [b_and, hx, hy] at h1
    exact absurd h1 (by decide)
  · intro h i hi
    rw [b_and]
    cases hx : bt x i
    · rfl
    · cases hy : bt y i
      · rfl
      · exact (h i hi hx hy).elim
theorem nh_anz {x y : Int32} : (x &&& (y ^^^ (-1))) = 0 ↔ ∀ i, i < 32 → bt x i = true → bt y i = true := by
  rw [nh_z]
  constructor
  · intro h i hi hx
    have h1 := h i hi
    rw [b_and, b_xor, b_m1 i hi, hx] at h1
    simpa using h1
  · intro h i hi
    rw [b_and, b_xor, b_m1 i hi]
    cases hx : bt x i
    · rfl
    · rw [h i hi hx]; rfl
theorem nh_bf0 {x : Bool} (h : ¬ x = false) : x = true := by cases x <;> simp_all
theorem nh_bt0 {x : Bool} (h : ¬ x = true) : x = false := by cases x <;> simp_all
/-! mixed arrays -/
def nh_mx (N : Nat) (f g : Nat → Int32) : Nat → Int32 := fun n => if n < N then f n else g n
theorem nh_mx0 (f g : Nat → Int32) : nh_mx 0 f g = g := funext fun n => if_neg (Nat.not_lt_zero n)
theorem nh_mxs (N : Nat) (f g : Nat → Int32) : upd (nh_mx N f g) N (f N) = nh_mx (N + 1) f g := by
  funext n
  show (if n = N then f N else if n < N then f n else g n) = if n < N + 1 then f n else g n
  by_cases e : n = N
  · rw [if_pos e, if_pos (by omega), e]
  · by_cases h : n < N
    · rw [if_neg e, if_pos h, if_pos (by omega)]
    · rw [if_neg e, if_neg h, if_neg (by omega)]
theorem nh_mxl {N n : Nat} {f g : Nat → Int32} (h : n < N) : nh_mx N f g n = f n := if_pos h
theorem nh_mxg {N n : Nat} {f g : Nat → Int32} (h : N ≤ n) : nh_mx N f g n = g n := if_neg (by omega)
theorem nh_mxe {N : Nat} {f f' g : Nat → Int32} (h : ∀ n, n < N → f n = f' n) : nh_mx N f g = nh_mx N f' g := by
  funext n
  by_cases e : n < N
  · rw [nh_mxl e, nh_mxl e, h n e]
  · rw [nh_mxg (by omega), nh_mxg (by omega)]
/-! the automaton -/
def nh_nx (k : Int32) (st d : Nat) : Nat :=
  if st = 0 then (if k = 2 then 1 else 4)
  else if st = 1 then (if k = 8 then 2 else 4)
  else if st = 2 then (if k = 1 then 3 else if k = 2 then 3 else if k = 4 then 2 else if k = 6 then 2 else 4)
  else (if k = 3 then 2 else if k = 4 then 2 else if k = 5 then 2 else if k = 7 then (if 0 < d then 3 else 4) else if k = 9 then (if d = 0 then 0 else 4) else 4)
def nh_dp (k : Int32) (d : Nat) : Nat := if k = 6 then d + 1 else if k = 7 then d - 1 else d
def nh_au (K : Nat → Int32) (b : Nat) : Nat → Nat × Nat
  | 0 => (0, 0)
  | i + 1 => (nh_nx (K (b + i)) (nh_au K b i).1 (nh_au K b i).2, nh_dp (K (b + i)) (nh_au K b i).2)
def nh_S (K : Nat → Int32) (b i : Nat) : Nat := (nh_au K b i).1
def nh_D (K : Nat → Int32) (b i : Nat) : Nat := (nh_au K b i).2
theorem nh_S0 (K : Nat → Int32) (b : Nat) : nh_S K b 0 = 0 := rfl
theorem nh_D0 (K : Nat → Int32) (b : Nat) : nh_D K b 0 = 0 := rfl
theorem nh_S1 (K : Nat → Int32) (b i : Nat) : nh_S K b (i + 1) = nh_nx (K (b + i)) (nh_S K b i) (nh_D K b i) := rfl
theorem nh_D1 (K : Nat → Int32) (b i : Nat) : nh_D K b (i + 1) = nh_dp (K (b + i)) (nh_D K b i) := rfl
theorem nh_n0 (k : Int32) (d : Nat) : nh_nx k 0 d = if k = 2 then 1 else 4 := rfl
theorem nh_n1 (k : Int32) (d : Nat) : nh_nx k 1 d = if k = 8 then 2 else 4 := rfl
theorem nh_n2 (k : Int32) (d : Nat) : nh_nx k 2 d = if k = 1 then 3 else if k = 2 then 3 else if k = 4 then 2 else if k = 6 then 2 else 4 := rfl
theorem nh_n3 (k : Int32) (d : Nat) : nh_nx k 3 d = if k = 3 then 2 else if k = 4 then 2 else if k = 5 then 2 else if k = 7 then (if 0 < d then 3 else 4) else if k = 9 then (if d = 0 then 0 else 4) else 4 := rfl
theorem nh_x0 {k : Int32} {d : Nat} (h : nh_nx k 0 d ≠ 4) : k = 2 ∧ nh_nx k 0 d = 1 := by
  rw [nh_n0] at h ⊢
  by_cases e : k = 2
  · exact ⟨e, if_pos e⟩
  · exact absurd (if_neg e) h
theorem nh_x1 {k : Int32} {d : Nat} (h : nh_nx k 1 d ≠ 4) : k = 8 ∧ nh_nx k 1 d = 2 := by
  rw [nh_n1] at h ⊢
  by_cases e : k = 8
  · exact ⟨e, if_pos e⟩
  · exact absurd (if_neg e) h
theorem nh_x2 {k : Int32} {d : Nat} (h : nh_nx k 2 d ≠ 4) : ((k = 1 ∨ k = 2) ∧ nh_nx k 2 d = 3) ∨ ((k = 4 ∨ k = 6) ∧ nh_nx k 2 d = 2) := by
  rw [nh_n2] at h ⊢
  grind
theorem nh_x3 {k : Int32} {d : Nat} (h : nh_nx k 3 d ≠ 4) : ((k = 3 ∨ k = 4 ∨ k = 5) ∧ nh_nx k 3 d = 2) ∨ (k = 7 ∧ 0 < d ∧ nh_nx k 3 d = 3) ∨ (k = 9 ∧ d = 0 ∧ nh_nx k 3 d = 0) := by
  rw [nh_n3] at h ⊢
  grind (splits := 30)
theorem nh_xle (k : Int32) (st d : Nat) : nh_nx k st d ≤ 4 := by
  unfold nh_nx
  grind (splits := 30)
theorem nh_xz {k : Int32} {st d : Nat} (h : nh_nx k st d = 0) : k = 9 ∧ d = 0 := by
  unfold nh_nx at h
  grind (splits := 30)
theorem nh_xo {k : Int32} {st d : Nat} (h : nh_nx k st d = 1) : st = 0 ∧ k = 2 := by
  unfold nh_nx at h
  grind (splits := 30)
theorem nh_pre {K : Nat → Int32} {b i : Nat} (h : nh_S K b (i + 1) = 0) : K (b + i) = 9 := (nh_xz (by rw [← nh_S1]; exact h)).1
theorem nh_D00 (K : Nat → Int32) (b : Nat) : ∀ i, nh_S K b i ≤ 1 → nh_D K b i = 0 := by
  intro i
  induction i with
  | zero => intro _; rfl
  | succ i ih =>
    intro h
    rw [nh_D1]
    rw [nh_S1] at h
    rcases Nat.lt_or_ge 0 (nh_nx (K (b + i)) (nh_S K b i) (nh_D K b i)) with h1 | h1
    · have ⟨e1, e2⟩ := nh_xo (Nat.le_antisymm h h1)
      rw [ih (by omega), e2]
      decide
    · have ⟨e1, e2⟩ := nh_xz (Nat.le_antisymm h1 (Nat.zero_le _))
      rw [e1, e2]
      decide
/-! the error position -/
def nh_er (K : Nat → Int32) (b : Nat) : Nat → Nat → Int32
  | 0, i => if nh_S K b i = 0 then -1 else nI i
  | d + 1, i => if nh_S K b (i + 1) = 4 then nI i else nh_er K b d (i + 1)
def nh_ok (K : Nat → Int32) (b L : Nat) : Prop := (∀ j, j ≤ L → nh_S K b j ≠ 4) ∧ nh_S K b L = 0
theorem nh_er_ok {K : Nat → Int32} {b : Nat} : ∀ (d i : Nat), i + d < 2 ^ 31 → nh_er K b d i = -1 → (∀ j, i < j → j ≤ i + d → nh_S K b j ≠ 4) ∧ nh_S K b (i + d) = 0 := by
  intro d
  induction d with
  | zero =>
    intro i hb h
    refine ⟨fun j h1 h2 => by omega, ?_⟩
    by_cases e : nh_S K b i = 0
    · exact e
    · rw [nh_er, if_neg e] at h
      exact absurd h (nh_ne1 (by omega))
  | succ d ih =>
    intro i hb h
    by_cases e : nh_S K b (i + 1) = 4
    · rw [nh_er, if_pos e] at h
      exact absurd h (nh_ne1 (by omega))
    · rw [nh_er, if_neg e] at h
      have ⟨h1, h2⟩ := ih (i + 1) (by omega) h
      refine ⟨fun j hj hj2 => ?_, by rw [show i + (d + 1) = i + 1 + d by omega]; exact h2⟩
      by_cases e2 : j = i + 1
      · rw [e2]; exact e
      · exact h1 j (by omega) (by omega)
theorem nh_ok_of {K : Nat → Int32} {b L : Nat} (hL : L < 2 ^ 31) (h : nh_er K b L 0 = -1) : nh_ok K b L := by
  have ⟨h1, h2⟩ := nh_er_ok L 0 (by omega) h
  rw [Nat.zero_add] at h1 h2
  refine ⟨fun j hj => ?_, h2⟩
  by_cases e : j = 0
  · rw [e, nh_S0]; decide
  · exact h1 j (by omega) hj
theorem nh_er_n {K : Nat → Int32} {b : Nat} : ∀ (d i : Nat), (∀ j, i < j → j ≤ i + d → nh_S K b j ≠ 4) → nh_S K b (i + d) = 0 → nh_er K b d i = -1 := by
  intro d
  induction d with
  | zero => intro i _ h; exact if_pos h
  | succ d ih =>
    intro i h h2
    rw [nh_er, if_neg (h (i + 1) (by omega) (by omega))]
    exact ih (i + 1) (fun j h3 h4 => h j (by omega) (by omega)) (by rw [show i + 1 + d = i + (d + 1) by omega]; exact h2)
theorem nh_ok_er {K : Nat → Int32} {b L : Nat} (h : nh_ok K b L) : nh_er K b L 0 = -1 :=
  nh_er_n L 0 (fun j _ h2 => h.1 j (by omega)) (by rw [Nat.zero_add]; exact h.2)
theorem nh_okS {K : Nat → Int32} {b L i : Nat} (h : nh_ok K b L) (hi : i ≤ L) : nh_S K b i ≤ 3 := by
  have h1 := h.1 i hi
  have h2 : nh_S K b i ≤ 4 := by
    cases i with
    | zero => rw [nh_S0]; decide
    | succ i => rw [nh_S1]; exact nh_xle _ _ _
  omega
theorem nh_st0 {K : Nat → Int32} {b L i : Nat} (h : nh_ok K b L) (hi : i < L) (h0 : nh_S K b i = 0) : K (b + i) = 2 ∧ nh_S K b (i + 1) = 1 := by
  have h4 := h.1 (i + 1) hi
  rw [nh_S1, h0] at h4 ⊢
  exact nh_x0 h4
theorem nh_st1 {K : Nat → Int32} {b L i : Nat} (h : nh_ok K b L) (hi : i < L) (h0 : nh_S K b i = 1) : K (b + i) = 8 ∧ nh_S K b (i + 1) = 2 := by
  have h4 := h.1 (i + 1) hi
  rw [nh_S1, h0] at h4 ⊢
  exact nh_x1 h4
theorem nh_st2 {K : Nat → Int32} {b L i : Nat} (h : nh_ok K b L) (hi : i < L) (h0 : nh_S K b i = 2) : ((K (b + i) = 1 ∨ K (b + i) = 2) ∧ nh_S K b (i + 1) = 3) ∨ ((K (b + i) = 4 ∨ K (b + i) = 6) ∧ nh_S K b (i + 1) = 2) := by
  have h4 := h.1 (i + 1) hi
  rw [nh_S1, h0] at h4 ⊢
  exact nh_x2 h4
theorem nh_st3 {K : Nat → Int32} {b L i : Nat} (h : nh_ok K b L) (hi : i < L) (h0 : nh_S K b i = 3) : ((K (b + i) = 3 ∨ K (b + i) = 4 ∨ K (b + i) = 5) ∧ nh_S K b (i + 1) = 2) ∨ (K (b + i) = 7 ∧ 0 < nh_D K b i ∧ nh_S K b (i + 1) = 3) ∨ (K (b + i) = 9 ∧ nh_D K b i = 0 ∧ nh_S K b (i + 1) = 0) := by
  have h4 := h.1 (i + 1) hi
  rw [nh_S1, h0] at h4 ⊢
  exact nh_x3 h4
theorem nh_nine {K : Nat → Int32} {b L i : Nat} (h : nh_ok K b L) (hi : i < L) (h9 : K (b + i) = 9) : nh_S K b i = 3 ∧ nh_S K b (i + 1) = 0 := by
  have h3 := nh_okS h (Nat.le_of_lt hi)
  have hc : nh_S K b i = 0 ∨ nh_S K b i = 1 ∨ nh_S K b i = 2 ∨ nh_S K b i = 3 := by omega
  rcases hc with e | e | e | e
  · have h1 := (nh_st0 h hi e).1; rw [h9] at h1; exact absurd h1 (by decide)
  · have h1 := (nh_st1 h hi e).1; rw [h9] at h1; exact absurd h1 (by decide)
  · have h1 := nh_st2 h hi e
    rw [h9] at h1
    rcases h1 with ⟨h1, _⟩ | ⟨h1, _⟩
    · exact absurd h1 (by decide)
    · exact absurd h1 (by decide)
  · have h1 := nh_st3 h hi e
    rw [h9] at h1
    rcases h1 with ⟨h1, _⟩ | ⟨h1, _⟩ | ⟨_, _, h1⟩
    · exact absurd h1 (by decide)
    · exact absurd h1 (by decide)
    · exact ⟨e, h1⟩
theorem nh_n9 {K : Nat → Int32} {b i : Nat} (h9 : ¬ K (b + i) = 9) : nh_S K b (i + 1) ≠ 0 := fun h => h9 (nh_pre h)
/-- two starts whose runs without a semicolon reach i are one -/
theorem nh_seg {K : Nat → Int32} {b L i s s' : Nat} (h : nh_ok K b L) (hi : i ≤ L) (hs : s < i) (hs' : s' < i) (h0 : nh_S K b s = 0) (h0' : nh_S K b s' = 0)
    (hn : ∀ t, s < t → t < i → K (b + t) ≠ 9) (hn' : ∀ t, s' < t → t < i → K (b + t) ≠ 9) : s = s' := by
  rcases Nat.lt_trichotomy s s' with e | e | e
  · obtain ⟨q, rfl⟩ : ∃ q, s' = q + 1 := ⟨s' - 1, by omega⟩
    have h9 := nh_pre h0'
    by_cases e2 : q = s
    · rw [e2, (nh_st0 h (by omega) h0).1] at h9; exact absurd h9 (by decide)
    · exact absurd h9 (hn q (by omega) (by omega))
  · exact e
  · obtain ⟨q, rfl⟩ : ∃ q, s = q + 1 := ⟨s - 1, by omega⟩
    have h9 := nh_pre h0
    by_cases e2 : q = s'
    · rw [e2, (nh_st0 h (by omega) h0').1] at h9; exact absurd h9 (by decide)
    · exact absurd h9 (hn' q (by omega) (by omega))
end
section
/-! 03: definitions of names, their uses, and the scan that finds them: pure -/
def nh_df (K V : Nat → Int32) (Ln : Nat → Nat) (u i n : Nat) : Prop := nh_ok K (u * 32) (Ln u) ∧ i < Ln u ∧ nh_S K (u * 32) i = 0 ∧ V (u * 32 + i) = nI n
def nh_bf (u i u' i' : Nat) : Prop := u' < u ∨ (u' = u ∧ i' < i)
def nh_fs (K V : Nat → Int32) (Ln : Nat → Nat) (U n u i : Nat) : Prop := u < U ∧ nh_df K V Ln u i n ∧ ∀ u' i', nh_df K V Ln u' i' n → ¬ nh_bf u i u' i'
def nh_us (K V : Nat → Int32) (Ln : Nat → Nat) (u s j m : Nat) : Prop := s < j ∧ j < Ln u ∧ (∀ t, s < t → t ≤ j → K (u * 32 + t) ≠ 9) ∧ K (u * 32 + j) = 2 ∧ V (u * 32 + j) = nI m
def nh_uq (K V : Nat → Int32) (Ln : Nat → Nat) (U n m : Nat) : Prop := ∃ u s j, nh_fs K V Ln U n u s ∧ nh_us K V Ln u s j m
def nh_ow (K V : Nat → Int32) (Ln : Nat → Nat) (U n : Nat) : Prop := ∃ u s, nh_fs K V Ln U n u s
theorem nh_bfs {u i u' i' : Nat} (h : nh_bf u (i + 1) u' i') : nh_bf u i u' i' ∨ (u' = u ∧ i' = i) := by
  unfold nh_bf at *; omega
theorem nh_bfm {u i u' i' : Nat} (h : nh_bf u i u' i') : nh_bf u (i + 1) u' i' := by
  unfold nh_bf at *; omega
theorem nh_fs1 {K V : Nat → Int32} {Ln : Nat → Nat} {U n u i u' i' : Nat} (h : nh_fs K V Ln U n u i) (h' : nh_fs K V Ln U n u' i') : u' = u ∧ i' = i := by
  have h1 := h.2.2 u' i' h'.2.1
  have h2 := h'.2.2 u i h.2.1
  unfold nh_bf at *; omega
/-- no run from an earlier start reaches a start -/
theorem nh_us0 {K V : Nat → Int32} {Ln : Nat → Nat} {u s i n m : Nat} (hd : nh_df K V Ln u s n) (h0 : nh_S K (u * 32) i = 0) (h : nh_us K V Ln u s i m) : False := by
  obtain ⟨h1, h2, h3, _, _⟩ := h
  obtain ⟨hk, hs, hs0, _⟩ := hd
  obtain ⟨q, rfl⟩ : ∃ q, i = q + 1 := ⟨i - 1, by omega⟩
  have h9 := nh_pre h0
  by_cases e : q = s
  · rw [e, (nh_st0 hk hs hs0).1] at h9; exact absurd h9 (by decide)
  · exact h3 q (by omega) (by omega) h9
/-- what X's scan has found of name n before (u, i): its owner o, start e, uses x, owned or not b -/
def nh_XN (K V : Nat → Int32) (Ln : Nat → Nat) (U u i n : Nat) (o e x : Int32) (b : Bool) : Prop :=
  (o = -1 ∧ b = false ∧ x = 0 ∧ ∀ u' i', nh_df K V Ln u' i' n → ¬ nh_bf u i u' i') ∨
    (∃ u' i', nh_bf u i u' i' ∧ nh_fs K V Ln U n u' i' ∧ o = nI u' ∧ e = nI (i' + 2) ∧ b = true ∧
      ∀ m, m < 32 → (bt x m = true ↔ ∃ j, nh_bf u i u' j ∧ nh_us K V Ln u' i' j m))
def nh_XI (K V : Nat → Int32) (Ln : Nat → Nat) (U N u i : Nat) (no es nu : Nat → Int32) (ow : Int32) : Prop :=
  ∀ n, n < N → nh_XN K V Ln U u i n (no n) (es n) (nu n) (bt ow n)
theorem nh_XI0 {K V : Nat → Int32} {Ln : Nat → Nat} {U N : Nat} {no es nu : Nat → Int32} {ow : Int32} (h : ∀ n, n < N → no n = -1 ∧ nu n = 0) (h0 : ow = 0) : nh_XI K V Ln U N 0 0 no es nu ow := by
  intro n hn
  refine Or.inl ⟨(h n hn).1, by rw [h0]; exact b_0 n, (h n hn).2, fun u' i' _ hb => ?_⟩
  unfold nh_bf at hb; omega
/-- a token that neither claims the name nor is a use of its definition -/
theorem nh_XNa {K V : Nat → Int32} {Ln : Nat → Nat} {U u i n : Nat} {o e x : Int32} {b : Bool} (h : nh_XN K V Ln U u i n o e x b)
    (hd : nh_df K V Ln u i n → ¬ o = -1) (hk : ∀ s m, nh_fs K V Ln U n u s → ¬ nh_us K V Ln u s i m) : nh_XN K V Ln U u (i + 1) n o e x b := by
  rcases h with ⟨h1, h2, h3, h4⟩ | ⟨u', i', hb, hf, h1, h2, h3, h4⟩
  · refine Or.inl ⟨h1, h2, h3, fun u' i' hdf hb => ?_⟩
    rcases nh_bfs hb with hb | ⟨e1, e2⟩
    · exact h4 u' i' hdf hb
    · rw [e1, e2] at hdf; exact hd hdf h1
  · refine Or.inr ⟨u', i', nh_bfm hb, hf, h1, h2, h3, fun m hm => ?_⟩
    rw [h4 m hm]
    constructor
    · rintro ⟨j, hj, hu⟩; exact ⟨j, nh_bfm hj, hu⟩
    · rintro ⟨j, hj, hu⟩
      rcases nh_bfs hj with hj | ⟨e1, e2⟩
      · exact ⟨j, hj, hu⟩
      · rw [e1, e2] at hu; rw [e1] at hf; exact (hk _ _ hf hu).elim
theorem nh_XIa {K V : Nat → Int32} {Ln : Nat → Nat} {U N u i : Nat} {no es nu : Nat → Int32} {ow : Int32} (h : nh_XI K V Ln U N u i no es nu ow)
    (hd : ∀ n, n < N → nh_df K V Ln u i n → ¬ no n = -1) (hk : ∀ s n m, n < N → nh_fs K V Ln U n u s → ¬ nh_us K V Ln u s i m) : nh_XI K V Ln U N u (i + 1) no es nu ow :=
  fun n hn => nh_XNa (h n hn) (hd n hn) (fun s m => hk s n m hn)
/-- a start whose name is free: it is claimed -/
theorem nh_XIc {K V : Nat → Int32} {Ln : Nat → Nat} {U N u i n0 : Nat} {no es nu : Nat → Int32} {ow : Int32} (h : nh_XI K V Ln U N u i no es nu ow)
    (hU : U ≤ 8) (hN : N ≤ 16) (hu : u < U) (hn0 : n0 < N) (hdf : nh_df K V Ln u i n0) (hno : no n0 = -1) :
    nh_fs K V Ln U n0 u i ∧ nh_XI K V Ln U N u (i + 1) (upd no n0 (nI u)) (upd es n0 (nI (i + 2))) nu (ow ||| ((1 : Int32) <<< (nI n0 &&& 31))) := by
  have hfs : nh_fs K V Ln U n0 u i ∧ nu n0 = 0 := by
    rcases h n0 hn0 with ⟨h1, h2, h3, h4⟩ | ⟨u', i', hb, hf, h1, h2, h3, h4⟩
    · exact ⟨⟨hu, hdf, h4⟩, h3⟩
    · rw [h1] at hno; exact absurd hno (nh_ne1 (by have := hf.1; omega))
  refine ⟨hfs.1, fun n hn => ?_⟩
  by_cases e : n = n0
  · subst e
    refine Or.inr ⟨u, i, Or.inr ⟨rfl, by omega⟩, hfs.1, pk_us, pk_us, (nh_or1 (by omega) (by omega)).mpr (Or.inr rfl), fun m hm => ?_⟩
    rw [hfs.2, b_0]
    constructor
    · intro h; exact absurd h (by decide)
    · rintro ⟨j, hj, hu⟩
      have h1 := hu.1
      unfold nh_bf at hj; omega
  · have hob : bt (ow ||| ((1 : Int32) <<< (nI n0 &&& 31))) n = bt ow n := by
      cases hb : bt ow n
      · refine nh_bt0 (fun h1 => ?_)
        rcases (nh_or1 (by omega) (by omega)).mp h1 with h2 | h2
        · rw [hb] at h2; exact absurd h2 (by decide)
        · exact e h2
      · exact (nh_or1 (by omega) (by omega)).mpr (Or.inl hb)
    rw [pk_un e, pk_un e, hob]
    refine nh_XNa (h n hn) (fun hd => ?_) (fun s m hf hu => nh_us0 hf.2.1 hdf.2.2.1 hu)
    have h5 := hd.2.2.2
    rw [hdf.2.2.2] at h5
    exact absurd (nh_im h5 (by omega) (by omega)).symm e
/-- the current definition of a unit: its start, and whether it is the first of its name -/
def nh_cur (K V : Nat → Int32) (Ln : Nat → Nat) (U N u i : Nat) (x : Int32) : Prop :=
  ∃ s n, s < i ∧ n < N ∧ nh_df K V Ln u s n ∧ (∀ t, s < t → t < i → K (u * 32 + t) ≠ 9) ∧ ((nh_fs K V Ln U n u s ∧ x = nI n) ∨ (¬ nh_fs K V Ln U n u s ∧ x = -1))
theorem nh_cur1 {K V : Nat → Int32} {Ln : Nat → Nat} {U N u i : Nat} {x : Int32} (h : nh_cur K V Ln U N u i x) (h9 : ¬ K (u * 32 + i) = 9) : nh_cur K V Ln U N u (i + 1) x := by
  obtain ⟨s, n, h1, h2, h3, h4, h5⟩ := h
  refine ⟨s, n, by omega, h2, h3, fun t ht ht2 => ?_, h5⟩
  by_cases e : t = i
  · rw [e]; exact h9
  · exact h4 t ht (by omega)
theorem nh_segu {K V : Nat → Int32} {Ln : Nat → Nat} {u i s s' n n' m : Nat} (hs : s < i) (hd : nh_df K V Ln u s n) (hn : ∀ t, s < t → t < i → K (u * 32 + t) ≠ 9)
    (hd' : nh_df K V Ln u s' n') (hu : nh_us K V Ln u s' i m) : s = s' :=
  nh_seg hd.1 (Nat.le_of_lt hu.2.1) hs hu.1 hd.2.2.1 hd'.2.2.1 hn (fun t h1 h2 => hu.2.2.1 t h1 (by omega))
/-- a use in a definition that is not the first of its name -/
theorem nh_XIn {K V : Nat → Int32} {Ln : Nat → Nat} {U N u i s n0 : Nat} {no es nu : Nat → Int32} {ow : Int32} (h : nh_XI K V Ln U N u i no es nu ow)
    (hN : N ≤ 16) (hs : s < i) (hn0 : n0 < N) (hd : nh_df K V Ln u s n0) (hn : ∀ t, s < t → t < i → K (u * 32 + t) ≠ 9) (hf0 : ¬ nh_fs K V Ln U n0 u s) (h0 : ¬ nh_S K (u * 32) i = 0) :
    nh_XI K V Ln U N u (i + 1) no es nu ow := by
  refine nh_XIa h (fun n _ hdf => absurd hdf.2.2.1 h0) (fun s' n m hnN hf hu => ?_)
  have e := nh_segu hs hd hn hf.2.1 hu
  subst e
  have e2 : n = n0 := nh_im (by rw [← hf.2.1.2.2.2, hd.2.2.2]) (by omega) (by omega)
  subst e2
  exact hf0 hf
/-- a use in the definition of a name -/
theorem nh_XIu {K V : Nat → Int32} {Ln : Nat → Nat} {U N u i s n0 m0 : Nat} {no es nu : Nat → Int32} {ow : Int32} (h : nh_XI K V Ln U N u i no es nu ow)
    (hN : N ≤ 16) (hi : i < Ln u) (hs : s < i) (hn0 : n0 < N) (hf0 : nh_fs K V Ln U n0 u s) (hn : ∀ t, s < t → t < i → K (u * 32 + t) ≠ 9) (h0 : ¬ nh_S K (u * 32) i = 0)
    (hK : K (u * 32 + i) = 2) (hV : V (u * 32 + i) = nI m0) (hm0 : m0 < N) :
    nh_XI K V Ln U N u (i + 1) no es (upd nu n0 (nu n0 ||| ((1 : Int32) <<< (nI m0 &&& 31)))) ow := by
  intro n hnN
  by_cases e : n = n0
  · subst e
    rcases h n hnN with ⟨h1, h2, h3, h4⟩ | ⟨u', i', hb, hf, h1, h2, h3, h4⟩
    · exact absurd (Or.inr ⟨rfl, hs⟩) (h4 u s hf0.2.1)
    · obtain ⟨e1, e2⟩ := nh_fs1 hf0 hf
      subst e1 e2
      refine Or.inr ⟨_, _, nh_bfm hb, hf, h1, h2, h3, fun m hm => ?_⟩
      rw [pk_us, nh_or1 (by omega) hm, h4 m hm]
      constructor
      · rintro (⟨j, hj, hu⟩ | e3)
        · exact ⟨j, nh_bfm hj, hu⟩
        · subst e3
          refine ⟨i, Or.inr ⟨rfl, by omega⟩, hs, hi, fun t ht ht2 => ?_, hK, hV⟩
          by_cases e4 : t = i
          · rw [e4, hK]; decide
          · exact hn t ht (by omega)
      · rintro ⟨j, hj, hu⟩
        rcases nh_bfs hj with hj | ⟨e1, e2⟩
        · exact Or.inl ⟨j, hj, hu⟩
        · subst e2
          refine Or.inr (nh_im ?_ (by omega) (by omega))
          rw [← hu.2.2.2.2, hV]
  · rw [pk_un e]
    refine nh_XNa (h n hnN) (fun hdf => absurd hdf.2.2.1 h0) (fun s' m hf hu => ?_)
    have e1 := nh_segu hs hf0.2.1 hn hf.2.1 hu
    subst e1
    exact e (nh_im (by rw [← hf.2.1.2.2.2, hf0.2.1.2.2.2]) (by omega) (by omega))
theorem nh_XNe {K V : Nat → Int32} {Ln : Nat → Nat} {U u i u1 i1 n : Nat} {o e x : Int32} {b : Bool} (h : nh_XN K V Ln U u i n o e x b)
    (hb : ∀ u' j, nh_ok K (u' * 32) (Ln u') → j < Ln u' → (nh_bf u i u' j ↔ nh_bf u1 i1 u' j)) : nh_XN K V Ln U u1 i1 n o e x b := by
  rcases h with ⟨h1, h2, h3, h4⟩ | ⟨u', i', hb', hf, h1, h2, h3, h4⟩
  · exact Or.inl ⟨h1, h2, h3, fun u' i' hd hb1 => h4 u' i' hd ((hb u' i' hd.1 hd.2.1).mpr hb1)⟩
  · refine Or.inr ⟨u', i', (hb u' i' hf.2.1.1 hf.2.1.2.1).mp hb', hf, h1, h2, h3, fun m hm => ?_⟩
    rw [h4 m hm]
    constructor
    · rintro ⟨j, hj, hu⟩; exact ⟨j, (hb u' j hf.2.1.1 hu.2.1).mp hj, hu⟩
    · rintro ⟨j, hj, hu⟩; exact ⟨j, (hb u' j hf.2.1.1 hu.2.1).mpr hj, hu⟩
theorem nh_XIe {K V : Nat → Int32} {Ln : Nat → Nat} {U N u : Nat} {no es nu : Nat → Int32} {ow : Int32} (h : nh_XI K V Ln U N u (Ln u) no es nu ow) : nh_XI K V Ln U N (u + 1) 0 no es nu ow := by
  intro n hn
  refine nh_XNe (h n hn) (fun u' j _ hj => ?_)
  unfold nh_bf
  by_cases e : u' = u
  · subst e; omega
  · omega
theorem nh_XIb {K V : Nat → Int32} {Ln : Nat → Nat} {U N u : Nat} {no es nu : Nat → Int32} {ow : Int32} (h : nh_XI K V Ln U N u 0 no es nu ow) (hk : ¬ nh_ok K (u * 32) (Ln u)) : nh_XI K V Ln U N (u + 1) 0 no es nu ow := by
  intro n hn
  refine nh_XNe (h n hn) (fun u' j h1 hj => ?_)
  unfold nh_bf
  by_cases e : u' = u
  · subst e; exact absurd h1 hk
  · omega
/-- what the scan has found at its end -/
def nh_XF (K V : Nat → Int32) (Ln : Nat → Nat) (U N : Nat) (no es nu : Nat → Int32) (ow : Int32) : Prop :=
  ∀ n, n < N → (bt ow n = true ↔ nh_ow K V Ln U n) ∧ (∀ m, m < 32 → (bt (nu n) m = true ↔ nh_uq K V Ln U n m)) ∧ (¬ nh_ow K V Ln U n → no n = -1) ∧ (∀ u s, nh_fs K V Ln U n u s → no n = nI u ∧ es n = nI (s + 2))
theorem nh_XIf {K V : Nat → Int32} {Ln : Nat → Nat} {U N : Nat} {no es nu : Nat → Int32} {ow : Int32} (h : nh_XI K V Ln U N U 0 no es nu ow) : nh_XF K V Ln U N no es nu ow := by
  intro n hn
  rcases h n hn with ⟨h1, h2, h3, h4⟩ | ⟨u', i', hb, hf, h1, h2, h3, h4⟩
  · have hno : ¬ nh_ow K V Ln U n := by
      rintro ⟨u, s, hf⟩
      exact h4 u s hf.2.1 (Or.inl hf.1)
    refine ⟨?_, fun m hm => ?_, fun _ => h1, fun u s hf => absurd ⟨u, s, hf⟩ hno⟩
    · rw [h2]; exact ⟨fun h => absurd h (by decide), fun h => absurd h hno⟩
    · rw [h3, b_0]
      exact ⟨fun h => absurd h (by decide), fun ⟨u, s, j, hf, _⟩ => absurd ⟨u, s, hf⟩ hno⟩
  · refine ⟨?_, fun m hm => ?_, fun hno => absurd ⟨u', i', hf⟩ hno, fun u s hf2 => ?_⟩
    · rw [h3]; exact ⟨fun _ => ⟨u', i', hf⟩, fun _ => rfl⟩
    · rw [h4 m hm]
      constructor
      · rintro ⟨j, _, hu⟩; exact ⟨u', i', j, hf, hu⟩
      · rintro ⟨u, s, j, hf2, hu⟩
        obtain ⟨e1, e2⟩ := nh_fs1 hf hf2
        subst e1 e2
        exact ⟨j, Or.inl hf.1, hu⟩
    · obtain ⟨e1, e2⟩ := nh_fs1 hf hf2
      subst e1 e2
      exact ⟨h1, h2⟩
/-- the names a unit uses, before token i -/
def nh_uu (K V : Nat → Int32) (b i m : Nat) : Prop := ∃ j, j < i ∧ nh_S K b j ≠ 0 ∧ K (b + j) = 2 ∧ V (b + j) = nI m
theorem nh_uu0 {K V : Nat → Int32} {b m : Nat} : ¬ nh_uu K V b 0 m := fun ⟨j, h, _⟩ => absurd h (Nat.not_lt_zero j)
theorem nh_uus {K V : Nat → Int32} {b i m : Nat} : nh_uu K V b (i + 1) m ↔ nh_uu K V b i m ∨ (nh_S K b i ≠ 0 ∧ K (b + i) = 2 ∧ V (b + i) = nI m) := by
  constructor
  · rintro ⟨j, h, h2⟩
    by_cases e : j = i
    · subst e; exact Or.inr h2
    · exact Or.inl ⟨j, by omega, h2⟩
  · rintro (⟨j, h, h2⟩ | h2)
    · exact ⟨j, by omega, h2⟩
    · exact ⟨i, by omega, h2⟩
theorem nh_uun {K V : Nat → Int32} {b i m : Nat} (h : ¬ (nh_S K b i ≠ 0 ∧ K (b + i) = 2)) : nh_uu K V b (i + 1) m ↔ nh_uu K V b i m := by
  rw [nh_uus]
  exact ⟨fun h1 => h1.elim id (fun h2 => absurd ⟨h2.1, h2.2.1⟩ h), Or.inl⟩
/-- the number of definitions -/
def nh_ct (K : Nat → Int32) (b : Nat) : Nat → Nat
  | 0 => 0
  | i + 1 => if K (b + i) = 9 then nh_ct K b i + 1 else nh_ct K b i
theorem nh_ctle (K : Nat → Int32) (b : Nat) : ∀ i, nh_ct K b i ≤ i := by
  intro i
  induction i with
  | zero => exact Nat.le_refl 0
  | succ i ih => rw [nh_ct]; split <;> omega
end
section
/-! 04: the graph, its closure, and why N rounds decide every name: pure -/
def nh_rl (O : Nat → Prop) (Q : Nat → Nat → Prop) : Nat → Nat → Nat → Prop
  | 0, a, c => Q a c ∧ O a ∧ O c
  | k + 1, a, c => nh_rl O Q k a c ∨ (nh_rl O Q k a k ∧ nh_rl O Q k k c)
theorem nh_rl0 {O : Nat → Prop} {Q : Nat → Nat → Prop} {a c : Nat} (h : nh_rl O Q 0 a c) : ∀ k, nh_rl O Q k a c := by
  intro k
  induction k with
  | zero => exact h
  | succ k ih => exact Or.inl ih
theorem nh_rlk {O : Nat → Prop} {Q : Nat → Nat → Prop} {k a : Nat} (h : nh_rl O Q (k + 1) a k) : nh_rl O Q k a k := Or.elim h id (fun h => h.1)
theorem nh_rlk' {O : Nat → Prop} {Q : Nat → Nat → Prop} {k c : Nat} (h : nh_rl O Q (k + 1) k c) : nh_rl O Q k k c := Or.elim h id (fun h => h.2)
theorem nh_rlt {O : Nat → Prop} {Q : Nat → Nat → Prop} : ∀ k a j c, j < k → nh_rl O Q k a j → nh_rl O Q k j c → nh_rl O Q k a c := by
  intro k
  induction k with
  | zero => intro a j c h; exact absurd h (Nat.not_lt_zero j)
  | succ k ih =>
    intro a j c hj h1 h2
    by_cases e : j = k
    · subst e
      exact Or.inr ⟨nh_rlk h1, nh_rlk' h2⟩
    · have hjk : j < k := by omega
      rcases h1 with h1 | ⟨h1, h1'⟩
      · rcases h2 with h2 | ⟨h2, h2'⟩
        · exact Or.inl (ih a j c hjk h1 h2)
        · exact Or.inr ⟨ih a j k hjk h1 h2, h2'⟩
      · rcases h2 with h2 | ⟨h2, h2'⟩
        · exact Or.inr ⟨h1, ih k j c hjk h1' h2⟩
        · exact Or.inr ⟨h1, h2'⟩
/-- a set each of whose members leads to a member holds a member that leads to itself -/
theorem nh_cyc {R : Nat → Nat → Prop} {M : Nat} (ht : ∀ a b c, b < M → R a b → R b c → R a c) : ∀ (N : Nat), N ≤ M → ∀ (P : Nat → Prop), (∀ n, n < N → P n → ∃ m, m < N ∧ P m ∧ R n m) → (∃ n, n < N ∧ P n) → ∃ n, n < N ∧ P n ∧ R n n := by
  intro N
  induction N with
  | zero => rintro _ P _ ⟨n, hn, _⟩; exact absurd hn (Nat.not_lt_zero n)
  | succ N ih =>
    intro hM P hs hex
    by_cases hP : P N
    · by_cases hR : R N N
      · exact ⟨N, by omega, hP, hR⟩
      · obtain ⟨m, hm, hPm, hRm⟩ := hs N (by omega) hP
        have hmN : m < N := by
          rcases Nat.lt_or_ge m N with h | h
          · exact h
          · have e : m = N := by omega
            subst e; exact absurd hRm hR
        obtain ⟨n, h1, h2, h3⟩ := ih (by omega) P (fun n hn hPn => by
          obtain ⟨q, hq, hPq, hRq⟩ := hs n (by omega) hPn
          rcases Nat.lt_or_ge q N with h | h
          · exact ⟨q, h, hPq, hRq⟩
          · have e : q = N := by omega
            subst e
            exact ⟨m, hmN, hPm, ht n q m (by omega) hRq hRm⟩) ⟨m, hmN, hPm⟩
        exact ⟨n, by omega, h2, h3⟩
    · obtain ⟨n0, h0, hP0⟩ := hex
      have hn0 : n0 < N := by
        rcases Nat.lt_or_ge n0 N with h | h
        · exact h
        · have e : n0 = N := by omega
          subst e; exact absurd hP0 hP
      obtain ⟨n, h1, h2, h3⟩ := ih (by omega) P (fun n hn hPn => by
        obtain ⟨q, hq, hPq, hRq⟩ := hs n (by omega) hPn
        rcases Nat.lt_or_ge q N with h | h
        · exact ⟨q, h, hPq, hRq⟩
        · have e : q = N := by omega
          subst e; exact absurd hPq hP) ⟨n0, hn0, hP0⟩
      exact ⟨n, by omega, h2, h3⟩
/-! counting -/
noncomputable def nh_b (p : Prop) : Nat := @ite Nat p (Classical.propDecidable p) 1 0
theorem nh_bT {p : Prop} (h : p) : nh_b p = 1 := @if_pos p (Classical.propDecidable p) h Nat 1 0
theorem nh_bF {p : Prop} (h : ¬ p) : nh_b p = 0 := @if_neg p (Classical.propDecidable p) h Nat 1 0
theorem nh_ble (p : Prop) : nh_b p ≤ 1 := by
  by_cases h : p
  · rw [nh_bT h]; exact Nat.le_refl 1
  · rw [nh_bF h]; exact Nat.zero_le 1
theorem nh_bm {p q : Prop} (h : p → q) : nh_b p ≤ nh_b q := by
  by_cases hp : p
  · rw [nh_bT hp, nh_bT (h hp)]; exact Nat.le_refl 1
  · rw [nh_bF hp]; exact Nat.zero_le _
noncomputable def nh_cn (p : Nat → Prop) : Nat → Nat
  | 0 => 0
  | n + 1 => nh_cn p n + nh_b (p n)
theorem nh_cnle (p : Nat → Prop) : ∀ n, nh_cn p n ≤ n := by
  intro n
  induction n with
  | zero => exact Nat.le_refl 0
  | succ n ih => rw [nh_cn]; have := nh_ble (p n); omega
theorem nh_cnm {p q : Nat → Prop} : ∀ n, (∀ i, i < n → p i → q i) → nh_cn p n ≤ nh_cn q n := by
  intro n
  induction n with
  | zero => intro _; exact Nat.le_refl 0
  | succ n ih =>
    intro h
    rw [nh_cn, nh_cn]
    have h1 := ih (fun i hi => h i (by omega))
    have h2 := nh_bm (h n (by omega))
    omega
theorem nh_cnlt {p q : Nat → Prop} : ∀ n, (∀ i, i < n → p i → q i) → (∃ i, i < n ∧ q i ∧ ¬ p i) → nh_cn p n < nh_cn q n := by
  intro n
  induction n with
  | zero => rintro _ ⟨i, hi, _⟩; exact absurd hi (Nat.not_lt_zero i)
  | succ n ih =>
    rintro h ⟨i, hi, hq, hp⟩
    rw [nh_cn, nh_cn]
    by_cases e : i = n
    · subst e
      rw [nh_bT hq, nh_bF hp]
      have h1 := nh_cnm i (fun j hj => h j (by omega))
      omega
    · have h1 := ih (fun j hj => h j (by omega)) ⟨i, by omega, hq, hp⟩
      have h2 := nh_bm (h n (by omega))
      omega
theorem nh_cn0 {p : Nat → Prop} : ∀ n, nh_cn p n = 0 → ∀ i, i < n → ¬ p i := by
  intro n
  induction n with
  | zero => intro _ i hi; exact absurd hi (Nat.not_lt_zero i)
  | succ n ih =>
    intro h i hi hp
    rw [nh_cn] at h
    by_cases e : i = n
    · subst e; rw [nh_bT hp] at h; omega
    · exact ih (by omega) i (by omega) hp
/-! pending names, and the round by which each is decided -/
def nh_pd (O : Nat → Prop) (Q : Nat → Nat → Prop) (N n : Nat) : Prop := O n ∧ ¬ nh_rl O Q N n n ∧ ∀ m, m < N → Q n m → O m
def nh_dn (O : Nat → Prop) (Q : Nat → Nat → Prop) (N : Nat) : Nat → Nat → Prop
  | 0, n => ¬ nh_pd O Q N n
  | r + 1, n => nh_dn O Q N r n ∨ ∀ m, m < N → Q n m → nh_dn O Q N r m
theorem nh_dn0 {O : Nat → Prop} {Q : Nat → Nat → Prop} {N n : Nat} (h : ¬ nh_pd O Q N n) : ∀ r, nh_dn O Q N r n := by
  intro r
  induction r with
  | zero => exact h
  | succ r ih => exact Or.inl ih
theorem nh_dnp {O : Nat → Prop} {Q : Nat → Nat → Prop} {N n r : Nat} (h : ¬ nh_dn O Q N r n) : nh_pd O Q N n := by
  rcases Classical.em (nh_pd O Q N n) with h1 | h1
  · exact h1
  · exact absurd (nh_dn0 h1 r) h
theorem nh_dng {O : Nat → Prop} {Q : Nat → Nat → Prop} {N r : Nat} (hex : ∃ n, n < N ∧ ¬ nh_dn O Q N r n) : ∃ n, n < N ∧ ¬ nh_dn O Q N r n ∧ nh_dn O Q N (r + 1) n := by
  rcases Classical.em (∃ n, n < N ∧ ¬ nh_dn O Q N r n ∧ nh_dn O Q N (r + 1) n) with h | h
  · exact h
  · exfalso
    obtain ⟨n, hn, h1, h2⟩ := nh_cyc (R := nh_rl O Q N) (M := N) (fun a b c hb => nh_rlt N a b c hb) N (Nat.le_refl N) (fun n => ¬ nh_dn O Q N r n) (fun n hn h1 => by
      have h2 : ¬ nh_dn O Q N (r + 1) n := fun h2 => h ⟨n, hn, h1, h2⟩
      have h3 : ¬ ∀ m, m < N → Q n m → nh_dn O Q N r m := fun h3 => h2 (Or.inr h3)
      rcases Classical.em (∃ m, m < N ∧ Q n m ∧ ¬ nh_dn O Q N r m) with h4 | h4
      · obtain ⟨m, hm, hQ, hd⟩ := h4
        exact ⟨m, hm, hd, nh_rl0 ⟨hQ, (nh_dnp h1).1, (nh_dnp hd).1⟩ N⟩
      · refine absurd (fun m hm hQ => ?_) h3
        rcases Classical.em (nh_dn O Q N r m) with h5 | h5
        · exact h5
        · exact absurd ⟨m, hm, hQ, h5⟩ h4) hex
    exact (nh_dnp h1).2.1 h2
theorem nh_dnc {O : Nat → Prop} {Q : Nat → Nat → Prop} {N : Nat} : ∀ r, nh_cn (fun n => ¬ nh_dn O Q N r n) N = 0 ∨ nh_cn (fun n => ¬ nh_dn O Q N r n) N + r ≤ N := by
  intro r
  induction r with
  | zero => exact Or.inr (nh_cnle _ N)
  | succ r ih =>
    have hm : ∀ i, i < N → ¬ nh_dn O Q N (r + 1) i → ¬ nh_dn O Q N r i := fun i _ h h1 => h (Or.inl h1)
    rcases Classical.em (∃ n, n < N ∧ ¬ nh_dn O Q N r n) with h | h
    · obtain ⟨n, hn, h1, h2⟩ := nh_dng h
      have h3 : nh_cn (fun n => ¬ nh_dn O Q N (r + 1) n) N < nh_cn (fun n => ¬ nh_dn O Q N r n) N := nh_cnlt N hm ⟨n, hn, h1, fun h4 => h4 h2⟩
      omega
    · have h4 : nh_cn (fun n => ¬ nh_dn O Q N r n) N = 0 := by
        have h5 := nh_cnm (p := fun n => ¬ nh_dn O Q N r n) (q := fun _ => False) N (fun i hi h6 => h ⟨i, hi, h6⟩)
        have h7 : ∀ k, nh_cn (fun _ => False) k = 0 := by
          intro k
          induction k with
          | zero => rfl
          | succ k ihk => rw [nh_cn, ihk, nh_bF (fun h => h)]
        have h8 := h7 N
        omega
      have h9 := nh_cnm N hm
      exact Or.inl (by omega)
theorem nh_dna {O : Nat → Prop} {Q : Nat → Nat → Prop} {N n : Nat} (hn : n < N) : nh_dn O Q N N n := by
  have h0 : nh_cn (fun n => ¬ nh_dn O Q N N n) N = 0 := by
    rcases nh_dnc (O := O) (Q := Q) (N := N) N with h | h
    · exact h
    · omega
  rcases Classical.em (nh_dn O Q N N n) with h | h
  · exact h
  · exact absurd h (nh_cn0 (p := fun n => ¬ nh_dn O Q N N n) N h0 n hn)
/-- statuses s and values w are those the document asks for; E n w x: x is the value of the definition of n, the names' values being w -/
def nh_sol (O : Nat → Prop) (Q : Nat → Nat → Prop) (E : Nat → (Nat → Int32) → Int32 → Prop) (N : Nat) (s w : Nat → Int32) : Prop :=
  ∀ n, n < N → (¬ O n → s n = 0 ∧ w n = 0) ∧ (O n → nh_rl O Q N n n → s n = 3 ∧ w n = 0) ∧ (O n → ¬ nh_rl O Q N n n → (∃ m, m < N ∧ Q n m ∧ ¬ O m) → s n = 2 ∧ w n = 0) ∧
    (nh_pd O Q N n → (s n = 4 ∧ w n = 0 ∧ ∃ m, m < N ∧ Q n m ∧ ¬ s m = 1) ∨ (s n = 1 ∧ (∀ m, m < N → Q n m → s m = 1) ∧ E n w (w n)))
end
section
/-! 05: the value of an expr, as X reckons it: pure -/
def nh_pe (K V w : Nat → Int32) : Nat → Nat → Bool → Nat → Int32 → Int32 → (Nat → Int32) → (Nat → Int32) → Int32
  | 0, _, _, _, t, q, _, _ => t + q
  | f + 1, p, af, d, t, q, oT, oP =>
    if K p = 9 then t + q
    else if K p = 1 then nh_pe K V w f (p + 1) true d t (q * V p) oT oP
    else if K p = 2 then nh_pe K V w f (p + 1) true d t (q * w (V p).toNatClampNeg) oT oP
    else if K p = 3 then nh_pe K V w f (p + 1) false d (t + q) 1 oT oP
    else if K p = 4 then (if af = true then nh_pe K V w f (p + 1) false d (t + q) (-1) oT oP else nh_pe K V w f (p + 1) false d t (-q) oT oP)
    else if K p = 6 then nh_pe K V w f (p + 1) false (d + 1) 0 1 (upd oT d t) (upd oP d q)
    else if K p = 7 then (if d = 0 then nh_pe K V w f (p + 1) true d t q oT oP else nh_pe K V w f (p + 1) true (d - 1) (oT (d - 1)) (oP (d - 1) * (t + q)) oT oP)
    else nh_pe K V w f (p + 1) false d t q oT oP
theorem nh_peS (K V w : Nat → Int32) (f p : Nat) (af : Bool) (d : Nat) (t q : Int32) (oT oP : Nat → Int32) : nh_pe K V w (f + 1) p af d t q oT oP =
    if K p = 9 then t + q
    else if K p = 1 then nh_pe K V w f (p + 1) true d t (q * V p) oT oP
    else if K p = 2 then nh_pe K V w f (p + 1) true d t (q * w (V p).toNatClampNeg) oT oP
    else if K p = 3 then nh_pe K V w f (p + 1) false d (t + q) 1 oT oP
    else if K p = 4 then (if af = true then nh_pe K V w f (p + 1) false d (t + q) (-1) oT oP else nh_pe K V w f (p + 1) false d t (-q) oT oP)
    else if K p = 6 then nh_pe K V w f (p + 1) false (d + 1) 0 1 (upd oT d t) (upd oP d q)
    else if K p = 7 then (if d = 0 then nh_pe K V w f (p + 1) true d t q oT oP else nh_pe K V w f (p + 1) true (d - 1) (oT (d - 1)) (oP (d - 1) * (t + q)) oT oP)
    else nh_pe K V w f (p + 1) false d t q oT oP := rfl
/-- only the values of the names used count, and no stored level that is not open -/
theorem nh_pec {K V w w' : Nat → Int32} : ∀ (f p : Nat) (af : Bool) (d : Nat) (t q : Int32) (oT oP oT' oP' : Nat → Int32),
    (∀ j, p ≤ j → j < p + f → (∀ t, p ≤ t → t ≤ j → K t ≠ 9) → K j = 2 → w (V j).toNatClampNeg = w' (V j).toNatClampNeg) → (∀ j, j < d → oT j = oT' j ∧ oP j = oP' j) →
    nh_pe K V w f p af d t q oT oP = nh_pe K V w' f p af d t q oT' oP' := by
  intro f
  induction f with
  | zero => intros; rfl
  | succ f ih =>
    intro p af d t q oT oP oT' oP' h ho
    rw [nh_peS, nh_peS]
    by_cases h9 : K p = 9
    · rw [if_pos h9, if_pos h9]
    · have hr : ∀ j, p + 1 ≤ j → j < p + 1 + f → (∀ t, p + 1 ≤ t → t ≤ j → K t ≠ 9) → K j = 2 → w (V j).toNatClampNeg = w' (V j).toNatClampNeg := fun j h1 h2 h3 h4 =>
        h j (by omega) (by omega) (fun t ht ht2 => by
          by_cases e : t = p
          · rw [e]; exact h9
          · exact h3 t (by omega) ht2) h4
      rw [if_neg h9, if_neg h9]
      by_cases h1 : K p = 1
      · rw [if_pos h1, if_pos h1]; exact ih _ _ _ _ _ _ _ _ _ hr ho
      rw [if_neg h1, if_neg h1]
      by_cases h2 : K p = 2
      · rw [if_pos h2, if_pos h2, h p (Nat.le_refl p) (by omega) (fun t ht ht2 => by rw [show t = p by omega]; exact h9) h2]
        exact ih _ _ _ _ _ _ _ _ _ hr ho
      rw [if_neg h2, if_neg h2]
      by_cases h3 : K p = 3
      · rw [if_pos h3, if_pos h3]; exact ih _ _ _ _ _ _ _ _ _ hr ho
      rw [if_neg h3, if_neg h3]
      by_cases h4 : K p = 4
      · rw [if_pos h4, if_pos h4]
        by_cases ha : af = true
        · rw [if_pos ha, if_pos ha]; exact ih _ _ _ _ _ _ _ _ _ hr ho
        · rw [if_neg ha, if_neg ha]; exact ih _ _ _ _ _ _ _ _ _ hr ho
      rw [if_neg h4, if_neg h4]
      by_cases h6 : K p = 6
      · rw [if_pos h6, if_pos h6]
        refine ih _ _ _ _ _ _ _ _ _ hr (fun j hj => ?_)
        by_cases e : j = d
        · subst e; rw [pk_us, pk_us, pk_us, pk_us]; exact ⟨rfl, rfl⟩
        · rw [pk_un e, pk_un e, pk_un e, pk_un e]; exact ho j (by omega)
      rw [if_neg h6, if_neg h6]
      by_cases h7 : K p = 7
      · rw [if_pos h7, if_pos h7]
        by_cases hd : d = 0
        · rw [if_pos hd, if_pos hd]; exact ih _ _ _ _ _ _ _ _ _ hr ho
        · rw [if_neg hd, if_neg hd, (ho (d - 1) (by omega)).1, (ho (d - 1) (by omega)).2]
          exact ih _ _ _ _ _ _ _ _ _ hr (fun j hj => ho j (by omega))
      rw [if_neg h7, if_neg h7]
      exact ih _ _ _ _ _ _ _ _ _ hr ho
def nh_z0 : Nat → Int32 := fun _ => 0
def nh_ev (K V : Nat → Int32) (Ln : Nat → Nat) (w : Nat → Int32) (u s : Nat) : Int32 := nh_pe K V w (Ln u - (s + 2)) (u * 32 + s + 2) false 0 0 1 nh_z0 nh_z0
theorem nh_evc {K V w w' : Nat → Int32} {Ln : Nat → Nat} {U N n u s : Nat} (hT : ∀ p, K p = 2 → ∃ m, m < N ∧ V p = nI m) (hN : N ≤ 16) (hf : nh_fs K V Ln U n u s)
    (h : ∀ m, m < N → nh_uq K V Ln U n m → w m = w' m) : nh_ev K V Ln w u s = nh_ev K V Ln w' u s := by
  refine nh_pec _ _ _ _ _ _ _ _ _ _ (fun j h1 h2 h3 h4 => ?_) (fun j hj => absurd hj (Nat.not_lt_zero j))
  obtain ⟨m, hm, hv⟩ := hT j h4
  rw [hv, nI_clamp (by omega)]
  obtain ⟨hk, hs, hs0, _⟩ := hf.2.1
  have ⟨_, hs1⟩ := nh_st0 hk hs hs0
  refine h m hm ⟨u, s, j - u * 32, hf, by omega, by omega, fun t ht ht2 => ?_, by rw [show u * 32 + (j - u * 32) = j by omega]; exact h4, by rw [show u * 32 + (j - u * 32) = j by omega]; exact hv⟩
  by_cases e : t = s + 1
  · rw [e, (nh_st1 hk (by omega) hs1).1]; decide
  · exact h3 (u * 32 + t) (by omega) (by omega)
/-- x is the value of the definition of n -/
def nh_vl (K V : Nat → Int32) (Ln : Nat → Nat) (U n : Nat) (w : Nat → Int32) (x : Int32) : Prop := ∃ u s, nh_fs K V Ln U n u s ∧ x = nh_ev K V Ln w u s
theorem nh_vlc {K V w w' : Nat → Int32} {Ln : Nat → Nat} {U N n : Nat} {x : Int32} (hT : ∀ p, K p = 2 → ∃ m, m < N ∧ V p = nI m) (hN : N ≤ 16) (h : nh_vl K V Ln U n w x)
    (hw : ∀ m, m < N → nh_uq K V Ln U n m → w m = w' m) : nh_vl K V Ln U n w' x := by
  obtain ⟨u, s, hf, he⟩ := h
  exact ⟨u, s, hf, he.trans (nh_evc hT hN hf hw)⟩
theorem nh_vl1 {K V w : Nat → Int32} {Ln : Nat → Nat} {U n : Nat} {x y : Int32} (h : nh_vl K V Ln U n w x) (h' : nh_vl K V Ln U n w y) : x = y := by
  obtain ⟨u, s, hf, he⟩ := h
  obtain ⟨u', s', hf', he'⟩ := h'
  obtain ⟨e1, e2⟩ := nh_fs1 hf hf'
  subst e1 e2
  rw [he, he']
end
section
/-! 06: what the loops over names keep: pure -/
def nh_RR (O : Nat → Prop) (Q : Nat → Nat → Prop) (N k : Nat) (re : Nat → Int32) : Prop := ∀ a c, a < N → c < N → (bt (re a) c = true ↔ nh_rl O Q k a c)
def nh_RI (O : Nat → Prop) (Q : Nat → Nat → Prop) (N k i : Nat) (re : Nat → Int32) : Prop := ∀ a c, a < N → c < N → (bt (re a) c = true ↔ (nh_rl O Q k a c ∨ (a < i ∧ nh_rl O Q k a k ∧ nh_rl O Q k k c)))
theorem nh_RI0 {O : Nat → Prop} {Q : Nat → Nat → Prop} {N k : Nat} {re : Nat → Int32} (h : nh_RR O Q N k re) : nh_RI O Q N k 0 re := by
  intro a c ha hc
  rw [h a c ha hc]
  exact ⟨Or.inl, fun h => h.elim id (fun h => absurd h.1 (Nat.not_lt_zero a))⟩
theorem nh_RIe {O : Nat → Prop} {Q : Nat → Nat → Prop} {N k : Nat} {re : Nat → Int32} (h : nh_RI O Q N k N re) : nh_RR O Q N (k + 1) re := by
  intro a c ha hc
  rw [h a c ha hc]
  exact ⟨fun h => h.elim Or.inl (fun h => Or.inr h.2), fun h => Or.elim h Or.inl (fun h => Or.inr ⟨ha, h⟩)⟩
theorem nh_RIk {O : Nat → Prop} {Q : Nat → Nat → Prop} {N k i c : Nat} {re : Nat → Int32} (h : nh_RI O Q N k i re) (hk : k < N) (hc : c < N) : bt (re k) c = true ↔ nh_rl O Q k k c := by
  rw [h k c hk hc]
  exact ⟨fun h => h.elim id (fun h => h.2.2), Or.inl⟩
theorem nh_RIi {O : Nat → Prop} {Q : Nat → Nat → Prop} {N k i : Nat} {re : Nat → Int32} (h : nh_RI O Q N k i re) (hk : k < N) (hi : i < N) : bt (re i) k = true ↔ nh_rl O Q k i k := by
  rw [h i k hi hk]
  exact ⟨fun h => h.elim id (fun h => h.2.1), Or.inl⟩
theorem nh_RIt {O : Nat → Prop} {Q : Nat → Nat → Prop} {N k i : Nat} {re : Nat → Int32} (h : nh_RI O Q N k i re) (hk : k < N) (hi : i < N) (hb : bt (re i) k = true) : nh_RI O Q N k (i + 1) (upd re i (re i ||| re k)) := by
  have hik := (nh_RIi h hk hi).mp hb
  intro a c ha hc
  by_cases e : a = i
  · subst e
    rw [pk_us, b_or, Bool.or_eq_true, h a c ha hc, nh_RIk h hk hc]
    constructor
    · rintro ((h1 | h1) | h1)
      · exact Or.inl h1
      · exact Or.inr ⟨by omega, h1.2⟩
      · exact Or.inr ⟨by omega, hik, h1⟩
    · rintro (h1 | h1)
      · exact Or.inl (Or.inl h1)
      · exact Or.inr h1.2.2
  · rw [pk_un e, h a c ha hc]
    constructor
    · rintro (h1 | h1)
      · exact Or.inl h1
      · exact Or.inr ⟨by omega, h1.2⟩
    · rintro (h1 | h1)
      · exact Or.inl h1
      · exact Or.inr ⟨by omega, h1.2⟩
theorem nh_RIf {O : Nat → Prop} {Q : Nat → Nat → Prop} {N k i : Nat} {re : Nat → Int32} (h : nh_RI O Q N k i re) (hk : k < N) (hi : i < N) (hb : bt (re i) k = false) : nh_RI O Q N k (i + 1) re := by
  have hik : ¬ nh_rl O Q k i k := fun h1 => by rw [(nh_RIi h hk hi).mpr h1] at hb; exact absurd hb (by decide)
  intro a c ha hc
  rw [h a c ha hc]
  constructor
  · rintro (h1 | h1)
    · exact Or.inl h1
    · exact Or.inr ⟨by omega, h1.2⟩
  · rintro (h1 | h1)
    · exact Or.inl h1
    · refine Or.inr ⟨?_, h1.2⟩
      by_cases e : a = i
      · subst e; exact absurd h1.2.1 hik
      · omega
/-! the same in the reference's table: cell a * 16 + c -/
def nh_TR (O : Nat → Prop) (Q : Nat → Nat → Prop) (N k : Nat) (rc : Nat → Int32) : Prop := ∀ a c, a < N → c < N → (rc (a * 16 + c) = 0 ↔ ¬ nh_rl O Q k a c)
def nh_TI (O : Nat → Prop) (Q : Nat → Nat → Prop) (N k i j : Nat) (rc : Nat → Int32) : Prop :=
  ∀ a c, a < N → c < N → (rc (a * 16 + c) = 0 ↔ ¬ (nh_rl O Q k a c ∨ (nh_bf i j a c ∧ nh_rl O Q k a k ∧ nh_rl O Q k k c)))
theorem nh_TI0 {O : Nat → Prop} {Q : Nat → Nat → Prop} {N k : Nat} {rc : Nat → Int32} (h : nh_TR O Q N k rc) : nh_TI O Q N k 0 0 rc := by
  intro a c ha hc
  rw [h a c ha hc]
  refine not_congr ⟨Or.inl, fun h => h.elim id (fun h => ?_)⟩
  have h1 := h.1
  unfold nh_bf at h1
  omega
theorem nh_TIe {O : Nat → Prop} {Q : Nat → Nat → Prop} {N k : Nat} {rc : Nat → Int32} (h : nh_TI O Q N k N 0 rc) : nh_TR O Q N (k + 1) rc := by
  intro a c ha hc
  rw [h a c ha hc]
  exact not_congr ⟨fun h => h.elim Or.inl (fun h => Or.inr h.2), fun h => Or.elim h Or.inl (fun h => Or.inr ⟨Or.inl ha, h⟩)⟩
theorem nh_TIk {O : Nat → Prop} {Q : Nat → Nat → Prop} {N k i j c : Nat} {rc : Nat → Int32} (h : nh_TI O Q N k i j rc) (hk : k < N) (hc : c < N) : rc (k * 16 + c) = 0 ↔ ¬ nh_rl O Q k k c := by
  rw [h k c hk hc]
  exact not_congr ⟨fun h => h.elim id (fun h => h.2.2), Or.inl⟩
theorem nh_TIi {O : Nat → Prop} {Q : Nat → Nat → Prop} {N k i j a : Nat} {rc : Nat → Int32} (h : nh_TI O Q N k i j rc) (hk : k < N) (ha : a < N) : rc (a * 16 + k) = 0 ↔ ¬ nh_rl O Q k a k := by
  rw [h a k ha hk]
  exact not_congr ⟨fun h => h.elim id (fun h => h.2.1), Or.inl⟩
/-- row i is left out -/
theorem nh_TIs {O : Nat → Prop} {Q : Nat → Nat → Prop} {N k i : Nat} {rc : Nat → Int32} (h : nh_TI O Q N k i 0 rc) (hik : ¬ nh_rl O Q k i k) : nh_TI O Q N k (i + 1) 0 rc := by
  intro a c ha hc
  rw [h a c ha hc]
  refine not_congr ⟨fun h => h.elim Or.inl (fun h => Or.inr ⟨?_, h.2⟩), fun h => h.elim Or.inl (fun h => Or.inr ⟨?_, h.2⟩)⟩
  · have h1 := h.1
    unfold nh_bf at *
    omega
  · have h1 := h.1
    unfold nh_bf at *
    by_cases e : a = i
    · subst e; exact absurd h.2.1 hik
    · omega
/-- the end of row i -/
theorem nh_TIn {O : Nat → Prop} {Q : Nat → Nat → Prop} {N k i : Nat} {rc : Nat → Int32} (h : nh_TI O Q N k i N rc) : nh_TI O Q N k (i + 1) 0 rc := by
  intro a c ha hc
  rw [h a c ha hc]
  refine not_congr ⟨fun h => h.elim Or.inl (fun h => Or.inr ⟨?_, h.2⟩), fun h => h.elim Or.inl (fun h => Or.inr ⟨?_, h.2⟩)⟩
  · have h1 := h.1
    unfold nh_bf at *
    omega
  · have h1 := h.1
    unfold nh_bf at *
    omega
theorem nh_TIt {O : Nat → Prop} {Q : Nat → Nat → Prop} {N k i j : Nat} {rc : Nat → Int32} (h : nh_TI O Q N k i j rc) (hN : N ≤ 16) (hj : j < N) (hik : nh_rl O Q k i k) (hkj : nh_rl O Q k k j) {x : Int32} (hx : ¬ x = 0) : nh_TI O Q N k i (j + 1) (upd rc (i * 16 + j) x) := by
  intro a c ha hc
  by_cases e : a = i ∧ c = j
  · obtain ⟨e1, e2⟩ := e
    subst e1 e2
    rw [pk_us]
    exact ⟨fun h => absurd h hx, fun h => absurd (Or.inr ⟨Or.inr ⟨rfl, by omega⟩, hik, hkj⟩) h⟩
  · rw [pk_un (by omega), h a c ha hc]
    refine not_congr ⟨fun h => h.elim Or.inl (fun h => Or.inr ⟨?_, h.2⟩), fun h => h.elim Or.inl (fun h => Or.inr ⟨?_, h.2⟩)⟩
    · have h1 := h.1
      unfold nh_bf at *
      omega
    · have h1 := h.1
      unfold nh_bf at *
      omega
theorem nh_TIf {O : Nat → Prop} {Q : Nat → Nat → Prop} {N k i j : Nat} {rc : Nat → Int32} (h : nh_TI O Q N k i j rc) (hkj : ¬ nh_rl O Q k k j) : nh_TI O Q N k i (j + 1) rc := by
  intro a c ha hc
  rw [h a c ha hc]
  refine not_congr ⟨fun h => h.elim Or.inl (fun h => Or.inr ⟨?_, h.2⟩), fun h => h.elim Or.inl (fun h => Or.inr ⟨?_, h.2⟩)⟩
  · have h1 := h.1
    unfold nh_bf at *
    omega
  · have h1 := h.1
    unfold nh_bf at *
    by_cases e : c = j
    · subst e; exact absurd h.2.2 hkj
    · omega
/-! X decides from the graph -/
def nh_gs (O : Nat → Prop) (Q : Nat → Nat → Prop) (N n : Nat) (s : Int32) : Prop :=
  (¬ O n ∧ s = 0) ∨ (O n ∧ nh_rl O Q N n n ∧ s = 3) ∨ (O n ∧ ¬ nh_rl O Q N n n ∧ (∃ m, m < N ∧ Q n m ∧ ¬ O m) ∧ s = 2) ∨ (nh_pd O Q N n ∧ s = -1)
def nh_XG (O : Nat → Prop) (Q : Nat → Nat → Prop) (N i : Nat) (ns nr : Nat → Int32) (fl : Int32) : Prop :=
  ∀ n, n < N → (n < i → nh_gs O Q N n (ns n) ∧ nr n = 0) ∧ (bt fl n = true ↔ (n < i ∧ (ns n = 2 ∨ ns n = 3)))
theorem nh_XG0 {O : Nat → Prop} {Q : Nat → Nat → Prop} {N : Nat} {ns nr : Nat → Int32} : nh_XG O Q N 0 ns nr 0 := by
  intro n hn
  refine ⟨fun h => absurd h (Nat.not_lt_zero n), ?_⟩
  rw [b_0]
  exact ⟨fun h => absurd h (by decide), fun h => absurd h.1 (Nat.not_lt_zero n)⟩
theorem nh_XGs {O : Nat → Prop} {Q : Nat → Nat → Prop} {N i : Nat} {ns nr : Nat → Int32} {fl x : Int32} (h : nh_XG O Q N i ns nr fl) (hx : nh_gs O Q N i x) (h2 : ¬ x = 2) (h3 : ¬ x = 3) : nh_XG O Q N (i + 1) (upd ns i x) (upd nr i 0) fl := by
  intro n hn
  have hn1 := h n hn
  by_cases e : n = i
  · subst e
    rw [pk_us, pk_us]
    refine ⟨fun _ => ⟨hx, rfl⟩, ?_⟩
    rw [hn1.2]
    exact ⟨fun h1 => absurd h1.1 (by omega), fun h1 => h1.2.elim (fun h => absurd h h2) (fun h => absurd h h3)⟩
  · rw [pk_un e, pk_un e]
    refine ⟨fun h1 => hn1.1 (by omega), ?_⟩
    rw [hn1.2]
    exact ⟨fun h1 => ⟨by omega, h1.2⟩, fun h1 => ⟨by omega, h1.2⟩⟩
theorem nh_XGf {O : Nat → Prop} {Q : Nat → Nat → Prop} {N i : Nat} {ns nr : Nat → Int32} {fl x : Int32} (h : nh_XG O Q N i ns nr fl) (hN : N ≤ 16) (hi : i < N) (hx : nh_gs O Q N i x) (h2 : x = 2 ∨ x = 3) : nh_XG O Q N (i + 1) (upd ns i x) (upd nr i 0) (fl ||| ((1 : Int32) <<< (nI i &&& 31))) := by
  intro n hn
  have hn1 := h n hn
  rw [nh_or1 (by omega) (by omega)]
  by_cases e : n = i
  · subst e
    rw [pk_us, pk_us]
    exact ⟨fun _ => ⟨hx, rfl⟩, ⟨fun _ => ⟨by omega, h2⟩, fun _ => Or.inr rfl⟩⟩
  · rw [pk_un e, pk_un e]
    refine ⟨fun h1 => hn1.1 (by omega), ?_⟩
    rw [hn1.2]
    exact ⟨fun h1 => h1.elim (fun h1 => ⟨by omega, h1.2⟩) (fun h1 => absurd h1 e), fun h1 => Or.inl ⟨by omega, h1.2⟩⟩
/-! X decides the rest -/
def nh_XR (O : Nat → Prop) (Q : Nat → Nat → Prop) (E : Nat → (Nat → Int32) → Int32 → Prop) (N r i : Nat) (ns nr : Nat → Int32) (fl ok : Int32) : Prop :=
  ∀ n, n < N → (¬ nh_pd O Q N n → nh_gs O Q N n (ns n) ∧ nr n = 0) ∧
    (nh_pd O Q N n → (ns n = -1 ∧ nr n = 0) ∨ (ns n = 4 ∧ nr n = 0 ∧ ∃ m, m < N ∧ Q n m ∧ bt fl m = true) ∨ (ns n = 1 ∧ (∀ m, m < N → Q n m → ns m = 1) ∧ E n nr (nr n))) ∧
    (bt fl n = true ↔ (ns n = 2 ∨ ns n = 3 ∨ ns n = 4)) ∧ (bt ok n = true ↔ ns n = 1) ∧ (nh_dn O Q N r n → ¬ ns n = -1) ∧ (n < i → nh_dn O Q N (r + 1) n → ¬ ns n = -1)
theorem nh_gsp {O : Nat → Prop} {Q : Nat → Nat → Prop} {N n : Nat} {s : Int32} (h : nh_gs O Q N n s) : (nh_pd O Q N n → s = -1) ∧ (¬ nh_pd O Q N n → (¬ O n ∧ s = 0) ∨ (O n ∧ (s = 2 ∨ s = 3))) := by
  rcases h with ⟨h1, h2⟩ | ⟨h1, h2, h3⟩ | ⟨h1, h2, ⟨m, hm, hq, ho⟩, h3⟩ | ⟨h1, h2⟩
  · exact ⟨fun hp => absurd hp.1 h1, fun _ => Or.inl ⟨h1, h2⟩⟩
  · exact ⟨fun hp => absurd h2 hp.2.1, fun _ => Or.inr ⟨h1, Or.inr h3⟩⟩
  · exact ⟨fun hp => absurd (hp.2.2 m hm hq) ho, fun _ => Or.inr ⟨h1, Or.inl h3⟩⟩
  · exact ⟨fun _ => h2, fun hp => absurd h1 hp⟩
theorem nh_XR0 {O : Nat → Prop} {Q : Nat → Nat → Prop} {E : Nat → (Nat → Int32) → Int32 → Prop} {N : Nat} {ns nr : Nat → Int32} {fl : Int32} (h : nh_XG O Q N N ns nr fl) : nh_XR O Q E N 0 0 ns nr fl 0 := by
  intro n hn
  have ⟨h1, h2⟩ := h n hn
  have ⟨hg, hr⟩ := h1 hn
  have ⟨g1, g2⟩ := nh_gsp hg
  refine ⟨fun _ => ⟨hg, hr⟩, fun hp => Or.inl ⟨g1 hp, hr⟩, ?_, ?_, fun hp hm => ?_, fun h3 => absurd h3 (Nat.not_lt_zero n)⟩
  · rw [h2]
    constructor
    · rintro ⟨_, h3 | h3⟩
      · exact Or.inl h3
      · exact Or.inr (Or.inl h3)
    · rintro (h3 | h3 | h3)
      · exact ⟨hn, Or.inl h3⟩
      · exact ⟨hn, Or.inr h3⟩
      · rcases Classical.em (nh_pd O Q N n) with hp | hp
        · rw [g1 hp] at h3; exact absurd h3 (by decide)
        · rcases g2 hp with ⟨_, h4⟩ | ⟨_, h4 | h4⟩ <;> (rw [h4] at h3; exact absurd h3 (by decide))
  · rw [b_0]
    refine ⟨fun h => absurd h (by decide), fun h3 => ?_⟩
    rcases Classical.em (nh_pd O Q N n) with hp | hp
    · rw [g1 hp] at h3; exact absurd h3 (by decide)
    · rcases g2 hp with ⟨_, h4⟩ | ⟨_, h4 | h4⟩ <;> (rw [h4] at h3; exact absurd h3 (by decide))
  · rcases g2 hp with ⟨_, h4⟩ | ⟨_, h4 | h4⟩ <;> (rw [h4] at hm; exact absurd hm (by decide))
theorem nh_XRk {O : Nat → Prop} {Q : Nat → Nat → Prop} {E : Nat → (Nat → Int32) → Int32 → Prop} {N r i : Nat} {ns nr : Nat → Int32} {fl ok : Int32} (h : nh_XR O Q E N r i ns nr fl ok) (hs : ¬ ns i = -1) : nh_XR O Q E N r (i + 1) ns nr fl ok := by
  intro n hn
  have ⟨h1, h2, h3, h4, h5, h6⟩ := h n hn
  refine ⟨h1, h2, h3, h4, h5, fun h7 h8 => ?_⟩
  by_cases e : n = i
  · rw [e]; exact hs
  · exact h6 (by omega) h8
theorem nh_XRp {O : Nat → Prop} {Q : Nat → Nat → Prop} {E : Nat → (Nat → Int32) → Int32 → Prop} {N r i n : Nat} {ns nr : Nat → Int32} {fl ok : Int32} (h : nh_XR O Q E N r i ns nr fl ok) (hn : n < N) (hs : ns n = -1) : nh_pd O Q N n ∧ nr n = 0 := by
  have ⟨h1, h2, h3, h4, h5, h6⟩ := h n hn
  rcases Classical.em (nh_pd O Q N n) with hp | hp
  · refine ⟨hp, ?_⟩
    rcases h2 hp with h7 | h7 | h7
    · exact h7.2
    · exact h7.2.1
    · rw [h7.1] at hs; exact absurd hs (by decide)
  · rcases (nh_gsp (h1 hp).1).2 hp with ⟨_, h4⟩ | ⟨_, h4 | h4⟩ <;> (rw [h4] at hs; exact absurd hs (by decide))
theorem nh_XRb {O : Nat → Prop} {Q : Nat → Nat → Prop} {E : Nat → (Nat → Int32) → Int32 → Prop} {N r i : Nat} {ns nr : Nat → Int32} {fl ok : Int32} (h : nh_XR O Q E N r i ns nr fl ok) (hN : N ≤ 16) (hi : i < N) (hs : ns i = -1) (hm : ∃ m, m < N ∧ Q i m ∧ bt fl m = true) :
    nh_XR O Q E N r (i + 1) (upd ns i 4) nr (fl ||| ((1 : Int32) <<< (nI i &&& 31))) ok := by
  have hp := nh_XRp h hi hs
  have hfl : ∀ m, m < N → bt fl m = true → bt (fl ||| ((1 : Int32) <<< (nI i &&& 31))) m = true := fun m hm hb => (nh_or1 (by omega) (by omega)).mpr (Or.inl hb)
  intro n hn
  have ⟨h1, h2, h3, h4, h5, h6⟩ := h n hn
  by_cases e : n = i
  · subst e
    rw [pk_us]
    refine ⟨fun hnp => absurd hp.1 hnp, fun _ => Or.inr (Or.inl ⟨rfl, hp.2, ?_⟩), ⟨fun _ => Or.inr (Or.inr rfl), fun _ => (nh_or1 (by omega) (by omega)).mpr (Or.inr rfl)⟩, ?_, fun _ => by decide, fun _ _ => by decide⟩
    · obtain ⟨m, hm, hq, hb⟩ := hm
      exact ⟨m, hm, hq, hfl m hm hb⟩
    · rw [h4, hs]
      exact ⟨fun h => absurd h (by decide), fun h => absurd h (by decide)⟩
  · rw [pk_un e, nh_or1 (by omega) (by omega), h3]
    refine ⟨h1, fun hpn => ?_, ⟨fun h7 => h7.elim id (fun h7 => absurd h7 e), Or.inl⟩, h4, h5, fun h7 h8 => h6 (by omega) h8⟩
    rcases h2 hpn with h7 | ⟨h7, h8, m, hm, hq, hb⟩ | ⟨h7, h8, h9⟩
    · exact Or.inl h7
    · exact Or.inr (Or.inl ⟨h7, h8, m, hm, hq, hfl m hm hb⟩)
    · refine Or.inr (Or.inr ⟨h7, fun m hm hq => ?_, h9⟩)
      have h10 := h8 m hm hq
      rw [pk_un (fun e2 => by rw [e2, hs] at h10; exact absurd h10 (by decide))]
      exact h10
theorem nh_XRo {O : Nat → Prop} {Q : Nat → Nat → Prop} {E : Nat → (Nat → Int32) → Int32 → Prop} {N r i : Nat} {ns nr : Nat → Int32} {fl ok v : Int32} (hE : ∀ n w w' x, E n w x → (∀ m, m < N → Q n m → w m = w' m) → E n w' x)
    (h : nh_XR O Q E N r i ns nr fl ok) (hN : N ≤ 16) (hi : i < N) (hs : ns i = -1) (hq : ∀ m, m < N → Q i m → bt ok m = true) (he : E i nr v) :
    nh_XR O Q E N r (i + 1) (upd ns i 1) (upd nr i v) fl (ok ||| ((1 : Int32) <<< (nI i &&& 31))) := by
  have hp := nh_XRp h hi hs
  have hne : ∀ m, m < N → ns m = 1 → m ≠ i := fun m hm h1 e => by rw [e, hs] at h1; exact absurd h1 (by decide)
  have hq1 : ∀ m, m < N → Q i m → ns m = 1 := fun m hm hQ => (h m hm).2.2.2.1.mp (hq m hm hQ)
  intro n hn
  have ⟨h1, h2, h3, h4, h5, h6⟩ := h n hn
  by_cases e : n = i
  · subst e
    rw [pk_us, pk_us]
    refine ⟨fun hnp => absurd hp.1 hnp, fun _ => Or.inr (Or.inr ⟨rfl, fun m hm hQ => ?_, ?_⟩), ?_, ⟨fun _ => rfl, fun _ => (nh_or1 (by omega) (by omega)).mpr (Or.inr rfl)⟩, fun _ => by decide, fun _ _ => by decide⟩
    · rw [pk_un (hne m hm (hq1 m hm hQ))]; exact hq1 m hm hQ
    · refine hE n nr _ v he (fun m hm hQ => ?_)
      rw [pk_un (hne m hm (hq1 m hm hQ))]
    · rw [h3, hs]
      exact ⟨fun h => by rcases h with h | h | h <;> exact absurd h (by decide), fun h => by rcases h with h | h | h <;> exact absurd h (by decide)⟩
  · rw [pk_un e, pk_un e, nh_or1 (by omega) (by omega), h4]
    refine ⟨h1, fun hpn => ?_, h3, ⟨fun h7 => h7.elim id (fun h7 => absurd h7 e), Or.inl⟩, h5, fun h7 h8 => h6 (by omega) h8⟩
    rcases h2 hpn with h7 | h7 | ⟨h7, h8, h9⟩
    · exact Or.inl h7
    · exact Or.inr (Or.inl h7)
    · refine Or.inr (Or.inr ⟨h7, fun m hm hQ => ?_, ?_⟩)
      · rw [pk_un (hne m hm (h8 m hm hQ))]; exact h8 m hm hQ
      · refine hE n nr _ _ h9 (fun m hm hQ => ?_)
        rw [pk_un (hne m hm (h8 m hm hQ))]
theorem nh_XRs {O : Nat → Prop} {Q : Nat → Nat → Prop} {E : Nat → (Nat → Int32) → Int32 → Prop} {N r i : Nat} {ns nr : Nat → Int32} {fl ok : Int32} (h : nh_XR O Q E N r i ns nr fl ok) (hi : i < N) (hs : ns i = -1)
    (hf : ∀ m, m < N → Q i m → ¬ bt fl m = true) (hm : ∃ m, m < N ∧ Q i m ∧ ¬ bt ok m = true) : nh_XR O Q E N r (i + 1) ns nr fl ok := by
  have hp := nh_XRp h hi hs
  intro n hn
  have ⟨h1, h2, h3, h4, h5, h6⟩ := h n hn
  refine ⟨h1, h2, h3, h4, h5, fun h7 h8 => ?_⟩
  by_cases e : n = i
  · subst e
    rcases h8 with h8 | h8
    · exact h5 h8
    · exfalso
      obtain ⟨m, hm, hQ, hb⟩ := hm
      have ⟨g1, g2, g3, g4, g5, g6⟩ := h m hm
      have hnf := hf m hm hQ
      have hm1 := g5 (h8 m hm hQ)
      rw [g3] at hnf
      rw [g4] at hb
      rcases Classical.em (nh_pd O Q N m) with hpm | hpm
      · rcases g2 hpm with h9 | h9 | h9
        · exact hm1 h9.1
        · exact hnf (Or.inr (Or.inr h9.1))
        · exact hb h9.1
      · rcases (nh_gsp (g1 hpm).1).2 hpm with ⟨h9, _⟩ | ⟨_, h9 | h9⟩
        · exact h9 (hp.1.2.2 m hm hQ)
        · exact hnf (Or.inl h9)
        · exact hnf (Or.inr (Or.inl h9))
  · exact h6 (by omega) h8
theorem nh_XRe {O : Nat → Prop} {Q : Nat → Nat → Prop} {E : Nat → (Nat → Int32) → Int32 → Prop} {N r : Nat} {ns nr : Nat → Int32} {fl ok : Int32} (h : nh_XR O Q E N r N ns nr fl ok) : nh_XR O Q E N (r + 1) 0 ns nr fl ok := by
  intro n hn
  have ⟨h1, h2, h3, h4, h5, h6⟩ := h n hn
  exact ⟨h1, h2, h3, h4, h6 hn, fun h7 => absurd h7 (Nat.not_lt_zero n)⟩
theorem nh_XRf {O : Nat → Prop} {Q : Nat → Nat → Prop} {E : Nat → (Nat → Int32) → Int32 → Prop} {N : Nat} {ns nr : Nat → Int32} {fl ok : Int32} (h : nh_XR O Q E N N 0 ns nr fl ok) : nh_sol O Q E N ns nr := by
  intro n hn
  have ⟨h1, h2, h3, h4, h5, h6⟩ := h n hn
  have hd := h5 (nh_dna hn)
  refine ⟨fun ho => ?_, fun ho hr => ?_, fun ho hr hm => ?_, fun hp => ?_⟩
  · have ⟨g, z⟩ := h1 (fun hp => ho hp.1)
    refine ⟨?_, z⟩
    rcases g with g | g | g | g
    · exact g.2
    · exact absurd g.1 ho
    · exact absurd g.1 ho
    · exact absurd g.1.1 ho
  · have ⟨g, z⟩ := h1 (fun hp => hp.2.1 hr)
    refine ⟨?_, z⟩
    rcases g with g | g | g | g
    · exact absurd ho g.1
    · exact g.2.2
    · exact absurd hr g.2.1
    · exact absurd hr g.1.2.1
  · have ⟨g, z⟩ := h1 (fun hp => by
      obtain ⟨m, hm, hq, hno⟩ := hm
      exact hno (hp.2.2 m hm hq))
    refine ⟨?_, z⟩
    rcases g with g | g | g | g
    · exact absurd ho g.1
    · exact absurd g.2.1 hr
    · exact g.2.2.2
    · exact absurd g.2 hd
  · rcases h2 hp with h7 | ⟨h7, h8, m, hm, hq, hb⟩ | h7
    · exact absurd h7.1 hd
    · refine Or.inl ⟨h7, h8, m, hm, hq, fun h9 => ?_⟩
      have h10 := (h m hm).2.2.1.mp hb
      rw [h9] at h10
      rcases h10 with h10 | h10 | h10 <;> exact absurd h10 (by decide)
    · exact Or.inr h7
/-! the reference, beside X's solution s, x -/
def nh_YG (O : Nat → Prop) (Q : Nat → Nat → Prop) (N i : Nat) (st w rd : Nat → Int32) : Prop :=
  ∀ n, n < N → n < i → w n = 0 ∧ ((¬ nh_pd O Q N n ∧ nh_gs O Q N n (st n) ∧ ¬ rd n = 0) ∨ (nh_pd O Q N n ∧ rd n = 0))
theorem nh_YGs {O : Nat → Prop} {Q : Nat → Nat → Prop} {N i : Nat} {st w rd : Nat → Int32} {a b : Int32} (h : nh_YG O Q N i st w rd) (hx : (¬ nh_pd O Q N i ∧ nh_gs O Q N i a ∧ ¬ b = 0) ∨ (nh_pd O Q N i ∧ b = 0)) : nh_YG O Q N (i + 1) (upd st i a) (upd w i 0) (upd rd i b) := by
  intro n hn hi
  by_cases e : n = i
  · subst e
    rw [pk_us, pk_us, pk_us]
    exact ⟨rfl, hx⟩
  · rw [pk_un e, pk_un e, pk_un e]
    exact h n hn (by omega)
def nh_YS (O : Nat → Prop) (Q : Nat → Nat → Prop) (N r i : Nat) (s x st w rd : Nat → Int32) : Prop :=
  ∀ n, n < N → (¬ rd n = 0 → st n = s n ∧ w n = x n) ∧ (rd n = 0 → nh_pd O Q N n ∧ w n = 0) ∧ (nh_dn O Q N r n → ¬ rd n = 0) ∧ (n < i → nh_dn O Q N (r + 1) n → ¬ rd n = 0)
theorem nh_YS0 {O : Nat → Prop} {Q : Nat → Nat → Prop} {E : Nat → (Nat → Int32) → Int32 → Prop} {N : Nat} {s x st w rd : Nat → Int32} (hs : nh_sol O Q E N s x) (h : nh_YG O Q N N st w rd) : nh_YS O Q N 0 0 s x st w rd := by
  intro n hn
  have ⟨h1, h2⟩ := h n hn hn
  have ⟨s1, s2, s3, s4⟩ := hs n hn
  rcases h2 with ⟨hp, hg, hr⟩ | ⟨hp, hr⟩
  · refine ⟨fun _ => ?_, fun h => absurd h hr, fun _ => hr, fun h => absurd h (Nat.not_lt_zero n)⟩
    rcases hg with g | g | g | g
    · exact ⟨g.2.trans (s1 g.1).1.symm, h1.trans (s1 g.1).2.symm⟩
    · exact ⟨g.2.2.trans (s2 g.1 g.2.1).1.symm, h1.trans (s2 g.1 g.2.1).2.symm⟩
    · exact ⟨g.2.2.2.trans (s3 g.1 g.2.1 g.2.2.1).1.symm, h1.trans (s3 g.1 g.2.1 g.2.2.1).2.symm⟩
    · exact absurd g.1 hp
  · exact ⟨fun h => absurd hr h, fun _ => ⟨hp, h1⟩, fun h => absurd hp h, fun h => absurd h (Nat.not_lt_zero n)⟩
theorem nh_YSk {O : Nat → Prop} {Q : Nat → Nat → Prop} {N r i : Nat} {s x st w rd : Nat → Int32} (h : nh_YS O Q N r i s x st w rd) (hr : ¬ rd i = 0) : nh_YS O Q N r (i + 1) s x st w rd := by
  intro n hn
  have ⟨h1, h2, h3, h4⟩ := h n hn
  refine ⟨h1, h2, h3, fun h7 h8 => ?_⟩
  by_cases e : n = i
  · rw [e]; exact hr
  · exact h4 (by omega) h8
theorem nh_YSs {O : Nat → Prop} {Q : Nat → Nat → Prop} {N r i : Nat} {s x st w rd : Nat → Int32} (h : nh_YS O Q N r i s x st w rd) (hm : ∃ m, m < N ∧ Q i m ∧ rd m = 0) : nh_YS O Q N r (i + 1) s x st w rd := by
  intro n hn
  have ⟨h1, h2, h3, h4⟩ := h n hn
  refine ⟨h1, h2, h3, fun h7 h8 => ?_⟩
  by_cases e : n = i
  · subst e
    rcases h8 with h8 | h8
    · exact h3 h8
    · obtain ⟨m, hm, hq, hr⟩ := hm
      exact absurd hr ((h m hm).2.2.1 (h8 m hm hq))
  · exact h4 (by omega) h8
theorem nh_YSd {O : Nat → Prop} {Q : Nat → Nat → Prop} {N r i : Nat} {s x st w rd : Nat → Int32} {a b c : Int32} (h : nh_YS O Q N r i s x st w rd) (ha : a = s i) (hb : b = x i) (hc : ¬ c = 0) : nh_YS O Q N r (i + 1) s x (upd st i a) (upd w i b) (upd rd i c) := by
  intro n hn
  have ⟨h1, h2, h3, h4⟩ := h n hn
  by_cases e : n = i
  · subst e
    rw [pk_us, pk_us, pk_us]
    exact ⟨fun _ => ⟨ha, hb⟩, fun h => absurd h hc, fun _ => hc, fun _ _ => hc⟩
  · rw [pk_un e, pk_un e, pk_un e]
    exact ⟨h1, h2, h3, fun h7 h8 => h4 (by omega) h8⟩
theorem nh_YSo {O : Nat → Prop} {Q : Nat → Nat → Prop} {E : Nat → (Nat → Int32) → Int32 → Prop} {N r i : Nat} {s x st w rd : Nat → Int32} {v : Int32} (hE : ∀ n w w' x, E n w x → (∀ m, m < N → Q n m → w m = w' m) → E n w' x) (hE1 : ∀ n w x y, E n w x → E n w y → x = y)
    (hs : nh_sol O Q E N s x) (h : nh_YS O Q N r i s x st w rd) (hi : i < N) (hr : rd i = 0) (hm : ∀ m, m < N → Q i m → ¬ rd m = 0 ∧ st m = 1) (he : E i w v) : 1 = s i ∧ v = x i := by
  have hp := ((h i hi).2.1 hr).1
  rcases (hs i hi).2.2.2 hp with ⟨_, _, m, hm1, hq, h1⟩ | ⟨h1, h2, h3⟩
  · have ⟨h4, h5⟩ := hm m hm1 hq
    exact absurd (((h m hm1).1 h4).1.symm.trans h5) h1
  · refine ⟨h1.symm, hE1 i x v (x i) (hE i w x v he (fun m hm1 hq => ?_)) h3⟩
    exact ((h m hm1).1 (hm m hm1 hq).1).2
theorem nh_YSb {O : Nat → Prop} {Q : Nat → Nat → Prop} {E : Nat → (Nat → Int32) → Int32 → Prop} {N r i : Nat} {s x st w rd : Nat → Int32}
    (hs : nh_sol O Q E N s x) (h : nh_YS O Q N r i s x st w rd) (hi : i < N) (hr : rd i = 0) (hm : ∃ m, m < N ∧ Q i m ∧ ¬ rd m = 0 ∧ ¬ st m = 1) : 4 = s i ∧ w i = x i := by
  have ⟨hp, hw⟩ := (h i hi).2.1 hr
  rcases (hs i hi).2.2.2 hp with ⟨h1, h2, _⟩ | ⟨h1, h2, h3⟩
  · exact ⟨h1.symm, hw.trans h2.symm⟩
  · obtain ⟨m, hm1, hq, h4, h5⟩ := hm
    exact absurd (((h m hm1).1 h4).1.trans (h2 m hm1 hq)) h5
theorem nh_YSe {O : Nat → Prop} {Q : Nat → Nat → Prop} {N r : Nat} {s x st w rd : Nat → Int32} (h : nh_YS O Q N r N s x st w rd) : nh_YS O Q N (r + 1) 0 s x st w rd := by
  intro n hn
  have ⟨h1, h2, h3, h4⟩ := h n hn
  exact ⟨h1, h2, h4 hn, fun h7 => absurd h7 (Nat.not_lt_zero n)⟩
theorem nh_YSf {O : Nat → Prop} {Q : Nat → Nat → Prop} {N : Nat} {s x st w rd : Nat → Int32} (h : nh_YS O Q N (N + 1) 0 s x st w rd) : ∀ n, n < N → st n = s n ∧ w n = x n := by
  intro n hn
  have ⟨h1, h2, h3, h4⟩ := h n hn
  exact h1 (h3 (Or.inl (nh_dna hn)))
/-- two solutions are one -/
theorem nh_sol1 {O : Nat → Prop} {Q : Nat → Nat → Prop} {E : Nat → (Nat → Int32) → Int32 → Prop} {N : Nat} {s x s' x' : Nat → Int32} (hE : ∀ n w w' x, E n w x → (∀ m, m < N → Q n m → w m = w' m) → E n w' x) (hE1 : ∀ n w x y, E n w x → E n w y → x = y)
    (h : nh_sol O Q E N s x) (h' : nh_sol O Q E N s' x') : ∀ n, n < N → s n = s' n ∧ x n = x' n := by
  have key : ∀ n, n < N → ¬ nh_pd O Q N n → s n = s' n ∧ x n = x' n := by
    intro n hn hp
    have ⟨a1, a2, a3, a4⟩ := h n hn
    have ⟨b1, b2, b3, b4⟩ := h' n hn
    rcases Classical.em (O n) with ho | ho
    · rcases Classical.em (nh_rl O Q N n n) with hr | hr
      · exact ⟨(a2 ho hr).1.trans (b2 ho hr).1.symm, (a2 ho hr).2.trans (b2 ho hr).2.symm⟩
      · have hm : ∃ m, m < N ∧ Q n m ∧ ¬ O m := by
          rcases Classical.em (∃ m, m < N ∧ Q n m ∧ ¬ O m) with hm | hm
          · exact hm
          · refine absurd ⟨ho, hr, fun m h1 h2 => ?_⟩ hp
            rcases Classical.em (O m) with h3 | h3
            · exact h3
            · exact absurd ⟨m, h1, h2, h3⟩ hm
        exact ⟨(a3 ho hr hm).1.trans (b3 ho hr hm).1.symm, (a3 ho hr hm).2.trans (b3 ho hr hm).2.symm⟩
    · exact ⟨(a1 ho).1.trans (b1 ho).1.symm, (a1 ho).2.trans (b1 ho).2.symm⟩
  have step : ∀ r n, n < N → nh_dn O Q N r n → s n = s' n ∧ x n = x' n := by
    intro r
    induction r with
    | zero => exact fun n hn hd => key n hn hd
    | succ r ih =>
      intro n hn hd
      rcases hd with hd | hd
      · exact ih n hn hd
      · rcases Classical.em (nh_pd O Q N n) with hp | hp
        · rcases (h n hn).2.2.2 hp with ⟨a1, a2, m, hm, hq, a3⟩ | ⟨a1, a2, a3⟩
          · rcases (h' n hn).2.2.2 hp with ⟨b1, b2, _⟩ | ⟨b1, b2, b3⟩
            · exact ⟨a1.trans b1.symm, a2.trans b2.symm⟩
            · exact absurd ((ih m hm (hd m hm hq)).1.trans (b2 m hm hq)) a3
          · rcases (h' n hn).2.2.2 hp with ⟨b1, b2, m, hm, hq, b3⟩ | ⟨b1, b2, b3⟩
            · exact absurd ((ih m hm (hd m hm hq)).1.symm.trans (a2 m hm hq)) b3
            · refine ⟨a1.trans b1.symm, hE1 n x' _ _ (hE n x x' _ a3 (fun m hm hq => (ih m hm (hd m hm hq)).2)) b3⟩
        · exact key n hn hp
  exact fun n hn => step N n hn (nh_dna hn)
/-! changed names -/
def nh_ch (o s w o' s' w' : Nat → Int32) (n : Nat) : Int32 := if o n = o' n ∧ s n = s' n ∧ w n = w' n then 0 else 1
def nh_cc (c : Nat → Int32) : Nat → Nat
  | 0 => 0
  | n + 1 => if c n = 0 then nh_cc c n else nh_cc c n + 1
theorem nh_ccle (c : Nat → Int32) : ∀ n, nh_cc c n ≤ n := by
  intro n
  induction n with
  | zero => exact Nat.le_refl 0
  | succ n ih => rw [nh_cc]; split <;> omega
theorem nh_cce {c c' : Nat → Int32} : ∀ n, (∀ i, i < n → c i = c' i) → nh_cc c n = nh_cc c' n := by
  intro n
  induction n with
  | zero => intro _; rfl
  | succ n ih => intro h; rw [nh_cc, nh_cc, ih (fun i hi => h i (by omega)), h n (by omega)]
end
section
/-! 07: the relation; numbers of cells -/
theorem nh_c32 (u i : Nat) : nI u * 32 + nI i = nI (u * 32 + i) := by
  rw [show (32 : Int32) = nI 32 from by decide, pk_mul, nI_add]
theorem nh_c16 (u i : Nat) : nI u * 16 + nI i = nI (u * 16 + i) := by
  rw [show (16 : Int32) = nI 16 from by decide, pk_mul, nI_add]
theorem nh_e32 (u : Nat) : nI u * 32 = nI (u * 32) := by
  rw [show (32 : Int32) = nI 32 from by decide, pk_mul]
theorem nh_e16 (u : Nat) : nI u * 16 = nI (u * 16) := by
  rw [show (16 : Int32) = nI 16 from by decide, pk_mul]
theorem nh_vb0 : vp_nar .boolean 0 = 0 := by decide
theorem nh_vb1 : vp_nar .boolean 1 = 1 := by decide
theorem nh_ub (f : Nat → Int32) (k : Nat) (x y : Int32) : upd (upd f k x) k y = upd f k y := by
  funext j
  by_cases e : j = k
  · rw [e, pk_us, pk_us]
  · rw [pk_un e, pk_un e, pk_un e]
/-- the lengths as naturals -/
def nh_L (ln : Nat → Int32) : Nat → Nat := fun u => (ln u).toNatClampNeg
theorem nh_Ln {ln : Nat → Int32} {T : Nat} (hT : T ≤ 32) (h : ∀ u, ∃ l, l ≤ T ∧ ln u = nI l) (u : Nat) : ln u = nI (nh_L ln u) ∧ nh_L ln u ≤ T := by
  obtain ⟨l, h1, h2⟩ := h u
  have e : nh_L ln u = l := by unfold nh_L; rw [h2]; exact nI_clamp (by omega)
  rw [e]
  exact ⟨h2, h1⟩
/-- cells of kind NAME hold names -/
def nh_TV (N : Nat) (K V : Nat → Int32) : Prop := ∀ p, K p = 2 → ∃ m, m < N ∧ V p = nI m
theorem nh_TVu {N : Nat} {K V : Nat → Int32} {p : Nat} {k v : Int32} (h : nh_TV N K V) (hk : k = 2 → ∃ m, m < N ∧ v = nI m) : nh_TV N (upd K p k) (upd V p v) := by
  intro q hq
  by_cases e : q = p
  · rw [e, pk_us] at hq; rw [e, pk_us]; exact hk hq
  · rw [pk_un e] at hq; rw [pk_un e]; exact h q hq
def nh_Rel (U T N : Nat) (K V ln ue uu us : Nat → Int32) : Prop :=
  (2 ≤ U ∧ U ≤ 8) ∧ (8 ≤ T ∧ T ≤ 32) ∧ (4 ≤ N ∧ N ≤ 16) ∧ (∀ u, ∃ l, l ≤ T ∧ ln u = nI l) ∧ nh_TV N K V ∧ (∀ u m, u < U → m < N → us (u * 16 + m) = if bt (uu u) m = true then 1 else 0) ∧ (∀ u, u < U → ¬ ue u = -1 → uu u = 0)
end
section
/-! 08: X reads the units -/
def nh_E (K ln : Nat → Int32) (u : Nat) : Int32 := nh_er K (u * 32) (nh_L ln u) 0
def nh_C (K ln : Nat → Int32) (u : Nat) : Int32 := if nh_E K ln u = -1 then nI (nh_ct K (u * 32) (nh_L ln u)) else 0
def nh_ubits (K V ln : Nat → Int32) (u : Nat) (x : Int32) : Prop := ∀ m, m < 32 → (bt x m = true ↔ (nh_E K ln u = -1 ∧ nh_uu K V (u * 32) (nh_L ln u) m))
theorem nh_uself (f : Nat → Int32) (k : Nat) : upd f k (f k) = f := by
  funext j
  by_cases e : j = k
  · rw [e, pk_us]
  · rw [pk_un e]
theorem nx_in {post : Int32 → Prop} {k : Int32} {d : Nat} (hp : post (nI (nh_nx k 2 d))) : wpX_stateInOperand post k := by
  rw [nh_n2] at hp
  by_cases k1 : k = 1
  · rw [if_pos k1] at hp; subst k1; exact br_f (by decide) (br_f (by decide) (br_t rfl hp))
  rw [if_neg k1] at hp
  by_cases k2 : k = 2
  · rw [if_pos k2] at hp; subst k2; exact br_f (by decide) (br_f (by decide) (br_f (by decide) (br_t rfl hp)))
  rw [if_neg k2] at hp
  by_cases k4 : k = 4
  · rw [if_pos k4] at hp; subst k4; exact br_f (by decide) (br_f (by decide) (br_f (by decide) (br_f (by decide) (br_f (by decide) (br_t rfl hp)))))
  rw [if_neg k4] at hp
  by_cases k6 : k = 6
  · rw [if_pos k6] at hp; subst k6; exact br_f (by decide) (br_f (by decide) (br_f (by decide) (br_f (by decide) (br_f (by decide) (br_f (by decide) (br_f (by decide) (br_t rfl hp)))))))
  rw [if_neg k6] at hp
  have h4 : post 4 := hp
  exact br_c (fun _ => h4) (fun _ => br_c (fun _ => h4) (fun _ => br_f k1 (br_f k2 (br_c (fun _ => h4) (fun _ => br_f k4 (br_c (fun _ => h4) (fun _ => br_f k6 trivial)))))))
theorem nx_after {post : Int32 → Prop} {k : Int32} {d : Nat} (hd : d < 2 ^ 31) (hp : post (nI (nh_nx k 3 d))) : wpX_stateAfterOperand post k (nI d) := by
  rw [nh_n3] at hp
  by_cases k3 : k = 3
  · rw [if_pos k3] at hp; subst k3; exact br_f (by decide) (br_f (by decide) (br_t rfl hp))
  rw [if_neg k3] at hp
  by_cases k4 : k = 4
  · rw [if_pos k4] at hp; subst k4; exact br_f (by decide) (br_f (by decide) (br_f (by decide) (br_t rfl hp)))
  rw [if_neg k4] at hp
  by_cases k5 : k = 5
  · rw [if_pos k5] at hp; subst k5; exact br_f (by decide) (br_f (by decide) (br_f (by decide) (br_f (by decide) (br_t rfl hp))))
  rw [if_neg k5] at hp
  by_cases k7 : k = 7
  · rw [if_pos k7] at hp; subst k7
    refine br_f (by decide) (br_f (by decide) (br_f (by decide) (br_f (by decide) (br_f (by decide) (br_f (by decide) (br_t rfl ?_))))))
    by_cases hz : 0 < d
    · rw [if_pos hz] at hp; exact br_f (nI_nle hz hd) hp
    · rw [if_neg hz] at hp
      have e : d = 0 := by omega
      subst e
      exact br_t (by decide) hp
  rw [if_neg k7] at hp
  by_cases k9 : k = 9
  · rw [if_pos k9] at hp; subst k9
    refine br_f (by decide) (br_f (by decide) (br_f (by decide) (br_f (by decide) (br_f (by decide) (br_f (by decide) (br_f (by decide) (br_f (by decide) (br_t rfl ?_))))))))
    by_cases hz : d = 0
    · rw [if_pos hz] at hp; subst hz; exact br_t (by decide) hp
    · rw [if_neg hz] at hp; exact br_f (nI_ne0 (by omega) hd) hp
  rw [if_neg k9] at hp
  have h4 : post 4 := hp
  exact br_c (fun _ => h4) (fun _ => br_c (fun _ => h4) (fun _ => br_f k3 (br_f k4 (br_f k5 (br_c (fun _ => h4) (fun _ => br_f k7 (br_c (fun _ => h4) (fun _ => br_f k9 trivial))))))))
theorem nx_next {post : Int32 → Prop} {k : Int32} {st d : Nat} (hs : st ≤ 3) (hd : d < 2 ^ 31) (hp : post (nI (nh_nx k st d))) : wpX_nextState post (nI st) k (nI d) := by
  have hc : st = 0 ∨ st = 1 ∨ st = 2 ∨ st = 3 := by omega
  rcases hc with e | e | e | e
  · subst e
    rw [nh_n0] at hp
    refine br_f (by decide) (br_f (by decide) (br_t (by decide) ?_))
    by_cases k2 : k = 2
    · rw [if_pos k2] at hp; exact br_t k2 hp
    · rw [if_neg k2] at hp; exact br_f k2 hp
  · subst e
    rw [nh_n1] at hp
    refine br_f (by decide) (br_f (by decide) (br_f (by decide) (br_t (by decide) ?_)))
    by_cases k2 : k = 8
    · rw [if_pos k2] at hp; exact br_t k2 hp
    · rw [if_neg k2] at hp; exact br_f k2 hp
  · subst e
    exact br_f (by decide) (br_f (by decide) (br_f (by decide) (br_f (by decide) (br_t (by decide) (nx_in hp)))))
  · subst e
    exact br_f (by decide) (br_t (by decide) (nx_after hd hp))
theorem nh_Dle (K : Nat → Int32) (b : Nat) : ∀ i, nh_D K b i ≤ i := by
  intro i
  induction i with
  | zero => exact Nat.le_refl 0
  | succ i ih => rw [nh_D1, nh_dp]; split <;> (try split) <;> omega
theorem nh_D6 {K : Nat → Int32} {b i : Nat} (h : K (b + i) = 6) : nh_D K b (i + 1) = nh_D K b i + 1 := by rw [nh_D1, nh_dp, if_pos h]
theorem nh_D7 {K : Nat → Int32} {b i : Nat} (h : K (b + i) = 7) : nh_D K b (i + 1) = nh_D K b i - 1 := by rw [nh_D1, nh_dp, if_neg (by rw [h]; decide), if_pos h]
theorem nh_Dn {K : Nat → Int32} {b i : Nat} (h6 : ¬ K (b + i) = 6) (h7 : ¬ K (b + i) = 7) : nh_D K b (i + 1) = nh_D K b i := by rw [nh_D1, nh_dp, if_neg h6, if_neg h7]
/-- a closing parenthesis that is taken closes an open one -/
theorem nh_7pos {st d : Nat} (hs : st ≤ 3) (h : nh_nx 7 st d ≠ 4) : 0 < d := by
  have hc : st = 0 ∨ st = 1 ∨ st = 2 ∨ st = 3 := by omega
  rcases hc with e | e | e | e
  · subst e; exact absurd (nh_x0 h).1 (by decide)
  · subst e; exact absurd (nh_x1 h).1 (by decide)
  · subst e
    rcases nh_x2 h with ⟨h1, _⟩ | ⟨h1, _⟩
    · exact absurd h1 (by decide)
    · exact absurd h1 (by decide)
  · subst e
    rcases nh_x3 h with ⟨h1, _⟩ | h1 | ⟨h1, _⟩
    · exact absurd h1 (by decide)
    · exact h1.2.1
    · exact absurd h1 (by decide)
theorem nx_fe {U T N : Nat} {on ok fl dp tt pr : Int32} {K V ln ue dc uu ow st w ch no ns nr es nu re oT oP : Nat → Int32} {post : Int32 → Prop} {u L : Nat} (hu : u < 8) (hl : ln u = nI L) (hL : L ≤ 32) : ∀ (d i n : Nat), i + d = L → d < n → nh_S K (u * 32) i ≤ 3 → post (nh_er K (u * 32) d i) →
    wX_findError_7 post (nI u) (nI U) (nI T) (nI N) on ok fl dp tt pr K V ln ue dc uu ow st w ch no ns nr es nu re oT oP n (nI (nh_S K (u * 32) i)) (nI (nh_D K (u * 32) i)) (nI i) := by
  have hcu : (nI u).toNatClampNeg = u := nI_clamp (by omega)
  intro d
  induction d with
  | zero =>
    intro i n hi hn hs hp
    obtain ⟨m, rfl⟩ : ∃ m, n = m + 1 := ⟨n - 1, by omega⟩
    refine ⟨vp_in_nI hu (by decide), ?_⟩
    rw [hcu, hl]
    refine br_t (nI_le (by omega) (by omega)) ?_
    rw [nh_er] at hp
    by_cases e : nh_S K (u * 32) i = 0
    · rw [if_pos e] at hp
      rw [e]
      exact br_t (by decide) hp
    · rw [if_neg e] at hp
      refine br_f (nI_ne0 (by omega) (by omega)) ⟨vp_in_nI hu (by decide), ?_⟩
      rw [show L = i by omega]
      exact hp
  | succ d ih =>
    intro i n hi hn hs hp
    obtain ⟨m, rfl⟩ : ∃ m, n = m + 1 := ⟨n - 1, by omega⟩
    have hD := nh_Dle K (u * 32) i
    refine ⟨vp_in_nI hu (by decide), ?_⟩
    rw [hcu, hl]
    refine br_f (nI_ge (by omega) (by omega)) ?_
    rw [nh_c32, nI_clamp (n := u * 32 + i) (by omega)]
    refine ⟨vp_in_nI (by omega) (by decide), nm_e (nx_next hs (by omega) ?_)⟩
    rw [← nh_S1]
    rw [nh_er] at hp
    by_cases h4 : nh_S K (u * 32) (i + 1) = 4
    · rw [if_pos h4] at hp
      rw [h4]
      exact br_t (by decide) hp
    · rw [if_neg h4] at hp
      have hS1 : nh_S K (u * 32) (i + 1) ≤ 3 := by
        have := nh_xle (K (u * 32 + i)) (nh_S K (u * 32) i) (nh_D K (u * 32) i)
        rw [← nh_S1] at this
        omega
      have hnext := ih (i + 1) m (by omega) (by omega) hS1 hp
      refine br_f (fun e => h4 (nh_im (b := 4) e (by omega) (by decide))) ?_
      by_cases h6 : K (u * 32 + i) = 6
      · refine br_t h6 (nm_r ?_ (nm_r (nI_1 i) hnext))
        rw [nh_D6 h6]; exact nI_1 _
      · refine br_f h6 ?_
        by_cases h7 : K (u * 32 + i) = 7
        · refine br_t h7 (nm_r ?_ (nm_r (nI_1 i) hnext))
          have hpos : 0 < nh_D K (u * 32) i := by
            rw [nh_S1, h7] at h4
            exact nh_7pos hs h4
          rw [nh_D7 h7]
          obtain ⟨q, hq⟩ : ∃ q, nh_D K (u * 32) i = q + 1 := ⟨nh_D K (u * 32) i - 1, by omega⟩
          rw [hq]
          exact pk_m1 q
        · refine br_f h7 (nm_r (nI_1 i) ?_)
          rw [nh_Dn h6 h7] at hnext
          exact hnext
theorem nx_findError {U T N : Nat} {on ok fl dp tt pr : Int32} {K V ln ue dc uu ow st w ch no ns nr es nu re oT oP : Nat → Int32} {post : Int32 → Prop} {u : Nat} (hu : u < 8) (hT : T ≤ 32) (hln : ∀ u, ∃ l, l ≤ T ∧ ln u = nI l) (hp : post (nh_E K ln u)) : wpX_findError post (nI U, nI T, nI N, on, ok, fl, dp, tt, pr, K, V, ln, ue, dc, uu, ow, st, w, ch, no, ns, nr, es, nu, re, oT, oP) (nI u) := by
  have ⟨h1, h2⟩ := nh_Ln hT hln u
  exact ⟨nh_L ln u + 1, nx_fe hu h1 (by omega) (nh_L ln u) 0 _ (by omega) (by omega) (by rw [nh_S0]; decide) hp⟩
theorem nx_claim {U T N : Nat} {on ok fl dp tt pr : Int32} {K V ln ue dc uu ow st w ch no ns nr es nu re oT oP : Nat → Int32} {post : Int32 → SX → Prop} {m u i : Nat} (hm : m < 16)
    (h1 : no m = -1 → post (nI m) (nI U, nI T, nI N, on ||| ((1 : Int32) <<< (nI m &&& 31)), ok, fl, dp, tt, pr, K, V, ln, ue, dc, uu, ow, st, w, ch, upd no m (nI u), ns, nr, upd es m (nI (i + 2)), nu, re, oT, oP)) (h2 : ¬ no m = -1 → post (-1) (nI U, nI T, nI N, on, ok, fl, dp, tt, pr, K, V, ln, ue, dc, uu, ow, st, w, ch, no, ns, nr, es, nu, re, oT, oP)) : wpX_claimName post (nI U, nI T, nI N, on, ok, fl, dp, tt, pr, K, V, ln, ue, dc, uu, ow, st, w, ch, no, ns, nr, es, nu, re, oT, oP) (nI m) (nI u) (nI i) := by
  have hcm : (nI m).toNatClampNeg = m := nI_clamp (by omega)
  have hi := vp_in_nI hm (by decide)
  refine ⟨hi, ?_⟩
  rw [hcm]
  exact br_c (fun h => ⟨hi, nm_e ⟨hi, nm_r (congrArg (upd es m) (nI_add i 2)) (nm_e (h1 h))⟩⟩) h2
theorem nx_note0 {U T N : Nat} {on ok fl dp tt pr : Int32} {K V ln ue dc uu ow st w ch no ns nr es nu re oT oP : Nat → Int32} {post : SX → Prop} {m u : Nat} (hu : u < 8) (h1 : post (nI U, nI T, nI N, on, ok, fl, dp, tt, pr, K, V, ln, ue, dc, upd uu u (uu u ||| ((1 : Int32) <<< (nI m &&& 31))), ow, st, w, ch, no, ns, nr, es, nu, re, oT, oP)) : wpX_noteUse post (nI U, nI T, nI N, on, ok, fl, dp, tt, pr, K, V, ln, ue, dc, uu, ow, st, w, ch, no, ns, nr, es, nu, re, oT, oP) (nI u) (-1) (nI m) := by
  have hcu : (nI u).toNatClampNeg = u := nI_clamp (by omega)
  have hi := vp_in_nI hu (by decide)
  refine ⟨hi, hi, ?_⟩
  rw [hcu]
  exact nm_e (br_t rfl h1)
theorem nx_note1 {U T N : Nat} {on ok fl dp tt pr : Int32} {K V ln ue dc uu ow st w ch no ns nr es nu re oT oP : Nat → Int32} {post : SX → Prop} {m u n : Nat} (hu : u < 8) (hn : n < 16) (h1 : post (nI U, nI T, nI N, on, ok, fl, dp, tt, pr, K, V, ln, ue, dc, upd uu u (uu u ||| ((1 : Int32) <<< (nI m &&& 31))), ow, st, w, ch, no, ns, nr, es, upd nu n (nu n ||| ((1 : Int32) <<< (nI m &&& 31))), re, oT, oP)) : wpX_noteUse post (nI U, nI T, nI N, on, ok, fl, dp, tt, pr, K, V, ln, ue, dc, uu, ow, st, w, ch, no, ns, nr, es, nu, re, oT, oP) (nI u) (nI n) (nI m) := by
  have hcu : (nI u).toNatClampNeg = u := nI_clamp (by omega)
  have hcn : (nI n).toNatClampNeg = n := nI_clamp (by omega)
  have hi := vp_in_nI hu (by decide)
  have hj := vp_in_nI hn (by decide)
  refine ⟨hi, hi, ?_⟩
  rw [hcu]
  refine nm_e (br_f (nh_ne1 (by omega)) ⟨hj, hj, ?_⟩)
  rw [hcn]
  exact nm_e h1
theorem nx_rd {U T N : Nat} {ok fl dp tt pr : Int32} {K V ln ue ow st w ch ns nr re oT oP : Nat → Int32} {post : SX → Prop} {u L : Nat} (hU : U ≤ 8) (hN : N ≤ 16) (hu : u < U) (hl : nh_L ln u = L) (hl2 : ln u = nI L) (hL : L ≤ 32) (hTV : nh_TV N K V) (hok : nh_ok K (u * 32) L) :
    ∀ (d i n : Nat) (x2 x3 on : Int32) (dc uu no es nu : Nat → Int32), i + d = L → d < n → (x2 = 0 ↔ ¬ nh_S K (u * 32) i = 0) → (¬ nh_S K (u * 32) i = 0 → nh_cur K V (nh_L ln) U N u i x3) → nh_XI K V (nh_L ln) U N u i no es nu on →
    dc u = nI (nh_ct K (u * 32) i) → (∀ m, m < 32 → (bt (uu u) m = true ↔ nh_uu K V (u * 32) i m)) →
    (∀ on' x no' es' nu', (∀ m, m < 32 → (bt x m = true ↔ nh_uu K V (u * 32) L m)) → nh_XI K V (nh_L ln) U N u L no' es' nu' on' → post (nI U, nI T, nI N, on', ok, fl, dp, tt, pr, K, V, ln, ue, upd dc u (nI (nh_ct K (u * 32) L)), upd uu u x, ow, st, w, ch, no', ns, nr, es', nu', re, oT, oP)) →
    wX_readDefs_7 post (nI u) n x2 x3 (nI i) (nI U) (nI T) (nI N) on ok fl dp tt pr K V ln ue dc uu ow st w ch no ns nr es nu re oT oP := by
  have hcu : (nI u).toNatClampNeg = u := nI_clamp (by omega)
  have h8 : vp_in (nI u) 8 := vp_in_nI (by omega) (by decide)
  intro d
  induction d with
  | zero =>
    intro i n x2 x3 on dc uu no es nu hi hn hx2 hx3 hX hdc huu hp
    obtain ⟨m, rfl⟩ : ∃ m, n = m + 1 := ⟨n - 1, by omega⟩
    have e : i = L := by omega
    subst e
    refine ⟨h8, ?_⟩
    rw [hcu, hl2]
    refine br_t (nI_le (Nat.le_refl _) (by omega)) ?_
    have h1 := hp on (uu u) no es nu huu hX
    rw [← hdc, nh_uself, nh_uself] at h1
    exact h1
  | succ d ih =>
    intro i n x2 x3 on dc uu no es nu hi hn hx2 hx3 hX hdc huu hp
    obtain ⟨m, rfl⟩ : ∃ m, n = m + 1 := ⟨n - 1, by omega⟩
    have hp256 : u * 32 + i < 256 := by omega
    have hiL : i < nh_L ln u := by omega
    refine ⟨h8, ?_⟩
    rw [hcu, hl2]
    refine br_f (nI_ge (by omega) (by omega)) ?_
    rw [nh_c32, nI_clamp (n := u * 32 + i) (by omega)]
    refine ⟨vp_in_nI hp256 (by decide), nm_e ⟨vp_in_nI hp256 (by decide), nm_e ?_⟩⟩
    by_cases h9 : K (u * 32 + i) = 9
    · -- a semicolon
      have ⟨hS, hS1⟩ := nh_nine hok (by omega) h9
      have hns : ¬ nh_S K (u * 32) i = 0 := by omega
      refine br_t h9 ⟨h8, h8, nm_e (nm_r (nI_1 i) ?_)⟩
      refine ih (i + 1) m 1 x3 on _ uu no es nu (by omega) (by omega) ⟨fun h => absurd h (by decide), fun h => absurd hS1 h⟩ (fun h => absurd hS1 h)
        (nh_XIa hX (fun n _ hd => absurd hd.2.2.1 hns) (fun s n q _ _ hu => by have h2 := hu.2.2.2.1; rw [h9] at h2; exact absurd h2 (by decide))) ?_ (fun q hq => ?_) (fun on' x no' es' nu' h1 h2 => ?_)
      · rw [pk_us, hdc, nI_1, nh_ct, if_pos h9]
      · rw [huu q hq, nh_uun (fun h => by rw [h9] at h; exact absurd h.2 (by decide))]
      · rw [nh_ub]; exact hp on' x no' es' nu' h1 h2
    · refine br_f h9 ?_
      have hct : nh_ct K (u * 32) (i + 1) = nh_ct K (u * 32) i := by rw [nh_ct, if_neg h9]
      have hS1 : ¬ nh_S K (u * 32) (i + 1) = 0 := nh_n9 h9
      by_cases h2 : K (u * 32 + i) = 2
      · obtain ⟨v, hv, hV⟩ := hTV _ h2
        refine br_t h2 ?_
        by_cases h0 : nh_S K (u * 32) i = 0
        · -- a definition begins
          refine br_f (fun e => hx2.mp e h0) ?_
          have hdf : nh_df K V (nh_L ln) u i v := ⟨by rw [hl]; exact hok, hiL, h0, hV⟩
          rw [hV]
          refine nx_claim (by omega) (fun hno => ?_) (fun hno => ?_)
          · have ⟨hf, hX1⟩ := nh_XIc hX hU hN hu hv hdf hno
            refine nm_r (nI_1 i) (ih (i + 1) m 0 (nI v) _ dc uu _ _ nu (by omega) (by omega) ⟨fun _ => hS1, fun _ => rfl⟩ (fun _ => ⟨i, v, by omega, hv, hdf, fun t h1 h2 => by omega, Or.inl ⟨hf, rfl⟩⟩) hX1 ?_ (fun q hq => ?_) hp)
            · rw [hct]; exact hdc
            · rw [huu q hq, nh_uun (fun h => h.1 h0)]
          · have hnf : ¬ nh_fs K V (nh_L ln) U v u i := fun hf => by
              rcases hX v hv with ⟨h3, _⟩ | ⟨u', i', hb, hf2, _⟩
              · exact hno h3
              · exact hf.2.2 u' i' hf2.2.1 hb
            refine nm_r (nI_1 i) (ih (i + 1) m 0 (-1) on dc uu no es nu (by omega) (by omega) ⟨fun _ => hS1, fun _ => rfl⟩ (fun _ => ⟨i, v, by omega, hv, hdf, fun t h1 h2 => by omega, Or.inr ⟨hnf, rfl⟩⟩) ?_ ?_ (fun q hq => ?_) hp)
            · refine nh_XIa hX (fun n hn hd => ?_) (fun s n q _ hf hu => nh_us0 hf.2.1 h0 hu)
              have e1 : n = v := nh_im (by rw [← hd.2.2.2, hV]) (by omega) (by omega)
              rw [e1]; exact hno
            · rw [hct]; exact hdc
            · rw [huu q hq, nh_uun (fun h => h.1 h0)]
        · -- a use
          refine br_t (hx2.mpr h0) (br_t h2 ?_)
          obtain ⟨s, n0, hs, hn0, hd0, hrun, hcase⟩ := hx3 h0
          have hbits : ∀ q, q < 32 → (bt (upd uu u (uu u ||| ((1 : Int32) <<< (nI v &&& 31))) u) q = true ↔ nh_uu K V (u * 32) (i + 1) q) := by
            intro q hq
            rw [pk_us, nh_or1 (by omega) hq, huu q hq, nh_uus]
            refine ⟨fun h => h.elim Or.inl (fun h => Or.inr ⟨h0, h2, by rw [hV, h]⟩), fun h => h.elim Or.inl (fun h => Or.inr (nh_im (by rw [← h.2.2, hV]) (by omega) (by omega)))⟩
          rw [hV]
          rcases hcase with ⟨hf, hx⟩ | ⟨hnf, hx⟩
          · rw [hx]
            refine nx_note1 (by omega) (by omega) (nm_r (nI_1 i) (ih (i + 1) m x2 (nI n0) on dc _ no es _ (by omega) (by omega) ⟨fun _ => hS1, fun _ => hx2.mpr h0⟩ (fun _ => ?_) (nh_XIu hX hN hiL hs hn0 hf hrun h0 h2 hV hv) ?_ hbits (fun on' x no' es' nu' h1 h2 => ?_)))
            · rw [← hx]; exact nh_cur1 (hx3 h0) h9
            · rw [hct]; exact hdc
            · rw [nh_ub]; exact hp on' x no' es' nu' h1 h2
          · rw [hx]
            refine nx_note0 (by omega) (nm_r (nI_1 i) (ih (i + 1) m x2 (-1) on dc _ no es nu (by omega) (by omega) ⟨fun _ => hS1, fun _ => hx2.mpr h0⟩ (fun _ => ?_) (nh_XIn hX hN hs hn0 hd0 hrun hnf h0) ?_ hbits (fun on' x no' es' nu' h1 h2 => ?_)))
            · rw [← hx]; exact nh_cur1 (hx3 h0) h9
            · rw [hct]; exact hdc
            · rw [nh_ub]; exact hp on' x no' es' nu' h1 h2
      · -- another token
        have h0 : ¬ nh_S K (u * 32) i = 0 := fun h0 => h2 (nh_st0 hok (by omega) h0).1
        refine br_f h2 (br_f h2 (nm_r (nI_1 i) (ih (i + 1) m x2 x3 on dc uu no es nu (by omega) (by omega) ⟨fun _ => hS1, fun _ => hx2.mpr h0⟩ (fun _ => nh_cur1 (hx3 h0) h9) ?_ ?_ (fun q hq => ?_) hp)))
        · exact nh_XIa hX (fun n _ hd => absurd hd.2.2.1 h0) (fun s n q _ _ hu => h2 hu.2.2.2.1)
        · rw [hct]; exact hdc
        · rw [huu q hq, nh_uun (fun h => h2 h.2)]
theorem nx_readDefs {U T N : Nat} {on ok fl dp tt pr : Int32} {K V ln ue dc uu ow st w ch no ns nr es nu re oT oP : Nat → Int32} {post : SX → Prop} {u : Nat} (hU : U ≤ 8) (hN : N ≤ 16) (hT : T ≤ 32) (hu : u < U) (hln : ∀ u, ∃ l, l ≤ T ∧ ln u = nI l) (hTV : nh_TV N K V) (hE : nh_E K ln u = -1) (hX : nh_XI K V (nh_L ln) U N u 0 no es nu on) (hdc : dc u = 0) (huu : uu u = 0)
    (hp : ∀ on' x no' es' nu', nh_ubits K V ln u x → nh_XI K V (nh_L ln) U N (u + 1) 0 no' es' nu' on' → post (nI U, nI T, nI N, on', ok, fl, dp, tt, pr, K, V, ln, ue, upd dc u (nh_C K ln u), upd uu u x, ow, st, w, ch, no', ns, nr, es', nu', re, oT, oP)) : wpX_readDefs post (nI U, nI T, nI N, on, ok, fl, dp, tt, pr, K, V, ln, ue, dc, uu, ow, st, w, ch, no, ns, nr, es, nu, re, oT, oP) (nI u) := by
  have ⟨h1, h2⟩ := nh_Ln hT hln u
  have hok : nh_ok K (u * 32) (nh_L ln u) := nh_ok_of (by omega) hE
  refine ⟨nh_L ln u + 1, nx_rd hU hN hu rfl h1 (by omega) hTV hok (nh_L ln u) 0 _ 1 (-1) on dc uu no es nu (by omega) (by omega) ⟨fun h => absurd h (by decide), fun h => absurd (nh_S0 _ _) h⟩ (fun h => absurd (nh_S0 _ _) h) hX ?_ (fun q hq => ?_) (fun on' x no' es' nu' h3 h4 => ?_)⟩
  · rw [hdc]; exact nI_0.symm
  · rw [huu, b_0]; exact ⟨fun h => absurd h (by decide), fun h => absurd h nh_uu0⟩
  · have h5 := hp on' x no' es' nu' (fun q hq => by rw [h3 q hq]; exact ⟨fun h => ⟨hE, h⟩, fun h => h.2⟩) (nh_XIe h4)
    rw [nh_C, if_pos hE] at h5
    exact h5
theorem nx_readUnit {U T N : Nat} {on ok fl dp tt pr : Int32} {K V ln ue dc uu ow st w ch no ns nr es nu re oT oP : Nat → Int32} {post : SX → Prop} {u : Nat} (hU : U ≤ 8) (hN : N ≤ 16) (hT : T ≤ 32) (hu : u < U) (hln : ∀ u, ∃ l, l ≤ T ∧ ln u = nI l) (hTV : nh_TV N K V) (hX : nh_XI K V (nh_L ln) U N u 0 no es nu on)
    (hp : ∀ on' x no' es' nu', nh_ubits K V ln u x → nh_XI K V (nh_L ln) U N (u + 1) 0 no' es' nu' on' → post (nI U, nI T, nI N, on', ok, fl, dp, tt, pr, K, V, ln, upd ue u (nh_E K ln u), upd dc u (nh_C K ln u), upd uu u x, ow, st, w, ch, no', ns, nr, es', nu', re, oT, oP)) : wpX_readUnit post (nI U, nI T, nI N, on, ok, fl, dp, tt, pr, K, V, ln, ue, dc, uu, ow, st, w, ch, no, ns, nr, es, nu, re, oT, oP) (nI u) := by
  have hcu : (nI u).toNatClampNeg = u := nI_clamp (by omega)
  have h8 : vp_in (nI u) 8 := vp_in_nI (by omega) (by decide)
  unfold wpX_readUnit
  refine nx_findError (by omega) hT hln ?_
  rw [hcu]
  refine ⟨h8, nm_e ⟨h8, nm_e ⟨h8, nm_e ⟨h8, ?_⟩⟩⟩⟩
  rw [pk_us]
  by_cases hE : nh_E K ln u = -1
  · refine br_t hE (nx_readDefs hU hN hT hu hln hTV hE hX pk_us pk_us (fun on' x no' es' nu' h1 h2 => ?_))
    rw [nh_ub, nh_ub]
    exact hp on' x no' es' nu' h1 h2
  · refine br_f hE ?_
    have h5 := hp on 0 no es nu (fun q hq => by rw [b_0]; exact ⟨fun h => absurd h (by decide), fun h => absurd h.1 hE⟩) (nh_XIb hX (fun hk => hE (nh_ok_er hk)))
    rw [nh_C, if_neg hE] at h5
    exact h5
theorem nx_forget {U T N : Nat} {on ok fl dp tt pr : Int32} {K V ln ue dc uu ow st w ch no ns nr es nu re oT oP : Nat → Int32} {post : SX → Prop} (hN : N ≤ 16) (hp : ∀ no' nu', (∀ n, n < N → no' n = -1 ∧ nu' n = 0) → post (nI U, nI T, nI N, 0, 0, 0, dp, tt, pr, K, V, ln, ue, dc, uu, ow, st, w, ch, no', ns, nr, es, nu', re, oT, oP)) : wpX_forgetDefinitions post (nI U, nI T, nI N, on, ok, fl, dp, tt, pr, K, V, ln, ue, dc, uu, ow, st, w, ch, no, ns, nr, es, nu, re, oT, oP) := by
  refine loop_0 (σ := (Nat → Int32) × (Nat → Int32)) (fun n i s => wX_forgetDefinitions_2 post (nI U) (nI T) (nI N) on ok fl dp tt pr n (nI i) K V ln ue dc uu ow st w ch s.1 ns nr es s.2 re oT oP) (fun i s => ∀ n, n < i → s.1 n = -1 ∧ s.2 n = 0) N (no, nu) (fun n h => absurd h (Nat.not_lt_zero n)) (fun n s h => ?_) (fun n i s hi h hs => ?_)
  · exact br_t (nI_le (Nat.le_refl N) (by omega)) (hp s.1 s.2 h)
  · have h16 : vp_in (nI i) 16 := vp_in_nI (by omega) (by decide)
    refine br_f (nI_ge hi (by omega)) ?_
    rw [nI_clamp (n := i) (by omega)]
    refine ⟨h16, nm_e ⟨h16, nm_e (nm_r (nI_1 i) (hs (upd s.1 i (-1), upd s.2 i 0) (fun n hn => ?_)))⟩⟩
    show upd s.1 i (-1) n = -1 ∧ upd s.2 i 0 n = 0
    by_cases e : n = i
    · rw [e, pk_us, pk_us]; exact ⟨rfl, rfl⟩
    · rw [pk_un e, pk_un e]; exact h n (by omega)
end
section
/-! 09: X's closure and what it decides from the graph -/
theorem nx_has {post : Int32 → Prop} {x : Int32} {n : Nat} (hn : n < 32) (h1 : bt x n = true → post 1) (h0 : bt x n = false → post 0) : wpX_contains post x (nI n) :=
  br_c (fun h => h0 ((nh_has hn).mp h)) (fun h => h1 (nh_bf0 (fun h2 => h ((nh_has hn).mpr h2))))
theorem nh_uqN {K V : Nat → Int32} {Ln : Nat → Nat} {U N n m : Nat} (hTV : nh_TV N K V) (hN : N ≤ 16) (hm : m < 32) (h : nh_uq K V Ln U n m) : m < N := by
  obtain ⟨u, s, j, _, hu⟩ := h
  obtain ⟨q, hq, hv⟩ := hTV _ hu.2.2.2.1
  have e : m = q := nh_im (by rw [← hu.2.2.2.2, hv]) (by omega) (by omega)
  omega
theorem nx_fr45 {U T N : Nat} {on ok fl dp tt pr : Int32} {K V ln ue dc uu ow st w ch no ns nr es nu oT oP : Nat → Int32} {post : SX → Prop} {J : Int32 → (Nat → Int32) → (Nat → Int32) → (Nat → Int32) → (Nat → Int32) → (Nat → Int32) → (Nat → Int32) → (Nat → Int32) → (Nat → Int32) → (Nat → Int32) → (Nat → Int32) → (Nat → Int32) → (Nat → Int32) → (Nat → Int32) → (Nat → Int32) → (Nat → Int32) → (Nat → Int32) → (Nat → Int32) → (Nat → Int32) → Prop}
    {O : Nat → Prop} {Q : Nat → Nat → Prop} {k : Nat} {re : Nat → Int32} (hN : N ≤ 16) (hk : k < N) (hR : nh_RR O Q N k re) (hJ : ∀ re', nh_RR O Q N (k + 1) re' → J (nI (k + 1)) K V ln ue dc uu ow st w ch no ns nr es nu re' oT oP) :
    ∃ n, wX_findReachedNames_45 post J (nI k) (nI U) (nI T) (nI N) on ok fl dp tt pr n 0 K V ln ue dc uu ow st w ch no ns nr es nu re oT oP := by
  refine loop_0 (σ := Nat → Int32) (fun n i s => wX_findReachedNames_45 post J (nI k) (nI U) (nI T) (nI N) on ok fl dp tt pr n (nI i) K V ln ue dc uu ow st w ch no ns nr es nu s oT oP) (fun i s => nh_RI O Q N k i s) N re (nh_RI0 hR) (fun n s h => ?_) (fun n i s hi h hs => ?_)
  · exact br_t (nI_le (Nat.le_refl N) (by omega)) (nm_r (nI_1 k) (hJ s (nh_RIe h)))
  · have h16 : vp_in (nI i) 16 := vp_in_nI (by omega) (by decide)
    have hk16 : vp_in (nI k) 16 := vp_in_nI (by omega) (by decide)
    refine br_f (nI_ge hi (by omega)) ⟨h16, ?_⟩
    rw [nI_clamp (n := i) (by omega)]
    refine nx_has (by omega) (fun hb => ?_) (fun hb => ?_)
    · refine br_f (by decide) ⟨h16, hk16, h16, ?_⟩
      rw [nI_clamp (n := k) (by omega)]
      exact nm_e (nm_r (nI_1 i) (hs _ (nh_RIt h hk hi hb)))
    · exact br_t rfl (nm_r (nI_1 i) (hs _ (nh_RIf h hk hi hb)))
theorem nx_fr35 {U T N : Nat} {on ok fl dp tt pr : Int32} {K V ln ue dc uu ow st w ch no ns nr es nu re oT oP : Nat → Int32} {post : SX → Prop} {O : Nat → Prop} {Q : Nat → Nat → Prop} (hN : N ≤ 16) (hR : nh_RR O Q N 0 re) (hp : ∀ re', nh_RR O Q N N re' → post (nI U, nI T, nI N, on, ok, fl, dp, tt, pr, K, V, ln, ue, dc, uu, ow, st, w, ch, no, ns, nr, es, nu, re', oT, oP)) :
    ∃ n, wX_findReachedNames_35 post (nI U) (nI T) (nI N) on ok fl dp tt pr n 0 K V ln ue dc uu ow st w ch no ns nr es nu re oT oP := by
  refine loop_0 (σ := Nat → Int32) (fun n i s => wX_findReachedNames_35 post (nI U) (nI T) (nI N) on ok fl dp tt pr n (nI i) K V ln ue dc uu ow st w ch no ns nr es nu s oT oP) (fun i s => nh_RR O Q N i s) N re hR (fun n s h => ?_) (fun n i s hi h hs => ?_)
  · exact br_t (nI_le (Nat.le_refl N) (by omega)) (hp s h)
  · exact br_f (nI_ge hi (by omega)) (nx_fr45 hN hi h (fun re' h' => hs re' h'))
theorem nx_reach {U T N : Nat} {on ok fl dp tt pr : Int32} {K V ln ue dc uu ow st w ch no ns nr es nu re oT oP : Nat → Int32} {post : SX → Prop} (hN : N ≤ 16) (hX : nh_XF K V (nh_L ln) U N no es nu on) (hp : ∀ re', nh_RR (nh_ow K V (nh_L ln) U) (nh_uq K V (nh_L ln) U) N N re' → post (nI U, nI T, nI N, on, ok, fl, dp, tt, pr, K, V, ln, ue, dc, uu, ow, st, w, ch, no, ns, nr, es, nu, re', oT, oP)) : wpX_findReachedNames post (nI U, nI T, nI N, on, ok, fl, dp, tt, pr, K, V, ln, ue, dc, uu, ow, st, w, ch, no, ns, nr, es, nu, re, oT, oP) := by
  refine loop_0 (σ := Nat → Int32) (fun n i s => wX_findReachedNames_2 post (nI U) (nI T) (nI N) on ok fl dp tt pr n (nI i) K V ln ue dc uu ow st w ch no ns nr es nu s oT oP) (fun i s => ∀ n, n < i → s n = (nu n &&& on)) N re (fun n h => absurd h (Nat.not_lt_zero n)) (fun n s h => ?_) (fun n i s hi h hs => ?_)
  · refine br_t (nI_le (Nat.le_refl N) (by omega)) (nx_fr35 hN (fun a c ha hc => ?_) hp)
    rw [h a ha, b_and, Bool.and_eq_true, (hX a ha).2.1 c (by omega), (hX c hc).1]
    exact ⟨fun h => ⟨h.1, (let ⟨u, s, _, hf, _⟩ := h.1; ⟨u, s, hf⟩), h.2⟩, fun h => ⟨h.1, h.2.2⟩⟩
  · have h16 : vp_in (nI i) 16 := vp_in_nI (by omega) (by decide)
    refine br_f (nI_ge hi (by omega)) ⟨h16, h16, ?_⟩
    rw [nI_clamp (n := i) (by omega)]
    refine nm_e (nm_r (nI_1 i) (hs _ (fun n hn => ?_)))
    by_cases e : n = i
    · rw [e, pk_us]
    · rw [pk_un e]; exact h n (by omega)
theorem nx_fail {U T N : Nat} {on ok fl dp tt pr : Int32} {K V ln ue dc uu ow st w ch no ns nr es nu re oT oP : Nat → Int32} {post : SX → Prop} {n : Nat} {s : Int32} (hn : n < 16) (hp : post (nI U, nI T, nI N, on, ok, fl ||| ((1 : Int32) <<< (nI n &&& 31)), dp, tt, pr, K, V, ln, ue, dc, uu, ow, st, w, ch, no, upd ns n s, nr, es, nu, re, oT, oP)) : wpX_fail post (nI U, nI T, nI N, on, ok, fl, dp, tt, pr, K, V, ln, ue, dc, uu, ow, st, w, ch, no, ns, nr, es, nu, re, oT, oP) (nI n) s := by
  have hcn : (nI n).toNatClampNeg = n := nI_clamp (by omega)
  refine ⟨vp_in_nI hn (by decide), ?_⟩
  rw [hcn]
  exact nm_e (nm_e hp)
theorem nx_graph {U T N : Nat} {on ok fl dp tt pr : Int32} {K V ln ue dc uu ow st w ch no ns nr es nu re oT oP : Nat → Int32} {post : SX → Prop} {i : Nat} (hN : N ≤ 16) (hTV : nh_TV N K V) (hX : nh_XF K V (nh_L ln) U N no es nu on) (hR : nh_RR (nh_ow K V (nh_L ln) U) (nh_uq K V (nh_L ln) U) N N re) (hi : i < N)
    (hG : nh_XG (nh_ow K V (nh_L ln) U) (nh_uq K V (nh_L ln) U) N i ns nr fl) (hp : ∀ ns' nr' fl', nh_XG (nh_ow K V (nh_L ln) U) (nh_uq K V (nh_L ln) U) N (i + 1) ns' nr' fl' → post (nI U, nI T, nI N, on, ok, fl', dp, tt, pr, K, V, ln, ue, dc, uu, ow, st, w, ch, no, ns', nr', es, nu, re, oT, oP)) : wpX_decideFromGraph post (nI U, nI T, nI N, on, ok, fl, dp, tt, pr, K, V, ln, ue, dc, uu, ow, st, w, ch, no, ns, nr, es, nu, re, oT, oP) (nI i) := by
  have hci : (nI i).toNatClampNeg = i := nI_clamp (by omega)
  have h16 : vp_in (nI i) 16 := vp_in_nI (by omega) (by decide)
  refine ⟨h16, ?_⟩
  rw [hci]
  refine nm_e (nx_has (by omega) (fun ho => ?_) (fun ho => ?_))
  · have hO := (hX i hi).1.mp ho
    refine br_f (by decide) ⟨h16, nx_has (by omega) (fun hr => ?_) (fun hr => ?_)⟩
    · have hr1 := (hR i i hi hi).mp hr
      exact br_f (by decide) (nx_fail (by omega) (hp _ _ _ (nh_XGf hG hN hi (Or.inr (Or.inl ⟨hO, hr1, rfl⟩)) (Or.inr rfl))))
    · have hr1 : ¬ nh_rl (nh_ow K V (nh_L ln) U) (nh_uq K V (nh_L ln) U) N i i := fun h => by rw [(hR i i hi hi).mpr h] at hr; exact absurd hr (by decide)
      refine br_t rfl ⟨h16, br_c (fun h => ?_) (fun h => ?_)⟩
      · have h1 := nh_anz.mp h
        refine ⟨h16, nm_e (hp _ _ _ (nh_XGs hG (Or.inr (Or.inr (Or.inr ⟨⟨hO, hr1, fun m hm hq => ?_⟩, rfl⟩))) (by decide) (by decide)))⟩
        exact (hX m hm).1.mp (h1 m (by omega) (((hX i hi).2.1 m (by omega)).mpr hq))
      · refine nx_fail (by omega) (hp _ _ _ (nh_XGf hG hN hi (Or.inr (Or.inr (Or.inl ⟨hO, hr1, ?_, rfl⟩))) (Or.inl rfl)))
        rcases Classical.em (∃ m, m < N ∧ nh_uq K V (nh_L ln) U i m ∧ ¬ nh_ow K V (nh_L ln) U m) with h2 | h2
        · exact h2
        · refine absurd (nh_anz.mpr (fun m hm hb => ?_)) h
          have hq := ((hX i hi).2.1 m hm).mp hb
          have hmN := nh_uqN hTV hN hm hq
          refine (hX m hmN).1.mpr ?_
          rcases Classical.em (nh_ow K V (nh_L ln) U m) with h3 | h3
          · exact h3
          · exact absurd ⟨m, hmN, hq, h3⟩ h2
  · have hO : ¬ nh_ow K V (nh_L ln) U i := fun h => by rw [(hX i hi).1.mpr h] at ho; exact absurd ho (by decide)
    exact br_t rfl ⟨h16, nm_e (hp _ _ _ (nh_XGs hG (Or.inl ⟨hO, rfl⟩) (by decide) (by decide)))⟩
end
section
/-! 10: X's values, rounds, publishing -/
theorem nx_tok {U T N : Nat} {on ok fl tt pr : Int32} {K V ln ue dc uu ow st w ch no ns nr es nu re oT oP : Nat → Int32} {post : SX → Prop} {p d : Nat} {af : Bool} {x : Int32} (hN : N ≤ 16) (hTV : nh_TV N K V) (hd : d < 32) (hx : x = 0 ↔ ¬ af = true)
    (h1 : K p = 1 → post (nI U, nI T, nI N, on, ok, fl, nI d, tt, pr * V p, K, V, ln, ue, dc, uu, ow, st, w, ch, no, ns, nr, es, nu, re, oT, oP)) (h2 : K p = 2 → post (nI U, nI T, nI N, on, ok, fl, nI d, tt, pr * nr (V p).toNatClampNeg, K, V, ln, ue, dc, uu, ow, st, w, ch, no, ns, nr, es, nu, re, oT, oP)) (h3 : K p = 3 → post (nI U, nI T, nI N, on, ok, fl, nI d, tt + pr, 1, K, V, ln, ue, dc, uu, ow, st, w, ch, no, ns, nr, es, nu, re, oT, oP))
    (h4 : K p = 4 → af = true → post (nI U, nI T, nI N, on, ok, fl, nI d, tt + pr, -1, K, V, ln, ue, dc, uu, ow, st, w, ch, no, ns, nr, es, nu, re, oT, oP)) (h4' : K p = 4 → ¬ af = true → post (nI U, nI T, nI N, on, ok, fl, nI d, tt, -pr, K, V, ln, ue, dc, uu, ow, st, w, ch, no, ns, nr, es, nu, re, oT, oP))
    (h6 : K p = 6 → post (nI U, nI T, nI N, on, ok, fl, nI (d + 1), 0, 1, K, V, ln, ue, dc, uu, ow, st, w, ch, no, ns, nr, es, nu, re, upd oT d tt, upd oP d pr)) (h7 : K p = 7 → d = 0 → post (nI U, nI T, nI N, on, ok, fl, nI d, tt, pr, K, V, ln, ue, dc, uu, ow, st, w, ch, no, ns, nr, es, nu, re, oT, oP)) (h7' : K p = 7 → ¬ d = 0 → post (nI U, nI T, nI N, on, ok, fl, nI (d - 1), oT (d - 1), oP (d - 1) * (tt + pr), K, V, ln, ue, dc, uu, ow, st, w, ch, no, ns, nr, es, nu, re, oT, oP))
    (h0 : ¬ K p = 1 → ¬ K p = 2 → ¬ K p = 3 → ¬ K p = 4 → ¬ K p = 6 → ¬ K p = 7 → post (nI U, nI T, nI N, on, ok, fl, nI d, tt, pr, K, V, ln, ue, dc, uu, ow, st, w, ch, no, ns, nr, es, nu, re, oT, oP)) : wpX_evaluateToken post (nI U, nI T, nI N, on, ok, fl, nI d, tt, pr, K, V, ln, ue, dc, uu, ow, st, w, ch, no, ns, nr, es, nu, re, oT, oP) (K p) (V p) x := by
  have hdin : vp_in (nI d) 32 := vp_in_nI hd (by decide)
  have hcd : (nI d).toNatClampNeg = d := nI_clamp (by omega)
  by_cases k1 : K p = 1
  · refine br_f (by rw [k1]; decide) (br_f (by rw [k1]; decide) (br_t k1 (nm_e (h1 k1))))
  by_cases k2 : K p = 2
  · obtain ⟨m, hm, hv⟩ := hTV p k2
    refine br_f (by rw [k2]; decide) (br_f (by rw [k2]; decide) (br_f k1 (br_t k2 ⟨?_, nm_e (h2 k2)⟩)))
    rw [hv]; exact vp_in_nI (by omega) (by decide)
  by_cases k3 : K p = 3
  · exact br_f (by rw [k3]; decide) (br_f (by rw [k3]; decide) (br_f k1 (br_f k2 (br_t k3 (nm_e (h3 k3))))))
  by_cases k4 : K p = 4
  · refine br_f (by rw [k4]; decide) (br_f (by rw [k4]; decide) (br_f k1 (br_f k2 (br_f k3 (br_t k4 ?_)))))
    by_cases ha : af = true
    · exact br_f (fun h => hx.mp h ha) (nm_e (h4 k4 ha))
    · exact br_t (hx.mpr ha) (nm_e (h4' k4 ha))
  by_cases k6 : K p = 6
  · refine br_f (by rw [k6]; decide) (br_f (by rw [k6]; decide) (br_f k1 (br_f k2 (br_f k3 (br_f k4 (br_f (by rw [k6]; decide) (br_t k6 ?_)))))))
    refine br_f (nI_ge (b := 32) hd (by decide)) ⟨hdin, ?_⟩
    rw [hcd]
    exact nm_e ⟨hdin, nm_e (nm_r (nI_1 d) (h6 k6))⟩
  by_cases k7 : K p = 7
  · refine br_f (by rw [k7]; decide) (br_f (by rw [k7]; decide) (br_f k1 (br_f k2 (br_f k3 (br_f k4 (br_f (by rw [k7]; decide) (br_f k6 (br_t k7 ?_))))))))
    by_cases hz : d = 0
    · subst hz; exact br_t (by decide) (h7 k7 rfl)
    · refine br_f (nI_nle (by omega) (by omega)) (nm_r (e' := nI (d - 1)) ?_ ⟨vp_in_nI (by omega) (by decide), ?_⟩)
      · obtain ⟨q, rfl⟩ : ∃ q, d = q + 1 := ⟨d - 1, by omega⟩
        exact nI_pred q
      · rw [nI_clamp (n := d - 1) (by omega)]
        exact nm_e ⟨vp_in_nI (by omega) (by decide), nm_e (h7' k7 hz)⟩
  have h00 := h0 k1 k2 k3 k4 k6 k7
  exact br_c (fun _ => h00) (fun _ => br_c (fun _ => h00) (fun _ => br_f k1 (br_f k2 (br_f k3 (br_f k4 (br_c (fun _ => h00) (fun _ => br_f k6 (br_f k7 trivial))))))))
theorem nx_ev {U T N : Nat} {on ok fl : Int32} {K V ln ue dc uu ow st w ch no ns nr es nu re : Nat → Int32} {post : Int32 → SX → Prop} {e : Nat} (hN : N ≤ 16) (hTV : nh_TV N K V) (he : e ≤ 256) : ∀ (f p n : Nat) (af : Bool) (x : Int32) (d : Nat) (tt pr : Int32) (oT oP : Nat → Int32), p + f = e → f < n → d + f ≤ 32 → (x = 0 ↔ ¬ af = true) →
    (∀ dp' tt' pr' oT' oP', post (nh_pe K V nr f p af d tt pr oT oP) (nI U, nI T, nI N, on, ok, fl, dp', tt', pr', K, V, ln, ue, dc, uu, ow, st, w, ch, no, ns, nr, es, nu, re, oT', oP')) → wX_evaluate_52 post (nI e) n x (nI p) (nI U) (nI T) (nI N) on ok fl (nI d) tt pr K V ln ue dc uu ow st w ch no ns nr es nu re oT oP := by
  intro f
  induction f with
  | zero =>
    intro p n af x d tt pr oT oP hpe hn hd hx hp
    obtain ⟨m, rfl⟩ : ∃ m, n = m + 1 := ⟨n - 1, by omega⟩
    exact br_t (nI_le (by omega) (by omega)) (hp _ _ _ _ _)
  | succ f ih =>
    intro p n af x d tt pr oT oP hpe hn hd hx hp
    obtain ⟨m, rfl⟩ : ∃ m, n = m + 1 := ⟨n - 1, by omega⟩
    have hpin : vp_in (nI p) 256 := vp_in_nI (by omega) (by decide)
    refine br_f (nI_ge (by omega) (by omega)) ⟨hpin, ?_⟩
    rw [nI_clamp (n := p) (by omega)]
    rw [nh_peS] at hp
    by_cases k9 : K p = 9
    · rw [if_pos k9] at hp
      exact br_t k9 (hp _ _ _ _ _)
    rw [if_neg k9] at hp
    refine br_f k9 ⟨hpin, hpin, ?_⟩
    have T1 : (1 : Int32) = 0 ↔ ¬ true = true := ⟨fun h => absurd h (by decide), fun h => absurd rfl h⟩
    have T0 : (0 : Int32) = 0 ↔ ¬ false = true := ⟨fun _ => by decide, fun _ => rfl⟩
    refine nx_tok hN hTV (by omega) hx (fun k1 => ?_) (fun k2 => ?_) (fun k3 => ?_) (fun k4 ha => ?_) (fun k4 ha => ?_) (fun k6 => ?_) (fun k7 hz => ?_) (fun k7 hz => ?_) (fun k1 k2 k3 k4 k6 k7 => ?_)
    · rw [if_pos k1] at hp
      exact ⟨hpin, br_t k1 (nm_r (nI_1 p) (ih (p + 1) m true 1 d _ _ _ _ (by omega) (by omega) (by omega) T1 hp))⟩
    · have k1 : ¬ K p = 1 := by rw [k2]; decide
      rw [if_neg k1, if_pos k2] at hp
      exact ⟨hpin, br_f k1 ⟨hpin, br_t k2 (nm_r (nI_1 p) (ih (p + 1) m true 1 d _ _ _ _ (by omega) (by omega) (by omega) T1 hp))⟩⟩
    · have k1 : ¬ K p = 1 := by rw [k3]; decide
      have k2 : ¬ K p = 2 := by rw [k3]; decide
      have k7 : ¬ K p = 7 := by rw [k3]; decide
      rw [if_neg k1, if_neg k2, if_pos k3] at hp
      exact ⟨hpin, br_f k1 ⟨hpin, br_f k2 ⟨hpin, br_f k7 (nm_r (nI_1 p) (ih (p + 1) m false 0 d _ _ _ _ (by omega) (by omega) (by omega) T0 hp))⟩⟩⟩
    · have k1 : ¬ K p = 1 := by rw [k4]; decide
      have k2 : ¬ K p = 2 := by rw [k4]; decide
      have k3 : ¬ K p = 3 := by rw [k4]; decide
      have k7 : ¬ K p = 7 := by rw [k4]; decide
      rw [if_neg k1, if_neg k2, if_neg k3, if_pos k4, if_pos ha] at hp
      exact ⟨hpin, br_f k1 ⟨hpin, br_f k2 ⟨hpin, br_f k7 (nm_r (nI_1 p) (ih (p + 1) m false 0 d _ _ _ _ (by omega) (by omega) (by omega) T0 hp))⟩⟩⟩
    · have k1 : ¬ K p = 1 := by rw [k4]; decide
      have k2 : ¬ K p = 2 := by rw [k4]; decide
      have k3 : ¬ K p = 3 := by rw [k4]; decide
      have k7 : ¬ K p = 7 := by rw [k4]; decide
      rw [if_neg k1, if_neg k2, if_neg k3, if_pos k4, if_neg ha] at hp
      exact ⟨hpin, br_f k1 ⟨hpin, br_f k2 ⟨hpin, br_f k7 (nm_r (nI_1 p) (ih (p + 1) m false 0 d _ _ _ _ (by omega) (by omega) (by omega) T0 hp))⟩⟩⟩
    · have k1 : ¬ K p = 1 := by rw [k6]; decide
      have k2 : ¬ K p = 2 := by rw [k6]; decide
      have k3 : ¬ K p = 3 := by rw [k6]; decide
      have k4 : ¬ K p = 4 := by rw [k6]; decide
      have k7 : ¬ K p = 7 := by rw [k6]; decide
      rw [if_neg k1, if_neg k2, if_neg k3, if_neg k4, if_pos k6] at hp
      exact ⟨hpin, br_f k1 ⟨hpin, br_f k2 ⟨hpin, br_f k7 (nm_r (nI_1 p) (ih (p + 1) m false 0 (d + 1) _ _ _ _ (by omega) (by omega) (by omega) T0 hp))⟩⟩⟩
    · have k1 : ¬ K p = 1 := by rw [k7]; decide
      have k2 : ¬ K p = 2 := by rw [k7]; decide
      have k3 : ¬ K p = 3 := by rw [k7]; decide
      have k4 : ¬ K p = 4 := by rw [k7]; decide
      have k6 : ¬ K p = 6 := by rw [k7]; decide
      rw [if_neg k1, if_neg k2, if_neg k3, if_neg k4, if_neg k6, if_pos k7, if_pos hz] at hp
      exact ⟨hpin, br_f k1 ⟨hpin, br_f k2 ⟨hpin, br_t k7 (nm_r (nI_1 p) (ih (p + 1) m true 1 d _ _ _ _ (by omega) (by omega) (by omega) T1 hp))⟩⟩⟩
    · have k1 : ¬ K p = 1 := by rw [k7]; decide
      have k2 : ¬ K p = 2 := by rw [k7]; decide
      have k3 : ¬ K p = 3 := by rw [k7]; decide
      have k4 : ¬ K p = 4 := by rw [k7]; decide
      have k6 : ¬ K p = 6 := by rw [k7]; decide
      rw [if_neg k1, if_neg k2, if_neg k3, if_neg k4, if_neg k6, if_pos k7, if_neg hz] at hp
      exact ⟨hpin, br_f k1 ⟨hpin, br_f k2 ⟨hpin, br_t k7 (nm_r (nI_1 p) (ih (p + 1) m true 1 (d - 1) _ _ _ _ (by omega) (by omega) (by omega) T1 hp))⟩⟩⟩
    · rw [if_neg k1, if_neg k2, if_neg k3, if_neg k4, if_neg k6, if_neg k7] at hp
      exact ⟨hpin, br_f k1 ⟨hpin, br_f k2 ⟨hpin, br_f k7 (nm_r (nI_1 p) (ih (p + 1) m false 0 d _ _ _ _ (by omega) (by omega) (by omega) T0 hp))⟩⟩⟩
theorem nx_evaluate {U T N : Nat} {on ok fl dp tt pr : Int32} {K V ln ue dc uu ow st w ch no ns nr es nu re oT oP : Nat → Int32} {post : Int32 → SX → Prop} {n u s : Nat} (hU : U ≤ 8) (hN : N ≤ 16) (hT : T ≤ 32) (hln : ∀ u, ∃ l, l ≤ T ∧ ln u = nI l) (hTV : nh_TV N K V) (hn : n < N) (hX : nh_XF K V (nh_L ln) U N no es nu on) (hf : nh_fs K V (nh_L ln) U n u s)
    (hp : ∀ dp' tt' pr' oT' oP', post (nh_ev K V (nh_L ln) nr u s) (nI U, nI T, nI N, on, ok, fl, dp', tt', pr', K, V, ln, ue, dc, uu, ow, st, w, ch, no, ns, nr, es, nu, re, oT', oP')) : wpX_evaluate post (nI U, nI T, nI N, on, ok, fl, dp, tt, pr, K, V, ln, ue, dc, uu, ow, st, w, ch, no, ns, nr, es, nu, re, oT, oP) (nI n) := by
  have ⟨hl1, hl2⟩ := nh_Ln hT hln u
  have ⟨ho, he⟩ := (hX n hn).2.2.2 u s hf
  have hu := hf.1
  obtain ⟨hk, hs, hs0, _⟩ := hf.2.1
  have hs1 : s + 2 ≤ nh_L ln u := by
    have h1 := (nh_st0 hk hs hs0).2
    by_cases e : s + 1 = nh_L ln u
    · have h2 := hk.2
      rw [← e, h1] at h2
      exact absurd h2 (by decide)
    · omega
  have h16 : vp_in (nI n) 16 := vp_in_nI (by omega) (by decide)
  refine ⟨h16, ?_⟩
  rw [nI_clamp (n := n) (by omega), ho, he, nI_clamp (n := u) (by omega), hl1]
  refine nm_r (nh_e32 u) ⟨h16, vp_in_nI (by omega) (by decide), nm_r (nI_add _ _) ⟨h16, nm_r (nI_add _ _) ⟨nh_L ln u - (s + 2) + 1, ?_⟩⟩⟩
  refine nx_ev hN hTV (by omega) (nh_L ln u - (s + 2)) (u * 32 + (s + 2)) _ false 0 0 0 1 oT oP (by omega) (by omega) (by omega) ⟨fun _ => by decide, fun _ => rfl⟩ (fun dp' tt' pr' oT' oP' => ?_)
  rw [nh_pec (w' := nr) _ _ _ _ _ _ oT oP nh_z0 nh_z0 (fun _ _ _ _ _ => rfl) (fun j hj => absurd hj (Nat.not_lt_zero j))]
  exact hp dp' tt' pr' oT' oP'
theorem nx_uses {U T N : Nat} {on ok fl dp tt pr : Int32} {K V ln ue dc uu ow st w ch no ns nr es nu re oT oP : Nat → Int32} {post : SX → Prop} {r i : Nat} (hU : U ≤ 8) (hN : N ≤ 16) (hT : T ≤ 32) (hln : ∀ u, ∃ l, l ≤ T ∧ ln u = nI l) (hTV : nh_TV N K V) (hi : i < N) (hX : nh_XF K V (nh_L ln) U N no es nu on)
    (hR : nh_XR (nh_ow K V (nh_L ln) U) (nh_uq K V (nh_L ln) U) (nh_vl K V (nh_L ln) U) N r i ns nr fl ok) (hs : ns i = -1)
    (hp : ∀ ns' nr' fl' ok' dp' tt' pr' oT' oP', nh_XR (nh_ow K V (nh_L ln) U) (nh_uq K V (nh_L ln) U) (nh_vl K V (nh_L ln) U) N r (i + 1) ns' nr' fl' ok' → post (nI U, nI T, nI N, on, ok', fl', dp', tt', pr', K, V, ln, ue, dc, uu, ow, st, w, ch, no, ns', nr', es, nu, re, oT', oP')) : wpX_decideFromUses post (nI U, nI T, nI N, on, ok, fl, dp, tt, pr, K, V, ln, ue, dc, uu, ow, st, w, ch, no, ns, nr, es, nu, re, oT, oP) (nI i) := by
  have hci : (nI i).toNatClampNeg = i := nI_clamp (by omega)
  have h16 : vp_in (nI i) 16 := vp_in_nI (by omega) (by decide)
  refine ⟨h16, ?_⟩
  rw [hci]
  refine br_c (fun h => ⟨h16, br_c (fun h2 => ⟨h16, nm_e ?_⟩) (fun h2 => ?_)⟩) (fun h => ?_)
  · obtain ⟨u, s, hf⟩ := (nh_XRp hR hi hs).1.1
    refine nx_evaluate hU hN hT hln hTV hi hX hf (fun dp' tt' pr' oT' oP' => ⟨h16, nm_e (nm_e (hp _ _ _ _ dp' tt' pr' oT' oP' (nh_XRo (fun n w w' x h1 h2 => nh_vlc hTV hN h1 h2) hR hN hi hs (fun m hm hq => ?_) ⟨u, s, hf, rfl⟩)))⟩)
    exact nh_anz.mp h2 m (by omega) (((hX i hi).2.1 m (by omega)).mpr hq)
  · refine hp _ _ _ _ _ _ _ _ _ (nh_XRs hR hi hs (fun m hm hq hb => nh_az.mp h m (by omega) (((hX i hi).2.1 m (by omega)).mpr hq) hb) ?_)
    rcases Classical.em (∃ m, m < N ∧ nh_uq K V (nh_L ln) U i m ∧ ¬ bt ok m = true) with h3 | h3
    · exact h3
    · refine absurd (nh_anz.mpr (fun m hm hb => ?_)) h2
      have hq := ((hX i hi).2.1 m hm).mp hb
      rcases Classical.em (bt ok m = true) with h4 | h4
      · exact h4
      · exact absurd ⟨m, nh_uqN hTV hN hm hq, hq, h4⟩ h3
  · refine nx_fail (by omega) (hp _ _ _ _ _ _ _ _ _ (nh_XRb hR hN hi hs ?_))
    rcases Classical.em (∃ m, m < N ∧ nh_uq K V (nh_L ln) U i m ∧ bt fl m = true) with h3 | h3
    · exact h3
    · refine absurd (nh_az.mpr (fun m hm hb hb2 => ?_)) h
      have hq := ((hX i hi).2.1 m hm).mp hb
      exact h3 ⟨m, nh_uqN hTV hN hm hq, hq, hb2⟩
theorem nx_r12 {U T N : Nat} {on : Int32} {K V ln ue dc uu ow st w ch no es nu re : Nat → Int32} {post : SX → Prop} {J : Int32 → Int32 → Int32 → Int32 → Int32 → Int32 → Int32 → Int32 → Int32 → Int32 → (Nat → Int32) → (Nat → Int32) → (Nat → Int32) → (Nat → Int32) → (Nat → Int32) → (Nat → Int32) → (Nat → Int32) → (Nat → Int32) → (Nat → Int32) → (Nat → Int32) → (Nat → Int32) → (Nat → Int32) → (Nat → Int32) → (Nat → Int32) → (Nat → Int32) → (Nat → Int32) → (Nat → Int32) → (Nat → Int32) → Prop} {r : Nat} (hU : U ≤ 8) (hN : N ≤ 16) (hT : T ≤ 32) (hln : ∀ u, ∃ l, l ≤ T ∧ ln u = nI l) (hTV : nh_TV N K V) (hX : nh_XF K V (nh_L ln) U N no es nu on)
    (hJ : ∀ ns nr fl ok dp tt pr oT oP, nh_XR (nh_ow K V (nh_L ln) U) (nh_uq K V (nh_L ln) U) (nh_vl K V (nh_L ln) U) N (r + 1) 0 ns nr fl ok → J (nI (r + 1)) (nI U) (nI T) (nI N) on ok fl dp tt pr K V ln ue dc uu ow st w ch no ns nr es nu re oT oP) :
    ∀ (d i n : Nat) (ns nr : Nat → Int32) (fl ok dp tt pr : Int32) (oT oP : Nat → Int32), i + d = N → d < n → nh_XR (nh_ow K V (nh_L ln) U) (nh_uq K V (nh_L ln) U) (nh_vl K V (nh_L ln) U) N r i ns nr fl ok → wX_decideTheRest_12 post J (nI r) n (nI i) (nI U) (nI T) (nI N) on ok fl dp tt pr K V ln ue dc uu ow st w ch no ns nr es nu re oT oP := by
  intro d
  induction d with
  | zero =>
    intro i n ns nr fl ok dp tt pr oT oP hid hn hR
    obtain ⟨m, rfl⟩ : ∃ m, n = m + 1 := ⟨n - 1, by omega⟩
    have e : i = N := by omega
    subst e
    exact br_t (nI_le (Nat.le_refl _) (by omega)) (nm_r (nI_1 r) (hJ ns nr fl ok dp tt pr oT oP (nh_XRe hR)))
  | succ d ih =>
    intro i n ns nr fl ok dp tt pr oT oP hid hn hR
    obtain ⟨m, rfl⟩ : ∃ m, n = m + 1 := ⟨n - 1, by omega⟩
    have hi : i < N := by omega
    refine br_f (nI_ge hi (by omega)) ⟨vp_in_nI (by omega) (by decide), ?_⟩
    rw [nI_clamp (n := i) (by omega)]
    by_cases hs : ns i = -1
    · exact br_t hs (nx_uses hU hN hT hln hTV hi hX hR hs (fun ns' nr' fl' ok' dp' tt' pr' oT' oP' h => nm_r (nI_1 i) (ih (i + 1) m _ _ _ _ _ _ _ _ _ (by omega) (by omega) h)))
    · exact br_f hs (nm_r (nI_1 i) (ih (i + 1) m _ _ _ _ _ _ _ _ _ (by omega) (by omega) (nh_XRk hR hs)))
theorem nx_r2 {U T N : Nat} {on : Int32} {K V ln ue dc uu ow st w ch no es nu re : Nat → Int32} {post : SX → Prop} (hU : U ≤ 8) (hN : N ≤ 16) (hT : T ≤ 32) (hln : ∀ u, ∃ l, l ≤ T ∧ ln u = nI l) (hTV : nh_TV N K V) (hX : nh_XF K V (nh_L ln) U N no es nu on)
    (hp : ∀ ns nr fl ok dp tt pr oT oP, nh_sol (nh_ow K V (nh_L ln) U) (nh_uq K V (nh_L ln) U) (nh_vl K V (nh_L ln) U) N ns nr → post (nI U, nI T, nI N, on, ok, fl, dp, tt, pr, K, V, ln, ue, dc, uu, ow, st, w, ch, no, ns, nr, es, nu, re, oT, oP)) :
    ∀ (d r n : Nat) (ns nr : Nat → Int32) (fl ok dp tt pr : Int32) (oT oP : Nat → Int32), r + d = N → d < n → nh_XR (nh_ow K V (nh_L ln) U) (nh_uq K V (nh_L ln) U) (nh_vl K V (nh_L ln) U) N r 0 ns nr fl ok → wX_decideTheRest_2 post n (nI r) (nI U) (nI T) (nI N) on ok fl dp tt pr K V ln ue dc uu ow st w ch no ns nr es nu re oT oP := by
  intro d
  induction d with
  | zero =>
    intro r n ns nr fl ok dp tt pr oT oP hid hn hR
    obtain ⟨m, rfl⟩ : ∃ m, n = m + 1 := ⟨n - 1, by omega⟩
    have e : r = N := by omega
    subst e
    exact br_t (nI_le (Nat.le_refl _) (by omega)) (hp ns nr fl ok dp tt pr oT oP (nh_XRf hR))
  | succ d ih =>
    intro r n ns nr fl ok dp tt pr oT oP hid hn hR
    obtain ⟨m, rfl⟩ : ∃ m, n = m + 1 := ⟨n - 1, by omega⟩
    exact br_f (nI_ge (by omega) (by omega)) ⟨N + 1, nx_r12 hU hN hT hln hTV hX (fun ns' nr' fl' ok' dp' tt' pr' oT' oP' h => ih (r + 1) m _ _ _ _ _ _ _ _ _ (by omega) (by omega) h) N 0 (N + 1) ns nr fl ok dp tt pr oT oP (by omega) (by omega) hR⟩
theorem nx_p67 {U T N : Nat} {on ok fl dp tt pr : Int32} {K V ln ue dc uu ow st w ch no ns nr es nu re oT oP : Nat → Int32} {post : Int32 → SX → Prop} {J : Int32 → Int32 → (Nat → Int32) → (Nat → Int32) → (Nat → Int32) → (Nat → Int32) → (Nat → Int32) → (Nat → Int32) → (Nat → Int32) → (Nat → Int32) → (Nat → Int32) → (Nat → Int32) → (Nat → Int32) → (Nat → Int32) → (Nat → Int32) → (Nat → Int32) → (Nat → Int32) → (Nat → Int32) → (Nat → Int32) → (Nat → Int32) → Prop} {i : Nat} {c : Nat → Int32} {z : Int32} (hi : i < 16) (hz : z = 0 ∨ z = 1) (hc : c i = z)
    (hJ : J (nI (nh_cc c (i + 1))) (nI (i + 1)) K V ln ue dc uu (nh_mx (i + 1) no ow) (nh_mx (i + 1) ns st) (nh_mx (i + 1) nr w) (nh_mx (i + 1) c ch) no ns nr es nu re oT oP) :
    wX_publishNames_67 post J (nI (nh_cc c i)) (nI i) z (nI i) (nI U) (nI T) (nI N) on ok fl dp tt pr K V ln ue dc uu (nh_mx i no ow) (nh_mx i ns st) (nh_mx i nr w) (nh_mx i c ch) no ns nr es nu re oT oP := by
  have h16 : vp_in (nI i) 16 := vp_in_nI hi (by decide)
  have hci : (nI i).toNatClampNeg = i := nI_clamp (by omega)
  have h80 : ∀ y, J y (nI (i + 1)) K V ln ue dc uu (nh_mx (i + 1) no ow) (nh_mx (i + 1) ns st) (nh_mx (i + 1) nr w) (nh_mx (i + 1) c ch) no ns nr es nu re oT oP →
      wX_publishNames_80 post J y (nI i) (nI U) (nI T) (nI N) on ok fl dp tt pr K V ln ue dc uu (nh_mx i no ow) (nh_mx i ns st) (nh_mx i nr w) (nh_mx (i + 1) c ch) no ns nr es nu re oT oP := by
    intro y hy
    refine ⟨h16, h16, ?_⟩
    rw [hci]
    exact nm_r (nh_mxs i no ow) ⟨h16, h16, nm_r (nh_mxs i ns st) ⟨h16, h16, nm_r (nh_mxs i nr w) (nm_r (nI_1 i) hy)⟩⟩
  have hv : vp_nar .boolean z = c i := by
    rw [hc]
    rcases hz with e | e
    · rw [e]; exact nh_vb0
    · rw [e]; exact nh_vb1
  refine ⟨h16, ?_⟩
  rw [hci, hv]
  refine nm_r (nh_mxs i c ch) ⟨h16, ?_⟩
  rw [nh_mxl (Nat.lt_succ_self i), hc]
  rcases hz with e | e
  · have e2 : nh_cc c (i + 1) = nh_cc c i := by rw [nh_cc, if_pos (hc.trans e)]
    rw [e2] at hJ
    exact br_t e (h80 _ hJ)
  · have e2 : nh_cc c (i + 1) = nh_cc c i + 1 := by rw [nh_cc, if_neg (by rw [hc, e]; decide)]
    rw [e2] at hJ
    exact br_f (by rw [e]; decide) (nm_r (nI_1 _) (h80 _ hJ))
theorem nx_pub {U T N : Nat} {on ok fl dp tt pr : Int32} {K V ln ue dc uu ow st w ch no ns nr es nu re oT oP : Nat → Int32} {post : Int32 → SX → Prop} (hN : N ≤ 16) (hp : post (nI (nh_cc (nh_ch ow st w no ns nr) N)) (nI U, nI T, nI N, on, ok, fl, dp, tt, pr, K, V, ln, ue, dc, uu, nh_mx N no ow, nh_mx N ns st, nh_mx N nr w, nh_mx N (nh_ch ow st w no ns nr) ch, no, ns, nr, es, nu, re, oT, oP)) : wpX_publishNames post (nI U, nI T, nI N, on, ok, fl, dp, tt, pr, K, V, ln, ue, dc, uu, ow, st, w, ch, no, ns, nr, es, nu, re, oT, oP) := by
  have key : ∀ (d i n : Nat), i + d = N → d < n → wX_publishNames_4 post (nI U) (nI T) (nI N) on ok fl dp tt pr n (nI (nh_cc (nh_ch ow st w no ns nr) i)) (nI i) K V ln ue dc uu (nh_mx i no ow) (nh_mx i ns st) (nh_mx i nr w) (nh_mx i (nh_ch ow st w no ns nr) ch) no ns nr es nu re oT oP := by
    intro d
    induction d with
    | zero =>
      intro i n hid hn
      obtain ⟨m, rfl⟩ : ∃ m, n = m + 1 := ⟨n - 1, by omega⟩
      have e : i = N := by omega
      subst e
      exact br_t (nI_le (Nat.le_refl _) (by omega)) hp
    | succ d ih =>
      intro i n hid hn
      obtain ⟨m, rfl⟩ : ∃ m, n = m + 1 := ⟨n - 1, by omega⟩
      have hi : i < 16 := by omega
      have h16 : vp_in (nI i) 16 := vp_in_nI hi (by decide)
      have hJ := ih (i + 1) m (by omega) (by omega)
      refine br_f (nI_ge (by omega) (by omega)) ⟨h16, h16, ?_⟩
      rw [nI_clamp (n := i) (by omega), nh_mxg (Nat.le_refl i), nh_mxg (Nat.le_refl i), nh_mxg (Nat.le_refl i)]
      by_cases e1 : ow i = no i
      · refine br_t e1 ⟨h16, h16, ?_⟩
        by_cases e2 : st i = ns i
        · refine br_t e2 ⟨h16, h16, ?_⟩
          by_cases e3 : w i = nr i
          · exact br_t e3 (nx_p67 hi (Or.inl rfl) (if_pos ⟨e1, e2, e3⟩) hJ)
          · exact br_f e3 (nx_p67 hi (Or.inr rfl) (if_neg (fun h => e3 h.2.2)) hJ)
        · exact br_f e2 (nx_p67 hi (Or.inr rfl) (if_neg (fun h => e2 h.2.1)) hJ)
      · exact br_f e1 (nx_p67 hi (Or.inr rfl) (if_neg (fun h => e1 h.1)) hJ)
  have h0 := key N 0 (N + 1) (by omega) (by omega)
  rw [nh_mx0, nh_mx0, nh_mx0, nh_mx0] at h0
  exact ⟨N + 1, h0⟩
end
section
/-! 11: X builds -/
def nh_OS (K V : Nat → Int32) (Ln : Nat → Nat) (U N : Nat) (no : Nat → Int32) : Prop := ∀ n, n < N → (¬ nh_ow K V Ln U n → no n = -1) ∧ ∀ u s, nh_fs K V Ln U n u s → no n = nI u
theorem nx_b31 {U T N : Nat} {on dp tt pr : Int32} {K V ln ue dc uu ow st w ch no es nu re oT oP : Nat → Int32} {post : Int32 → SX → Prop} (hU : U ≤ 8) (hN : N ≤ 16) (hT : T ≤ 32) (hln : ∀ u, ∃ l, l ≤ T ∧ ln u = nI l) (hTV : nh_TV N K V) (hX : nh_XF K V (nh_L ln) U N no es nu on)
    (hR : nh_RR (nh_ow K V (nh_L ln) U) (nh_uq K V (nh_L ln) U) N N re)
    (hp : ∀ ns nr fl ok dp tt pr oT oP, nh_sol (nh_ow K V (nh_L ln) U) (nh_uq K V (nh_L ln) U) (nh_vl K V (nh_L ln) U) N ns nr →
      post (nI (nh_cc (nh_ch ow st w no ns nr) N)) (nI U, nI T, nI N, on, ok, fl, dp, tt, pr, K, V, ln, ue, dc, uu, nh_mx N no ow, nh_mx N ns st, nh_mx N nr w, nh_mx N (nh_ch ow st w no ns nr) ch, no, ns, nr, es, nu, re, oT, oP)) :
    ∀ (d i n : Nat) (ns nr : Nat → Int32) (fl : Int32), i + d = N → d < n → nh_XG (nh_ow K V (nh_L ln) U) (nh_uq K V (nh_L ln) U) N i ns nr fl → wX_build_31 post n (nI i) (nI U) (nI T) (nI N) on 0 fl dp tt pr K V ln ue dc uu ow st w ch no ns nr es nu re oT oP := by
  intro d
  induction d with
  | zero =>
    intro i n ns nr fl hid hn hG
    obtain ⟨m, rfl⟩ : ∃ m, n = m + 1 := ⟨n - 1, by omega⟩
    have e : i = N := by omega
    subst e
    refine br_t (nI_le (Nat.le_refl _) (by omega)) ?_
    exact ⟨i + 1, nx_r2 hU hN hT hln hTV hX (fun ns' nr' fl' ok' dp' tt' pr' oT' oP' h => nx_pub hN (hp ns' nr' fl' ok' dp' tt' pr' oT' oP' h)) i 0 (i + 1) ns nr fl 0 dp tt pr oT oP (by omega) (by omega) (nh_XR0 hG)⟩
  | succ d ih =>
    intro i n ns nr fl hid hn hG
    obtain ⟨m, rfl⟩ : ∃ m, n = m + 1 := ⟨n - 1, by omega⟩
    exact br_f (nI_ge (by omega) (by omega)) (nx_graph hN hTV hX hR (by omega) hG (fun ns' nr' fl' h => nm_r (nI_1 i) (ih (i + 1) m ns' nr' fl' (by omega) (by omega) h)))
theorem nx_b6 {U T N : Nat} {dp tt pr : Int32} {K V ln ue dc ow st w ch ns nr re oT oP : Nat → Int32} {post : Int32 → SX → Prop} (hU : U ≤ 8) (hN : N ≤ 16) (hT : T ≤ 32) (hln : ∀ u, ∃ l, l ≤ T ∧ ln u = nI l) (hTV : nh_TV N K V)
    (hp : ∀ on ok fl dp tt pr uu no ns nr es nu re oT oP, (∀ u, u < U → nh_ubits K V ln u (uu u)) → nh_OS K V (nh_L ln) U N no → nh_sol (nh_ow K V (nh_L ln) U) (nh_uq K V (nh_L ln) U) (nh_vl K V (nh_L ln) U) N ns nr →
      post (nI (nh_cc (nh_ch ow st w no ns nr) N)) (nI U, nI T, nI N, on, ok, fl, dp, tt, pr, K, V, ln, nh_mx U (nh_E K ln) ue, nh_mx U (nh_C K ln) dc, uu, nh_mx N no ow, nh_mx N ns st, nh_mx N nr w, nh_mx N (nh_ch ow st w no ns nr) ch, no, ns, nr, es, nu, re, oT, oP)) :
    ∀ (d i n : Nat) (on : Int32) (uu no es nu : Nat → Int32), i + d = U → d < n → nh_XI K V (nh_L ln) U N i 0 no es nu on → (∀ u, u < i → nh_ubits K V ln u (uu u)) →
      wX_build_6 post n (nI i) (nI U) (nI T) (nI N) on 0 0 dp tt pr K V ln (nh_mx i (nh_E K ln) ue) (nh_mx i (nh_C K ln) dc) uu ow st w ch no ns nr es nu re oT oP := by
  intro d
  induction d with
  | zero =>
    intro i n on uu no es nu hid hn hX hb
    obtain ⟨m, rfl⟩ : ∃ m, n = m + 1 := ⟨n - 1, by omega⟩
    have e : i = U := by omega
    subst e
    have hF := nh_XIf hX
    refine br_t (nI_le (Nat.le_refl _) (by omega)) (nx_reach hN hF (fun re' hR => ?_))
    exact ⟨N + 1, nx_b31 hU hN hT hln hTV hF hR (fun ns nr fl ok dp tt pr oT oP h => hp on ok fl dp tt pr uu no ns nr es nu re' oT oP hb (fun n hn => ⟨(hF n hn).2.2.1, fun u s hf => ((hF n hn).2.2.2 u s hf).1⟩) h) N 0 (N + 1) ns nr 0 (by omega) (by omega) nh_XG0⟩
  | succ d ih =>
    intro i n on uu no es nu hid hn hX hb
    obtain ⟨m, rfl⟩ : ∃ m, n = m + 1 := ⟨n - 1, by omega⟩
    refine br_f (nI_ge (by omega) (by omega)) (nx_readUnit hU hN hT (by omega) hln hTV hX (fun on' x no' es' nu' h1 h2 => ?_))
    rw [nh_mxs, nh_mxs]
    refine nm_r (nI_1 i) (ih (i + 1) m on' _ no' es' nu' (by omega) (by omega) h2 (fun u hu => ?_))
    by_cases e : u = i
    · rw [e, pk_us]; exact h1
    · rw [pk_un e]; exact hb u (by omega)
theorem nx_build {U T N : Nat} {on ok fl dp tt pr : Int32} {K V ln ue dc uu ow st w ch no ns nr es nu re oT oP : Nat → Int32} {post : Int32 → SX → Prop} (hU : U ≤ 8) (hN : N ≤ 16) (hT : T ≤ 32) (hln : ∀ u, ∃ l, l ≤ T ∧ ln u = nI l) (hTV : nh_TV N K V)
    (hp : ∀ on ok fl dp tt pr uu no ns nr es nu re oT oP, (∀ u, u < U → nh_ubits K V ln u (uu u)) → nh_OS K V (nh_L ln) U N no → nh_sol (nh_ow K V (nh_L ln) U) (nh_uq K V (nh_L ln) U) (nh_vl K V (nh_L ln) U) N ns nr →
      post (nI (nh_cc (nh_ch ow st w no ns nr) N)) (nI U, nI T, nI N, on, ok, fl, dp, tt, pr, K, V, ln, nh_mx U (nh_E K ln) ue, nh_mx U (nh_C K ln) dc, uu, nh_mx N no ow, nh_mx N ns st, nh_mx N nr w, nh_mx N (nh_ch ow st w no ns nr) ch, no, ns, nr, es, nu, re, oT, oP)) : wpX_build post (nI U, nI T, nI N, on, ok, fl, dp, tt, pr, K, V, ln, ue, dc, uu, ow, st, w, ch, no, ns, nr, es, nu, re, oT, oP) := by
  unfold wpX_build
  refine nx_forget hN (fun no' nu' h => ⟨U + 1, ?_⟩)
  have h1 := nx_b6 (post := post) (U := U) (T := T) (N := N) (ue := ue) (dc := dc) (dp := dp) (tt := tt) (pr := pr) (ns := ns) (nr := nr) (re := re) (oT := oT) (oP := oP) hU hN hT hln hTV hp U 0 (U + 1) 0 uu no' es nu' (by omega) (by omega) (nh_XI0 h rfl) (fun u hu => absurd hu (Nat.not_lt_zero u))
  rw [nh_mx0, nh_mx0] at h1
  exact h1
end
section
/-! 12: the reference reads a unit -/
theorem ny_ck {U T N : Nat} {K V ln ue dc us ow st w ch ds po ps pv rc rd fS fP fN : Nat → Int32} {post : Int32 → Prop} {u L : Nat} (hu : u < 8) (hl : ln u = nI L) (hL : L ≤ 32) : ∀ (d i n : Nat), i + d = L → d < n → nh_S K (u * 32) i ≤ 3 → post (nh_er K (u * 32) d i) →
    wY_check_13 post (nI u) (nI (u * 32)) (nI U) (nI T) (nI N) K V ln ue dc us ow st w ch ds po ps pv rc rd fS fP fN n (nI (nh_S K (u * 32) i)) (nI (nh_D K (u * 32) i)) (nI i) := by
  have hcu : (nI u).toNatClampNeg = u := nI_clamp (by omega)
  intro d
  induction d with
  | zero =>
    intro i n hi hn hs hp
    obtain ⟨m, rfl⟩ : ∃ m, n = m + 1 := ⟨n - 1, by omega⟩
    refine ⟨vp_in_nI hu (by decide), ?_⟩
    rw [hcu, hl]
    refine br_t (nI_le (by omega) (by omega)) ?_
    rw [nh_er] at hp
    by_cases e : nh_S K (u * 32) i = 0
    · rw [if_pos e] at hp
      rw [e]
      exact br_t (by decide) hp
    · rw [if_neg e] at hp
      refine br_f (nI_ne0 (by omega) (by omega)) ⟨vp_in_nI hu (by decide), ?_⟩
      rw [show L = i by omega]
      exact hp
  | succ d ih =>
    intro i n hi hn hs hp
    obtain ⟨m, rfl⟩ : ∃ m, n = m + 1 := ⟨n - 1, by omega⟩
    have hD := nh_Dle K (u * 32) i
    rw [nh_er] at hp
    have hS1 := nh_S1 K (u * 32) i
    have hA : ∀ s' d', nh_S K (u * 32) (i + 1) = s' → s' ≤ 3 → nh_D K (u * 32) (i + 1) = d' →
        wY_check_193 post (wY_check_13 post (nI u) (nI (u * 32)) (nI U) (nI T) (nI N) K V ln ue dc us ow st w ch ds po ps pv rc rd fS fP fN m) (nI u) (nI (u * 32)) (nI s') (nI d') (nI i) 1 (nI U) (nI T) (nI N) K V ln ue dc us ow st w ch ds po ps pv rc rd fS fP fN := by
      intro s' d' e1 hs' e2
      subst e1 e2
      rw [if_neg (by omega)] at hp
      exact br_f (by decide) (nm_r (nI_1 i) (ih (i + 1) m (by omega) (by omega) hs' hp))
    have hB : nh_S K (u * 32) (i + 1) = 4 → ∀ x3 x4, wY_check_193 post (wY_check_13 post (nI u) (nI (u * 32)) (nI U) (nI T) (nI N) K V ln ue dc us ow st w ch ds po ps pv rc rd fS fP fN m) (nI u) (nI (u * 32)) x3 x4 (nI i) 0 (nI U) (nI T) (nI N) K V ln ue dc us ow st w ch ds po ps pv rc rd fS fP fN := by
      intro e x3 x4
      rw [if_pos e] at hp
      exact br_t rfl hp
    refine ⟨vp_in_nI hu (by decide), ?_⟩
    rw [hcu, hl]
    refine br_f (nI_ge (by omega) (by omega)) ?_
    rw [nI_add, nI_clamp (n := u * 32 + i) (by omega)]
    refine ⟨vp_in_nI (by omega) (by decide), nm_e ?_⟩
    have hc : nh_S K (u * 32) i = 0 ∨ nh_S K (u * 32) i = 1 ∨ nh_S K (u * 32) i = 2 ∨ nh_S K (u * 32) i = 3 := by omega
    rcases hc with e | e | e | e
    · rw [e] at hS1 ⊢
      rw [nh_n0] at hS1
      refine br_t (by decide) ?_
      by_cases k2 : K (u * 32 + i) = 2
      · rw [if_pos k2] at hS1
        exact br_t k2 (hA 1 _ hS1 (by decide) (nh_Dn (by rw [k2]; decide) (by rw [k2]; decide)))
      · rw [if_neg k2] at hS1
        exact br_f k2 (hB hS1 _ _)
    · rw [e] at hS1 ⊢
      rw [nh_n1] at hS1
      refine br_f (by decide) (br_t (by decide) ?_)
      by_cases k2 : K (u * 32 + i) = 8
      · rw [if_pos k2] at hS1
        exact br_t k2 (hA 2 _ hS1 (by decide) (nh_Dn (by rw [k2]; decide) (by rw [k2]; decide)))
      · rw [if_neg k2] at hS1
        exact br_f k2 (hB hS1 _ _)
    · rw [e] at hS1 ⊢
      rw [nh_n2] at hS1
      refine br_f (by decide) (br_f (by decide) (br_t (by decide) ?_))
      by_cases k1 : K (u * 32 + i) = 1
      · rw [if_pos k1] at hS1
        exact br_t k1 (hA 3 _ hS1 (by decide) (nh_Dn (by rw [k1]; decide) (by rw [k1]; decide)))
      rw [if_neg k1] at hS1
      refine br_f k1 ?_
      by_cases k2 : K (u * 32 + i) = 2
      · rw [if_pos k2] at hS1
        exact br_t k2 (hA 3 _ hS1 (by decide) (nh_Dn (by rw [k2]; decide) (by rw [k2]; decide)))
      rw [if_neg k2] at hS1
      refine br_f k2 ?_
      by_cases k6 : K (u * 32 + i) = 6
      · have k4 : ¬ K (u * 32 + i) = 4 := by rw [k6]; decide
        rw [if_neg k4, if_pos k6] at hS1
        exact br_t k6 (nm_r (nI_1 _) (hA 2 _ hS1 (by decide) (nh_D6 k6)))
      refine br_f k6 ?_
      by_cases k4 : K (u * 32 + i) = 4
      · rw [if_pos k4] at hS1
        exact br_t k4 (hA 2 _ hS1 (by decide) (nh_Dn (by rw [k4]; decide) (by rw [k4]; decide)))
      rw [if_neg k4, if_neg k6] at hS1
      exact br_f k4 (hB hS1 _ _)
    · rw [e] at hS1 ⊢
      rw [nh_n3] at hS1
      refine br_f (by decide) (br_f (by decide) (br_f (by decide) ?_))
      by_cases k3 : K (u * 32 + i) = 3
      · rw [if_pos k3] at hS1
        exact br_t k3 (hA 2 _ hS1 (by decide) (nh_Dn (by rw [k3]; decide) (by rw [k3]; decide)))
      rw [if_neg k3] at hS1
      refine br_f k3 ?_
      by_cases k4 : K (u * 32 + i) = 4
      · rw [if_pos k4] at hS1
        exact br_t k4 (hA 2 _ hS1 (by decide) (nh_Dn (by rw [k4]; decide) (by rw [k4]; decide)))
      rw [if_neg k4] at hS1
      refine br_f k4 ?_
      by_cases k5 : K (u * 32 + i) = 5
      · rw [if_pos k5] at hS1
        exact br_t k5 (hA 2 _ hS1 (by decide) (nh_Dn (by rw [k5]; decide) (by rw [k5]; decide)))
      rw [if_neg k5] at hS1
      refine br_f k5 ?_
      by_cases k7 : K (u * 32 + i) = 7
      · rw [if_pos k7] at hS1
        refine br_t k7 ?_
        by_cases hz : 0 < nh_D K (u * 32) i
        · rw [if_pos hz] at hS1
          refine br_f (nI_nle hz (by omega)) (nm_r ?_ (hA 3 _ hS1 (by decide) (nh_D7 k7)))
          obtain ⟨q, hq⟩ : ∃ q, nh_D K (u * 32) i = q + 1 := ⟨nh_D K (u * 32) i - 1, by omega⟩
          rw [hq]
          exact pk_m1 q
        · rw [if_neg hz] at hS1
          refine br_t ?_ (br_f (by rw [k7]; decide) (hB hS1 _ _))
          rw [show nh_D K (u * 32) i = 0 by omega]; decide
      rw [if_neg k7] at hS1
      refine br_f k7 ?_
      by_cases k9 : K (u * 32 + i) = 9
      · rw [if_pos k9] at hS1
        refine br_t k9 ?_
        by_cases hz : nh_D K (u * 32) i = 0
        · rw [if_pos hz] at hS1
          exact br_t (by rw [hz]; decide) (hA 0 _ hS1 (by decide) (nh_Dn (by rw [k9]; decide) (by rw [k9]; decide)))
        · rw [if_neg hz] at hS1
          exact br_f (nI_ne0 (by omega) (by omega)) (hB hS1 _ _)
      rw [if_neg k9] at hS1
      exact br_f k9 (hB hS1 _ _)
theorem ny_check {U T N : Nat} {K V ln ue dc us ow st w ch ds po ps pv rc rd fS fP fN : Nat → Int32} {post : Int32 → Prop} {u : Nat} (hu : u < 8) (hT : T ≤ 32) (hln : ∀ u, ∃ l, l ≤ T ∧ ln u = nI l) (hp : post (nh_E K ln u)) : wpY_check post (nI U, nI T, nI N, K, V, ln, ue, dc, us, ow, st, w, ch, ds, po, ps, pv, rc, rd, fS, fP, fN) (nI u) := by
  have ⟨h1, h2⟩ := nh_Ln hT hln u
  exact nm_r (nh_e32 u) ⟨nh_L ln u + 1, ny_ck hu h1 (by omega) (nh_L ln u) 0 _ (by omega) (by omega) (by rw [nh_S0]; decide) hp⟩
/-- a row of the table of uses -/
def nh_urow (us : Nat → Int32) (u : Nat) (P : Nat → Prop) : Prop := ∀ m, m < 16 → (us (u * 16 + m) = 1 ∧ P m) ∨ (us (u * 16 + m) = 0 ∧ ¬ P m)
theorem nh_urc {us : Nat → Int32} {u : Nat} {P P' : Nat → Prop} (h : nh_urow us u P) (he : ∀ m, m < 16 → (P' m ↔ P m)) : nh_urow us u P' := by
  intro m hm
  rw [he m hm]
  exact h m hm
theorem ny_sc {U T N : Nat} {K V ln ue dc ow st w ch ds po ps pv rc rd fS fP fN : Nat → Int32} {post : SY → Prop} {u L : Nat} (hu : u < 8) (hN : N ≤ 16) (hl : ln u = nI L) (hL : L ≤ 32) (hTV : nh_TV N K V) (hok : nh_ok K (u * 32) L) :
    ∀ (d i n : Nat) (x4 : Int32) (us : Nat → Int32), i + d = L → d < n → (x4 = 0 ↔ ¬ nh_S K (u * 32) i = 0) → nh_urow us u (nh_uu K V (u * 32) i) →
    (∀ us', nh_urow us' u (nh_uu K V (u * 32) L) → (∀ u' m, u' ≠ u → m < 16 → us' (u' * 16 + m) = us (u' * 16 + m)) → post (nI U, nI T, nI N, K, V, ln, ue, upd dc u (nI (nh_ct K (u * 32) L)), us', ow, st, w, ch, ds, po, ps, pv, rc, rd, fS, fP, fN)) →
    wY_scanUnit_13 post (nI u) (nI (u * 32)) (nI U) (nI T) (nI N) n (nI (nh_ct K (u * 32) i)) x4 (nI i) K V ln ue dc us ow st w ch ds po ps pv rc rd fS fP fN := by
  have hcu : (nI u).toNatClampNeg = u := nI_clamp (by omega)
  have h8 : vp_in (nI u) 8 := vp_in_nI hu (by decide)
  intro d
  induction d with
  | zero =>
    intro i n x4 us hi hn hx hr hp
    obtain ⟨m, rfl⟩ : ∃ m, n = m + 1 := ⟨n - 1, by omega⟩
    have e : i = L := by omega
    subst e
    refine ⟨h8, ?_⟩
    rw [hcu, hl]
    exact br_t (nI_le (Nat.le_refl _) (by omega)) ⟨h8, nm_e (hp us hr (fun _ _ _ _ => rfl))⟩
  | succ d ih =>
    intro i n x4 us hi hn hx hr hp
    obtain ⟨m, rfl⟩ : ∃ m, n = m + 1 := ⟨n - 1, by omega⟩
    have hpin : vp_in (nI (u * 32 + i)) 256 := vp_in_nI (by omega) (by decide)
    refine ⟨h8, ?_⟩
    rw [hcu, hl]
    refine br_f (nI_ge (by omega) (by omega)) ?_
    rw [nI_add, nI_clamp (n := u * 32 + i) (by omega)]
    refine ⟨hpin, nm_e ?_⟩
    by_cases h0 : nh_S K (u * 32) i = 0
    · have ⟨k2, hS1⟩ := nh_st0 hok (by omega) h0
      have hct : nh_ct K (u * 32) (i + 1) = nh_ct K (u * 32) i := by rw [nh_ct, if_neg (by rw [k2]; decide)]
      refine br_f (fun h => hx.mp h h0) (nm_r (nI_1 i) ?_)
      have h1 := ih (i + 1) m 0 us (by omega) (by omega) ⟨fun _ => by omega, fun _ => rfl⟩ (nh_urc hr (fun q _ => nh_uun (fun h => h.1 h0))) hp
      rw [hct] at h1
      exact h1
    · refine br_t (hx.mpr h0) ?_
      by_cases k9 : K (u * 32 + i) = 9
      · have ⟨hS, hS1⟩ := nh_nine hok (by omega) k9
        have hct : nh_ct K (u * 32) (i + 1) = nh_ct K (u * 32) i + 1 := by rw [nh_ct, if_pos k9]
        have h1 := ih (i + 1) m 1 us (by omega) (by omega) ⟨fun h => absurd h (by decide), fun h => absurd hS1 h⟩ (nh_urc hr (fun q _ => nh_uun (fun h => by rw [k9] at h; exact absurd h.2 (by decide)))) hp
        rw [hct] at h1
        exact br_t k9 (nm_r (nI_1 _) (nm_r (nI_1 i) h1))
      · have hct : nh_ct K (u * 32) (i + 1) = nh_ct K (u * 32) i := by rw [nh_ct, if_neg k9]
        refine br_f k9 ?_
        by_cases k2 : K (u * 32 + i) = 2
        · obtain ⟨v, hv, hV⟩ := hTV _ k2
          refine br_t k2 ⟨hpin, ?_⟩
          rw [hV, nh_c16, nI_clamp (n := u * 16 + v) (by omega), nh_vb1]
          refine ⟨vp_in_nI (by omega) (by decide), nm_e (nm_r (nI_1 i) ?_)⟩
          have h1 := ih (i + 1) m x4 (upd us (u * 16 + v) 1) (by omega) (by omega) ⟨fun _ => nh_n9 k9, fun _ => hx.mpr h0⟩ (fun q hq => ?_) (fun us' h2 h3 => hp us' h2 (fun u' q hne hq => ?_))
          · rw [hct] at h1; exact h1
          · rw [nh_uus]
            by_cases e : q = v
            · rw [e, pk_us]; exact Or.inl ⟨rfl, Or.inr ⟨h0, k2, hV⟩⟩
            · rw [pk_un (by omega)]
              rcases hr q hq with ⟨h4, h5⟩ | ⟨h4, h5⟩
              · exact Or.inl ⟨h4, Or.inl h5⟩
              · refine Or.inr ⟨h4, fun h6 => h6.elim h5 (fun h7 => e (nh_im (by rw [← h7.2.2, hV]) (by omega) (by omega)))⟩
          · rw [h3 u' q hne hq, pk_un]
            intro e
            exact hne (by omega)
        · have h1 := ih (i + 1) m x4 us (by omega) (by omega) ⟨fun _ => nh_n9 k9, fun _ => hx.mpr h0⟩ (nh_urc hr (fun q _ => nh_uun (fun h => k2 h.2))) hp
          rw [hct] at h1
          exact br_f k2 (nm_r (nI_1 i) h1)
theorem ny_scan {U T N : Nat} {K V ln ue dc us ow st w ch ds po ps pv rc rd fS fP fN : Nat → Int32} {post : SY → Prop} {u : Nat} (hu : u < 8) (hN : N ≤ 16) (hT : T ≤ 32) (hln : ∀ u, ∃ l, l ≤ T ∧ ln u = nI l) (hTV : nh_TV N K V) (hE : nh_E K ln u = -1) (hus : ∀ m, m < 16 → us (u * 16 + m) = 0)
    (hp : ∀ us', nh_urow us' u (fun m => nh_E K ln u = -1 ∧ nh_uu K V (u * 32) (nh_L ln u) m) → (∀ u' m, u' ≠ u → m < 16 → us' (u' * 16 + m) = us (u' * 16 + m)) → post (nI U, nI T, nI N, K, V, ln, ue, upd dc u (nh_C K ln u), us', ow, st, w, ch, ds, po, ps, pv, rc, rd, fS, fP, fN)) : wpY_scanUnit post (nI U, nI T, nI N, K, V, ln, ue, dc, us, ow, st, w, ch, ds, po, ps, pv, rc, rd, fS, fP, fN) (nI u) := by
  have ⟨h1, h2⟩ := nh_Ln hT hln u
  have hok : nh_ok K (u * 32) (nh_L ln u) := nh_ok_of (by omega) hE
  refine nm_r (nh_e32 u) ⟨nh_L ln u + 1, ny_sc hu hN h1 (by omega) hTV hok (nh_L ln u) 0 _ 1 us (by omega) (by omega) ⟨fun h => absurd h (by decide), fun h => absurd (nh_S0 _ _) h⟩ (fun m hm => Or.inr ⟨hus m hm, nh_uu0⟩) (fun us' h3 h4 => ?_)⟩
  have h5 := hp us' (nh_urc h3 (fun m _ => ⟨fun h => h.2, fun h => ⟨hE, h⟩⟩)) h4
  rw [nh_C, if_pos hE] at h5
  exact h5
theorem ny_fd {U T N : Nat} {K V ln ue dc us ow st w ch ds po ps pv rc rd fS fP fN : Nat → Int32} {post : Int32 → Prop} {u L nm : Nat} (hu : u < 8) (hL0 : nh_L ln u = L) (hl : ln u = nI L) (hL : L ≤ 32) (hok : nh_ok K (u * 32) L) (h1 : ∀ i, nh_df K V (nh_L ln) u i nm → (∀ i', i' < i → ¬ nh_df K V (nh_L ln) u i' nm) → post (nI i)) (h0 : (∀ i, ¬ nh_df K V (nh_L ln) u i nm) → post (-1)) :
    ∀ (d i n : Nat) (x4 : Int32), i + d = L → d < n → (x4 = 0 ↔ ¬ nh_S K (u * 32) i = 0) → (∀ i', i' < i → ¬ nh_df K V (nh_L ln) u i' nm) → wY_findDef_11 post (nI u) (nI nm) (nI (u * 32)) (nI U) (nI T) (nI N) K V ln ue dc us ow st w ch ds po ps pv rc rd fS fP fN n x4 (nI i) := by
  have hcu : (nI u).toNatClampNeg = u := nI_clamp (by omega)
  have h8 : vp_in (nI u) 8 := vp_in_nI hu (by decide)
  intro d
  induction d with
  | zero =>
    intro i n x4 hi hn hx hno
    obtain ⟨m, rfl⟩ : ∃ m, n = m + 1 := ⟨n - 1, by omega⟩
    refine ⟨h8, ?_⟩
    rw [hcu, hl]
    refine br_t (nI_le (by omega) (by omega)) (h0 (fun i' hd => ?_))
    have h2 := hd.2.1
    exact hno i' (by omega) hd
  | succ d ih =>
    intro i n x4 hi hn hx hno
    obtain ⟨m, rfl⟩ : ∃ m, n = m + 1 := ⟨n - 1, by omega⟩
    have hpin : vp_in (nI (u * 32 + i)) 256 := vp_in_nI (by omega) (by decide)
    refine ⟨h8, ?_⟩
    rw [hcu, hl]
    refine br_f (nI_ge (by omega) (by omega)) ?_
    rw [nI_add, nI_clamp (n := u * 32 + i) (by omega)]
    by_cases hs : nh_S K (u * 32) i = 0
    · refine br_f (fun h => hx.mp h hs) ⟨hpin, ?_⟩
      by_cases hv : V (u * 32 + i) = nI nm
      · exact br_t hv (h1 i ⟨by rw [hL0]; exact hok, by omega, hs, hv⟩ hno)
      · refine br_f hv (nm_r (nI_1 i) (ih (i + 1) m 0 (by omega) (by omega) ⟨fun _ => ?_, fun _ => rfl⟩ (fun i' hi' hd => ?_)))
        · rw [(nh_st0 hok (by omega) hs).2]; decide
        · by_cases e : i' = i
          · rw [e] at hd; exact hv hd.2.2.2
          · exact hno i' (by omega) hd
    · have hno1 : ∀ i', i' < i + 1 → ¬ nh_df K V (nh_L ln) u i' nm := fun i' hi' hd => by
        by_cases e : i' = i
        · rw [e] at hd; exact hs hd.2.2.1
        · exact hno i' (by omega) hd
      refine br_t (hx.mpr hs) ⟨hpin, ?_⟩
      by_cases k9 : K (u * 32 + i) = 9
      · have ⟨_, hS1⟩ := nh_nine hok (by omega) k9
        exact br_t k9 (nm_r (nI_1 i) (ih (i + 1) m 1 (by omega) (by omega) ⟨fun h => absurd h (by decide), fun h => absurd hS1 h⟩ hno1))
      · exact br_f k9 (nm_r (nI_1 i) (ih (i + 1) m x4 (by omega) (by omega) ⟨fun _ => nh_n9 k9, fun _ => hx.mpr hs⟩ hno1))
theorem ny_findDef {U T N : Nat} {K V ln ue dc us ow st w ch ds po ps pv rc rd fS fP fN : Nat → Int32} {post : Int32 → Prop} {u nm : Nat} (hu : u < 8) (hT : T ≤ 32) (hln : ∀ u, ∃ l, l ≤ T ∧ ln u = nI l) (hE : nh_E K ln u = -1) (h1 : ∀ i, nh_df K V (nh_L ln) u i nm → (∀ i', i' < i → ¬ nh_df K V (nh_L ln) u i' nm) → post (nI i)) (h0 : (∀ i, ¬ nh_df K V (nh_L ln) u i nm) → post (-1)) : wpY_findDef post (nI U, nI T, nI N, K, V, ln, ue, dc, us, ow, st, w, ch, ds, po, ps, pv, rc, rd, fS, fP, fN) (nI u) (nI nm) := by
  have ⟨h3, h4⟩ := nh_Ln hT hln u
  have hok : nh_ok K (u * 32) (nh_L ln u) := nh_ok_of (by omega) hE
  exact nm_r (nh_e32 u) ⟨nh_L ln u + 1, ny_fd hu rfl h3 (by omega) hok h1 h0 (nh_L ln u) 0 _ 1 (by omega) (by omega) ⟨fun h => absurd h (by decide), fun h => absurd (nh_S0 _ _) h⟩ (fun i' hi' => absurd hi' (Nat.not_lt_zero i'))⟩
end
section
/-! 13: the reference over names: uses, closure, readiness -/
def nh_YF (K V : Nat → Int32) (Ln : Nat → Nat) (U N : Nat) (ow ds : Nat → Int32) : Prop := ∀ n, n < N → (¬ nh_ow K V Ln U n → ow n = -1) ∧ ∀ u s, nh_fs K V Ln U n u s → ow n = nI u ∧ ds n = nI s
theorem nh_YFo {K V : Nat → Int32} {Ln : Nat → Nat} {U N n : Nat} {ow ds : Nat → Int32} (h : nh_YF K V Ln U N ow ds) (hU : U ≤ 8) (hn : n < N) : (0 ≤ ow n ↔ nh_ow K V Ln U n) ∧ (ow n < 0 ↔ ¬ nh_ow K V Ln U n) := by
  rcases Classical.em (nh_ow K V Ln U n) with ho | ho
  · obtain ⟨u, s, hf⟩ := ho
    have hu := hf.1
    rw [((h n hn).2 u s hf).1]
    exact ⟨⟨fun _ => ⟨u, s, hf⟩, fun _ => nI_pos' (by omega)⟩, ⟨fun h => absurd h (nI_pos (by omega)), fun h => absurd ⟨u, s, hf⟩ h⟩⟩
  · rw [(h n hn).1 ho]
    exact ⟨⟨fun h => absurd h (by decide), fun h => absurd h ho⟩, ⟨fun _ => ho, fun _ => by decide⟩⟩
theorem ny_ud29 {U T N : Nat} {K V ln ue dc us ow st w ch ds po ps pv rc rd fS fP fN : Nat → Int32} {post : Int32 → Prop} {n m u s L : Nat} (hU : U ≤ 8) (hL0 : nh_L ln u = L) (hl : ln u = nI L) (hL : L ≤ 32) (hf : nh_fs K V (nh_L ln) U n u s) (h1 : nh_uq K V (nh_L ln) U n m → post 1) (h0 : ¬ nh_uq K V (nh_L ln) U n m → post 0) :
    ∀ (d i k : Nat), i + d = L → d < k → s < i → (∀ t, s < t → t < i → K (u * 32 + t) ≠ 9 ∧ ¬ (K (u * 32 + t) = 2 ∧ V (u * 32 + t) = nI m)) → wY_usesDef_29 post (nI m) (nI u) (nI (u * 32)) (nI U) (nI T) (nI N) K V ln ue dc us ow st w ch ds po ps pv rc rd fS fP fN k (nI i) := by
  have hu := hf.1
  have hcu : (nI u).toNatClampNeg = u := nI_clamp (by omega)
  have h8 : vp_in (nI u) 8 := vp_in_nI (by omega) (by decide)
  intro d
  induction d with
  | zero =>
    intro i k hi hk hs hno
    obtain ⟨q, rfl⟩ : ∃ q, k = q + 1 := ⟨k - 1, by omega⟩
    refine ⟨h8, ?_⟩
    rw [hcu, hl]
    refine br_t (nI_le (by omega) (by omega)) (h0 ?_)
    rintro ⟨u', s', j, hf', hu'⟩
    obtain ⟨e1, e2⟩ := nh_fs1 hf hf'
    rw [e1, e2] at hu'
    have hj := hu'.2.1
    exact (hno j hu'.1 (by omega)).2 ⟨hu'.2.2.2.1, hu'.2.2.2.2⟩
  | succ d ih =>
    intro i k hi hk hs hno
    obtain ⟨q, rfl⟩ : ∃ q, k = q + 1 := ⟨k - 1, by omega⟩
    have hpin : vp_in (nI (u * 32 + i)) 256 := vp_in_nI (by omega) (by decide)
    refine ⟨h8, ?_⟩
    rw [hcu, hl]
    refine br_f (nI_ge (by omega) (by omega)) ?_
    rw [nI_add, nI_clamp (n := u * 32 + i) (by omega)]
    refine ⟨hpin, ?_⟩
    by_cases k9 : K (u * 32 + i) = 9
    · refine br_t k9 (h0 ?_)
      rintro ⟨u', s', j, hf', hu'⟩
      obtain ⟨e1, e2⟩ := nh_fs1 hf hf'
      rw [e1, e2] at hu'
      by_cases hj : j < i
      · exact (hno j hu'.1 hj).2 ⟨hu'.2.2.2.1, hu'.2.2.2.2⟩
      · exact hu'.2.2.1 i hs (by omega) k9
    refine br_f k9 ⟨hpin, ?_⟩
    have hnext : ¬ (K (u * 32 + i) = 2 ∧ V (u * 32 + i) = nI m) → wY_usesDef_29 post (nI m) (nI u) (nI (u * 32)) (nI U) (nI T) (nI N) K V ln ue dc us ow st w ch ds po ps pv rc rd fS fP fN q (nI (i + 1)) := fun hne =>
      ih (i + 1) q (by omega) (by omega) (by omega) (fun t ht1 ht2 => by
        by_cases e : t = i
        · rw [e]; exact ⟨k9, hne⟩
        · exact hno t ht1 (by omega))
    by_cases k2 : K (u * 32 + i) = 2
    · refine br_t k2 ⟨hpin, ?_⟩
      by_cases hv : V (u * 32 + i) = nI m
      · refine br_t hv (h1 ⟨u, s, i, hf, hs, by omega, fun t ht1 ht2 => ?_, k2, hv⟩)
        by_cases e : t = i
        · rw [e]; exact k9
        · exact (hno t ht1 (by omega)).1
      · exact br_f hv (nm_r (nI_1 i) (hnext (fun h => hv h.2)))
    · exact br_f k2 (nm_r (nI_1 i) (hnext (fun h => k2 h.1)))
theorem ny_usesDef {U T N : Nat} {K V ln ue dc us ow st w ch ds po ps pv rc rd fS fP fN : Nat → Int32} {post : Int32 → Prop} {n m : Nat} (hU : U ≤ 8) (hN : N ≤ 16) (hT : T ≤ 32) (hln : ∀ u, ∃ l, l ≤ T ∧ ln u = nI l) (hY : nh_YF K V (nh_L ln) U N ow ds) (hn : n < N)
    (h1 : nh_uq K V (nh_L ln) U n m → post 1) (h0 : ¬ nh_uq K V (nh_L ln) U n m → post 0) : wpY_usesDef post (nI U, nI T, nI N, K, V, ln, ue, dc, us, ow, st, w, ch, ds, po, ps, pv, rc, rd, fS, fP, fN) (nI n) (nI m) := by
  have hcn : (nI n).toNatClampNeg = n := nI_clamp (by omega)
  have h16 : vp_in (nI n) 16 := vp_in_nI (by omega) (by decide)
  refine ⟨h16, ?_⟩
  rw [hcn]
  rcases Classical.em (nh_ow K V (nh_L ln) U n) with ho | ho
  · obtain ⟨u, s, hf⟩ := ho
    have hu := hf.1
    have ⟨e1, e2⟩ := (hY n hn).2 u s hf
    have ⟨hl1, hl2⟩ := nh_Ln hT hln u
    obtain ⟨hk, hs, hs0, _⟩ := hf.2.1
    have hst := nh_st0 hk hs hs0
    have hs1 : s + 2 ≤ nh_L ln u := by
      by_cases e : s + 1 = nh_L ln u
      · have h2 := hk.2
        rw [← e, hst.2] at h2
        exact absurd h2 (by decide)
      · omega
    have k8 := (nh_st1 hk (by omega) hst.2).1
    rw [e2]
    refine nm_r e1 (br_t (nI_pos' (by omega)) (nm_r (nh_e32 u) ⟨h16, nm_r (nI_add s 2) ⟨nh_L ln u - (s + 2) + 1, ?_⟩⟩))
    refine ny_ud29 hU rfl hl1 (by omega) hf h1 h0 (nh_L ln u - (s + 2)) (s + 2) _ (by omega) (by omega) (by omega) (fun t ht1 ht2 => ?_)
    rw [show t = s + 1 by omega, k8]
    exact ⟨by decide, fun h => absurd h.1 (by decide)⟩
  · refine nm_r ((hY n hn).1 ho) (br_f (by decide) (h0 ?_))
    rintro ⟨u, s, _, hf, _⟩
    exact ho ⟨u, s, hf⟩
theorem ny_noOwner {U T N : Nat} {K V ln ue dc us ow st w ch ds po ps pv rc rd fS fP fN : Nat → Int32} {post : Int32 → Prop} {n : Nat} (hU : U ≤ 8) (hN : N ≤ 16) (hT : T ≤ 32) (hln : ∀ u, ∃ l, l ≤ T ∧ ln u = nI l) (hY : nh_YF K V (nh_L ln) U N ow ds) (hn : n < N)
    (h1 : (∃ m, m < N ∧ nh_uq K V (nh_L ln) U n m ∧ ¬ nh_ow K V (nh_L ln) U m) → post 1) (h0 : (∀ m, m < N → nh_uq K V (nh_L ln) U n m → nh_ow K V (nh_L ln) U m) → post 0) : wpY_usesNoOwner post (nI U, nI T, nI N, K, V, ln, ue, dc, us, ow, st, w, ch, ds, po, ps, pv, rc, rd, fS, fP, fN) (nI n) := by
  have key : ∀ (d i k : Nat), i + d = N → d < k → (∀ m, m < i → nh_uq K V (nh_L ln) U n m → nh_ow K V (nh_L ln) U m) → wY_usesNoOwner_2 post (nI n) (nI U) (nI T) (nI N) K V ln ue dc us ow st w ch ds po ps pv rc rd fS fP fN k (nI i) := by
    intro d
    induction d with
    | zero =>
      intro i k hi hk hno
      obtain ⟨q, rfl⟩ : ∃ q, k = q + 1 := ⟨k - 1, by omega⟩
      exact br_t (nI_le (by omega) (by omega)) (h0 (fun m hm => hno m (by omega)))
    | succ d ih =>
      intro i k hi hk hno
      obtain ⟨q, rfl⟩ : ∃ q, k = q + 1 := ⟨k - 1, by omega⟩
      have hiN : i < N := by omega
      refine br_f (nI_ge hiN (by omega)) ⟨vp_in_nI (by omega) (by decide), ?_⟩
      rw [nI_clamp (n := i) (by omega), (nh_YFo hY hU hiN).1]
      refine br_c (fun ho => nm_r (nI_1 i) (ih (i + 1) q (by omega) (by omega) (fun m hm hq => ?_))) (fun ho => ny_usesDef hU hN hT hln hY hn (fun hq => br_f (by decide) (h1 ⟨i, hiN, hq, ho⟩)) (fun hq => br_t rfl (nm_r (nI_1 i) (ih (i + 1) q (by omega) (by omega) (fun m hm hq2 => ?_)))))
      · by_cases e : m = i
        · rw [e]; exact ho
        · exact hno m (by omega) hq
      · by_cases e : m = i
        · rw [e] at hq2; exact absurd hq2 hq
        · exact hno m (by omega) hq2
  exact ⟨N + 1, key N 0 (N + 1) (by omega) (by omega) (fun m hm => absurd hm (Nat.not_lt_zero m))⟩
theorem ny_cv26 {U T N : Nat} {K V ln ue dc us ow st w ch ds po ps pv rc rd fS fP fN : Nat → Int32} {post : SY → Prop} {J : Int32 → (Nat → Int32) → (Nat → Int32) → (Nat → Int32) → (Nat → Int32) → (Nat → Int32) → (Nat → Int32) → (Nat → Int32) → (Nat → Int32) → (Nat → Int32) → (Nat → Int32) → (Nat → Int32) → (Nat → Int32) → (Nat → Int32) → (Nat → Int32) → (Nat → Int32) → (Nat → Int32) → (Nat → Int32) → (Nat → Int32) → (Nat → Int32) → Prop} {O : Nat → Prop} {Q : Nat → Nat → Prop} {k a : Nat} (hN : N ≤ 16) (hk : k < N) (ha : a < N) (hR : nh_TI O Q N k a 0 rc) (hak : nh_rl O Q k a k) (hJ : ∀ rc', nh_TI O Q N k (a + 1) 0 rc' → J (nI (a + 1)) K V ln ue dc us ow st w ch ds po ps pv rc' rd fS fP fN) :
    ∃ n, wY_closeVia_26 post J (nI k) (nI a) (nI U) (nI T) (nI N) n 0 K V ln ue dc us ow st w ch ds po ps pv rc rd fS fP fN := by
  refine loop_0 (σ := Nat → Int32) (fun n i s => wY_closeVia_26 post J (nI k) (nI a) (nI U) (nI T) (nI N) n (nI i) K V ln ue dc us ow st w ch ds po ps pv s rd fS fP fN) (fun i s => nh_TI O Q N k a i s) N rc hR (fun n s h => ?_) (fun n i s hi h hs => ?_)
  · exact br_t (nI_le (Nat.le_refl N) (by omega)) (nm_r (nI_1 a) (hJ s (nh_TIn h)))
  · refine br_f (nI_ge hi (by omega)) ?_
    rw [nh_c16, nI_clamp (n := k * 16 + i) (by omega)]
    refine ⟨vp_in_nI (by omega) (by decide), ?_⟩
    rw [nh_TIk h hk hi]
    refine br_c (fun h1 => nm_r (nI_1 i) (hs _ (nh_TIf h h1))) (fun h1 => ?_)
    rw [nh_c16, nI_clamp (n := a * 16 + i) (by omega), nh_vb1]
    refine ⟨vp_in_nI (by omega) (by decide), nm_e (nm_r (nI_1 i) (hs _ (nh_TIt h hN hi hak ?_ (by decide))))⟩
    exact Classical.not_not.mp h1
theorem ny_closeVia {U T N : Nat} {K V ln ue dc us ow st w ch ds po ps pv rc rd fS fP fN : Nat → Int32} {post : SY → Prop} {O : Nat → Prop} {Q : Nat → Nat → Prop} {k : Nat} (hN : N ≤ 16) (hk : k < N) (hR : nh_TR O Q N k rc) (hp : ∀ rc', nh_TR O Q N (k + 1) rc' → post (nI U, nI T, nI N, K, V, ln, ue, dc, us, ow, st, w, ch, ds, po, ps, pv, rc', rd, fS, fP, fN)) : wpY_closeVia post (nI U, nI T, nI N, K, V, ln, ue, dc, us, ow, st, w, ch, ds, po, ps, pv, rc, rd, fS, fP, fN) (nI k) := by
  refine loop_0 (σ := Nat → Int32) (fun n i s => wY_closeVia_2 post (nI k) (nI U) (nI T) (nI N) n (nI i) K V ln ue dc us ow st w ch ds po ps pv s rd fS fP fN) (fun i s => nh_TI O Q N k i 0 s) N rc (nh_TI0 hR) (fun n s h => ?_) (fun n i s hi h hs => ?_)
  · exact br_t (nI_le (Nat.le_refl N) (by omega)) (hp s (nh_TIe h))
  · refine br_f (nI_ge hi (by omega)) ?_
    rw [nh_c16, nI_clamp (n := i * 16 + k) (by omega)]
    refine ⟨vp_in_nI (by omega) (by decide), ?_⟩
    rw [nh_TIi h hk hi]
    exact br_c (fun h1 => nm_r (nI_1 i) (hs _ (nh_TIs h h1))) (fun h1 => ny_cv26 hN hk hi h (Classical.not_not.mp h1) (fun rc' h' => hs rc' h'))
theorem ny_depState {U T N : Nat} {K V ln ue dc us ow st w ch ds po ps pv rc rd fS fP fN : Nat → Int32} {post : Int32 → Prop} {n : Nat} (hU : U ≤ 8) (hN : N ≤ 16) (hT : T ≤ 32) (hln : ∀ u, ∃ l, l ≤ T ∧ ln u = nI l) (hY : nh_YF K V (nh_L ln) U N ow ds) (hn : n < N)
    (hm1 : (∃ m, m < N ∧ nh_uq K V (nh_L ln) U n m ∧ rd m = 0) → post (-1))
    (h1 : (∃ m, m < N ∧ nh_uq K V (nh_L ln) U n m ∧ ¬ rd m = 0 ∧ ¬ st m = 1) → post 1)
    (h0 : (∀ m, m < N → nh_uq K V (nh_L ln) U n m → ¬ rd m = 0 ∧ st m = 1) → post 0) : wpY_depState post (nI U, nI T, nI N, K, V, ln, ue, dc, us, ow, st, w, ch, ds, po, ps, pv, rc, rd, fS, fP, fN) (nI n) := by
  have key : ∀ (d i k : Nat) (x2 : Int32), i + d = N → d < k → (x2 = 0 → ∀ m, m < i → nh_uq K V (nh_L ln) U n m → ¬ rd m = 0 ∧ st m = 1) → (¬ x2 = 0 → ∃ m, m < i ∧ nh_uq K V (nh_L ln) U n m ∧ ¬ rd m = 0 ∧ ¬ st m = 1) → wY_depState_4 post (nI n) (nI U) (nI T) (nI N) K V ln ue dc us ow st w ch ds po ps pv rc rd fS fP fN k x2 (nI i) := by
    intro d
    induction d with
    | zero =>
      intro i k x2 hi hk ha hb
      obtain ⟨q, rfl⟩ : ∃ q, k = q + 1 := ⟨k - 1, by omega⟩
      refine br_t (nI_le (by omega) (by omega)) (br_c (fun h => h0 (fun m hm => ha h m (by omega))) (fun h => h1 ?_))
      obtain ⟨m, hm, h2⟩ := hb h
      exact ⟨m, by omega, h2⟩
    | succ d ih =>
      intro i k x2 hi hk ha hb
      obtain ⟨q, rfl⟩ : ∃ q, k = q + 1 := ⟨k - 1, by omega⟩
      have hiN : i < N := by omega
      have h16 : vp_in (nI i) 16 := vp_in_nI (by omega) (by decide)
      have hb1 : ¬ x2 = 0 → ∃ m, m < i + 1 ∧ nh_uq K V (nh_L ln) U n m ∧ ¬ rd m = 0 ∧ ¬ st m = 1 := fun h => by
        obtain ⟨m, hm, h2⟩ := hb h
        exact ⟨m, by omega, h2⟩
      refine br_f (nI_ge hiN (by omega)) (ny_usesDef hU hN hT hln hY hn (fun hq => br_f (by decide) ⟨h16, ?_⟩) (fun hq => br_t rfl (nm_r (nI_1 i) (ih (i + 1) q x2 (by omega) (by omega) (fun h m hm hq2 => ?_) hb1))))
      · rw [nI_clamp (n := i) (by omega)]
        refine br_c (fun hr => hm1 ⟨i, hiN, hq, hr⟩) (fun hr => ⟨h16, br_c (fun hs => nm_r (nI_1 i) (ih (i + 1) q x2 (by omega) (by omega) (fun h m hm hq2 => ?_) hb1)) (fun hs => nm_r (nI_1 i) (ih (i + 1) q 1 (by omega) (by omega) (fun h => absurd h (by decide)) (fun _ => ⟨i, by omega, hq, hr, hs⟩)))⟩)
        by_cases e : m = i
        · rw [e]; exact ⟨hr, hs⟩
        · exact ha h m (by omega) hq2
      · by_cases e : m = i
        · rw [e] at hq2; exact absurd hq2 hq
        · exact ha h m (by omega) hq2
  exact ⟨N + 1, key N 0 (N + 1) 0 (by omega) (by omega) (fun _ m hm => absurd hm (Nat.not_lt_zero m)) (fun h => absurd rfl h)⟩
end
section
/-! 14: the reference's value of an expr is X's -/
def nh_sg (x : Int32) : Int32 := if x = 0 then 1 else -1
theorem nh_sg0 : nh_sg 0 = 1 := by decide
theorem nh_sgz {b : Int32} (h : b = 0) : nh_sg b = 1 := if_pos h
theorem nh_sgn {b : Int32} (h : ¬ b = 0) : nh_sg b = -1 := if_neg h
theorem nh_r1 (x : Int32) : x = 1 * x := by grind
theorem nh_r2 (x : Int32) : 0 - x = -1 * x := by grind
theorem nh_r3 (g p x : Int32) : g * p * x = 1 * (p * (g * x)) := by grind
theorem nh_r4 (p : Int32) : -(1 * p) = -1 * p := by grind
theorem nh_r5 (p : Int32) : -(-1 * p) = 1 * p := by grind
theorem nh_r6 (s p : Int32) : s + 1 * p = s + p := by grind
theorem ny_operand {U T N : Nat} {K V ln ue dc us ow st w ch ds po ps pv rc rd fS fP fN : Nat → Int32} {post : Int32 → SY → Prop} {J : Int32 → Int32 → Int32 → (Nat → Int32) → (Nat → Int32) → (Nat → Int32) → (Nat → Int32) → (Nat → Int32) → (Nat → Int32) → (Nat → Int32) → (Nat → Int32) → (Nat → Int32) → (Nat → Int32) → (Nat → Int32) → (Nat → Int32) → (Nat → Int32) → (Nat → Int32) → (Nat → Int32) → (Nat → Int32) → (Nat → Int32) → (Nat → Int32) → (Nat → Int32) → Prop} {x1 x3 x5 x8 : Int32} {d i : Nat} (hd : d < 34)
    (hJ : J (nI d) 1 (nI (i + 1)) K V ln ue dc us ow st w ch ds po ps pv rc rd fS (upd fP d (fP d * (nh_sg (fN d) * x8))) (upd fN d 0)) : wY_eval_332 post J x1 x3 (nI d) x5 (nI i) x8 1 (nI U) (nI T) (nI N) K V ln ue dc us ow st w ch ds po ps pv rc rd fS fP fN := by
  have hin : vp_in (nI d) 34 := vp_in_nI hd (by decide)
  have hcd : (nI d).toNatClampNeg = d := nI_clamp (by omega)
  have h353 : ∀ y, y = nh_sg (fN d) * x8 → wY_eval_353 post J x1 x3 (nI d) (nI i) y (nI U) (nI T) (nI N) K V ln ue dc us ow st w ch ds po ps pv rc rd fS fP fN := by
    intro y hy
    subst hy
    refine ⟨hin, ?_⟩
    rw [hcd, nh_vb0]
    exact nm_e ⟨hin, hin, nm_e (nm_r (nI_1 i) hJ)⟩
  refine br_f (by decide) ⟨hin, ?_⟩
  rw [hcd]
  refine br_c (fun h => h353 _ ?_) (fun h => nm_e (h353 _ ?_))
  · rw [nh_sgz h]; exact nh_r1 x8
  · rw [nh_sgn h]; exact nh_r2 x8
theorem ny_ev {U T N : Nat} {K V ln ue dc us ow st w ch ds po ps pv rc rd : Nat → Int32} {post : Int32 → SY → Prop} {u L : Nat} (hu : u < 8) (hN : N ≤ 16) (hl : ln u = nI L) (hL : L ≤ 32) (hTV : nh_TV N K V) (hok : nh_ok K (u * 32) L) :
    ∀ (f i n : Nat) (x5 : Int32) (d : Nat) (af : Bool) (t q : Int32) (oT oP fS fP fN : Nat → Int32), i + f = L → f < n → d + f ≤ 32 → (nh_S K (u * 32) i = 2 ∨ nh_S K (u * 32) i = 3) → nh_D K (u * 32) i = d →
    (x5 = 0 ↔ ¬ nh_S K (u * 32) i = 3) → (af = true ↔ nh_S K (u * 32) i = 3) → t = fS d → q = nh_sg (fN d) * fP d → (nh_S K (u * 32) i = 3 → fN d = 0) → (∀ j, j < d → oT j = fS j ∧ oP j = nh_sg (fN j) * fP j) →
    (∀ fS' fP' fN', post (nh_pe K V w f (u * 32 + i) af d t q oT oP) (nI U, nI T, nI N, K, V, ln, ue, dc, us, ow, st, w, ch, ds, po, ps, pv, rc, rd, fS', fP', fN')) → wY_eval_37 post (nI u) (nI (u * 32)) (nI U) (nI T) (nI N) n (nI d) x5 (nI i) K V ln ue dc us ow st w ch ds po ps pv rc rd fS fP fN := by
  have hcu : (nI u).toNatClampNeg = u := nI_clamp (by omega)
  have h8 : vp_in (nI u) 8 := vp_in_nI hu (by decide)
  intro f
  induction f with
  | zero =>
    intro i n x5 d af t q oT oP fS fP fN hi hn hdf hS hD hx haf ht hq h3 hst hp
    have e : i = L := by omega
    have h0 := hok.2
    rw [← e] at h0
    omega
  | succ f ih =>
    intro i n x5 d af t q oT oP fS fP fN hi hn hdf hS hD hx haf ht hq h3 hst hp
    obtain ⟨m, rfl⟩ : ∃ m, n = m + 1 := ⟨n - 1, by omega⟩
    have hpin : vp_in (nI (u * 32 + i)) 256 := vp_in_nI (by omega) (by decide)
    have hin : vp_in (nI d) 34 := vp_in_nI (by omega) (by decide)
    have hcd : (nI d).toNatClampNeg = d := nI_clamp (by omega)
    have ea : u * 32 + i + 1 = u * 32 + (i + 1) := rfl
    rw [nh_peS, ea] at hp
    refine ⟨h8, ?_⟩
    rw [hcu, hl]
    refine br_f (nI_ge (by omega) (by omega)) ?_
    rw [nI_add, nI_clamp (n := u * 32 + i) (by omega)]
    refine ⟨hpin, nm_e ?_⟩
    rcases hS with hS | hS
    · -- an operand is wanted
      have hx0 : x5 = 0 := hx.mpr (by omega)
      have haf0 : ¬ af = true := fun h => by have := haf.mp h; omega
      rcases nh_st2 hok (by omega) hS with ⟨hk, hS1⟩ | ⟨hk, hS1⟩
      · have h67 : ¬ K (u * 32 + i) = 6 ∧ ¬ K (u * 32 + i) = 7 ∧ ¬ K (u * 32 + i) = 9 := by
          rcases hk with hk | hk
          · rw [hk]; decide
          · rw [hk]; decide
        have hD1 := nh_Dn (K := K) (b := u * 32) (i := i) h67.1 h67.2.1
        rw [if_neg h67.2.2] at hp
        refine br_f h67.2.2 ?_
        have hgo : ∀ x8, (∀ fS' fP' fN', post (nh_pe K V w f (u * 32 + (i + 1)) true d t (q * x8) oT oP) (nI U, nI T, nI N, K, V, ln, ue, dc, us, ow, st, w, ch, ds, po, ps, pv, rc, rd, fS', fP', fN')) →
            wY_eval_332 post (wY_eval_37 post (nI u) (nI (u * 32)) (nI U) (nI T) (nI N) m) (nI u) (nI (u * 32)) (nI d) x5 (nI i) x8 1 (nI U) (nI T) (nI N) K V ln ue dc us ow st w ch ds po ps pv rc rd fS fP fN := by
          intro x8 hp8
          refine ny_operand (by omega) (ih (i + 1) m 1 d true t (q * x8) oT oP fS _ _ (by omega) (by omega) (by omega) (Or.inr hS1) (by rw [hD1]; exact hD) ⟨fun h => absurd h (by decide), fun h => absurd hS1 h⟩ ⟨fun _ => hS1, fun _ => rfl⟩ ht ?_ (fun _ => pk_us) (fun j hj => ?_) hp8)
          · rw [pk_us, pk_us, nh_sg0, hq]; exact nh_r3 _ _ _
          · rw [pk_un (by omega), pk_un (by omega)]; exact hst j hj
        by_cases k1 : K (u * 32 + i) = 1
        · rw [if_pos k1] at hp
          exact br_t k1 ⟨hpin, nm_e (hgo _ hp)⟩
        · have k2 : K (u * 32 + i) = 2 := hk.elim (fun h => absurd h k1) id
          obtain ⟨v, hv, hV⟩ := hTV _ k2
          rw [if_neg k1, if_pos k2] at hp
          refine br_f k1 (br_t k2 ⟨hpin, ?_, nm_e (hgo _ hp)⟩)
          rw [hV]; exact vp_in_nI (by omega) (by decide)
      · have h7 : ¬ K (u * 32 + i) = 9 ∧ ¬ K (u * 32 + i) = 1 ∧ ¬ K (u * 32 + i) = 2 ∧ ¬ K (u * 32 + i) = 7 ∧ ¬ K (u * 32 + i) = 3 := by
          rcases hk with hk | hk
          · rw [hk]; decide
          · rw [hk]; decide
        rw [if_neg h7.1, if_neg h7.2.1, if_neg h7.2.2.1, if_neg h7.2.2.2.2] at hp
        refine br_f h7.1 (br_f h7.2.1 (br_f h7.2.2.1 ?_))
        by_cases k6 : K (u * 32 + i) = 6
        · have k4 : ¬ K (u * 32 + i) = 4 := by rw [k6]; decide
          rw [if_neg k4, if_pos k6] at hp
          have hin1 : vp_in (nI (d + 1)) 34 := vp_in_nI (by omega) (by decide)
          refine br_t k6 (br_f (nI_ge (b := 33) (by omega) (by decide)) (nm_r (nI_1 d) ?_))
          rw [nI_clamp (n := d + 1) (by omega), nh_vb0]
          refine ⟨hin1, nm_e ⟨hin1, nm_e ⟨hin1, nm_e (br_t rfl (nm_r (nI_1 i) ?_))⟩⟩⟩
          refine ih (i + 1) m x5 (d + 1) false 0 1 _ _ _ _ _ (by omega) (by omega) (by omega) (Or.inl hS1) (by rw [nh_D6 k6, hD]) ⟨fun _ => by omega, fun _ => hx0⟩ ⟨fun h => absurd h (by decide), fun h => by omega⟩ pk_us.symm ?_ (fun h => by omega) (fun j hj => ?_) hp
          · rw [pk_us, pk_us, nh_sg0]; decide
          · by_cases e : j = d
            · subst e
              rw [pk_us, pk_us, pk_un (by omega), pk_un (by omega), pk_un (by omega)]
              exact ⟨ht, hq⟩
            · rw [pk_un e, pk_un e, pk_un (by omega), pk_un (by omega), pk_un (by omega)]
              exact hst j (by omega)
        · have k4 : K (u * 32 + i) = 4 := hk.elim id (fun h => absurd h k6)
          have hD1 := nh_Dn (K := K) (b := u * 32) (i := i) k6 h7.2.2.2.1
          rw [if_pos k4, if_neg haf0] at hp
          refine br_f k6 (br_f h7.2.2.2.1 (br_f h7.2.2.2.2 (br_t k4 (br_t hx0 ⟨hin, ?_⟩))))
          rw [hcd]
          refine br_c (fun hz => ⟨hin, ?_⟩) (fun hz => ⟨hin, ?_⟩)
          · rw [hcd, nh_vb1]
            refine nm_e (br_t rfl (nm_r (nI_1 i) (ih (i + 1) m x5 d false t (-q) oT oP fS fP _ (by omega) (by omega) (by omega) (Or.inl hS1) (by rw [hD1]; exact hD) ⟨fun _ => by omega, fun _ => hx0⟩ ⟨fun h => absurd h (by decide), fun h => by omega⟩ ht ?_ (fun h => by omega) (fun j hj => ?_) hp)))
            · rw [pk_us, nh_sgn (by decide), hq, nh_sgz hz]; exact nh_r4 _
            · rw [pk_un (by omega)]; exact hst j hj
          · rw [hcd, nh_vb0]
            refine nm_e (br_t rfl (nm_r (nI_1 i) (ih (i + 1) m x5 d false t (-q) oT oP fS fP _ (by omega) (by omega) (by omega) (Or.inl hS1) (by rw [hD1]; exact hD) ⟨fun _ => by omega, fun _ => hx0⟩ ⟨fun h => absurd h (by decide), fun h => by omega⟩ ht ?_ (fun h => by omega) (fun j hj => ?_) hp)))
            · rw [pk_us, nh_sg0, hq, nh_sgn hz]; exact nh_r5 _
            · rw [pk_un (by omega)]; exact hst j hj
    · -- an operator is wanted
      have hx1 : ¬ x5 = 0 := fun h => hx.mp h hS
      have haf1 : af = true := haf.mpr hS
      have hz := h3 hS
      have hq1 : q = fP d := by rw [hq, nh_sgz hz]; exact (nh_r1 _).symm
      rcases nh_st3 hok (by omega) hS with ⟨hk, hS1⟩ | ⟨k7, hpos, hS1⟩ | ⟨k9, hD0, hS1⟩
      · have h7 : ¬ K (u * 32 + i) = 9 ∧ ¬ K (u * 32 + i) = 1 ∧ ¬ K (u * 32 + i) = 2 ∧ ¬ K (u * 32 + i) = 6 ∧ ¬ K (u * 32 + i) = 7 := by
          rcases hk with hk | hk | hk
          · rw [hk]; decide
          · rw [hk]; decide
          · rw [hk]; decide
        have hD1 := nh_Dn (K := K) (b := u * 32) (i := i) h7.2.2.2.1 h7.2.2.2.2
        rw [if_neg h7.1, if_neg h7.2.1, if_neg h7.2.2.1] at hp
        refine br_f h7.1 (br_f h7.2.1 (br_f h7.2.2.1 (br_f h7.2.2.2.1 (br_f h7.2.2.2.2 ?_))))
        have T2 : (0 : Int32) = 0 ↔ ¬ nh_S K (u * 32) (i + 1) = 3 := ⟨fun _ => by omega, fun _ => rfl⟩
        have A2 : false = true ↔ nh_S K (u * 32) (i + 1) = 3 := ⟨fun h => absurd h (by decide), fun h => by omega⟩
        by_cases k3 : K (u * 32 + i) = 3
        · rw [if_pos k3] at hp
          refine br_t k3 ⟨hin, hin, hin, ?_⟩
          rw [hcd]
          refine nm_e ⟨hin, nm_e (br_t rfl (nm_r (nI_1 i) (ih (i + 1) m 0 d false (t + q) 1 oT oP _ _ fN (by omega) (by omega) (by omega) (Or.inl hS1) (by rw [hD1]; exact hD) T2 A2 ?_ ?_ (fun h => by omega) (fun j hj => ?_) hp)))⟩
          · rw [pk_us, ht, hq1]
          · rw [pk_us, nh_sgz hz]; decide
          · rw [pk_un (by omega), pk_un (by omega)]; exact hst j hj
        rw [if_neg k3] at hp
        refine br_f k3 ?_
        by_cases k4 : K (u * 32 + i) = 4
        · rw [if_pos k4, if_pos haf1] at hp
          refine br_t k4 (br_f hx1 ⟨hin, hin, hin, ?_⟩)
          rw [hcd]
          refine nm_e ⟨hin, nm_e (br_t rfl (nm_r (nI_1 i) (ih (i + 1) m 0 d false (t + q) (-1) oT oP _ _ fN (by omega) (by omega) (by omega) (Or.inl hS1) (by rw [hD1]; exact hD) T2 A2 ?_ ?_ (fun h => by omega) (fun j hj => ?_) hp)))⟩
          · rw [pk_us, ht, hq1]
          · rw [pk_us, nh_sgz hz]; decide
          · rw [pk_un (by omega), pk_un (by omega)]; exact hst j hj
        rw [if_neg k4, if_neg h7.2.2.2.1, if_neg h7.2.2.2.2] at hp
        have k5 : K (u * 32 + i) = 5 := hk.elim (fun h => absurd h k3) (fun h => h.elim (fun h => absurd h k4) id)
        exact br_f k4 (br_t k5 (br_t rfl (nm_r (nI_1 i) (ih (i + 1) m 0 d false t q oT oP fS fP fN (by omega) (by omega) (by omega) (Or.inl hS1) (by rw [hD1]; exact hD) T2 A2 ht hq (fun h => by omega) hst hp))))
      · have h7 : ¬ K (u * 32 + i) = 9 ∧ ¬ K (u * 32 + i) = 1 ∧ ¬ K (u * 32 + i) = 2 ∧ ¬ K (u * 32 + i) = 6 ∧ ¬ K (u * 32 + i) = 3 ∧ ¬ K (u * 32 + i) = 4 := by
          rw [k7]; decide
        rw [if_neg h7.1, if_neg h7.2.1, if_neg h7.2.2.1, if_neg h7.2.2.2.2.1, if_neg h7.2.2.2.2.2, if_neg h7.2.2.2.1, if_pos k7, if_neg (by omega)] at hp
        refine br_f h7.1 (br_f h7.2.1 (br_f h7.2.2.1 (br_f h7.2.2.2.1 (br_t k7 ⟨hin, hin, ?_⟩))))
        rw [hcd]
        refine nm_e (br_f (nI_nle (by omega) (by omega)) (nm_r (e' := nI (d - 1)) ?_ ?_))
        · obtain ⟨z, hz1⟩ : ∃ z, d = z + 1 := ⟨d - 1, by omega⟩
          rw [hz1]; exact pk_m1 z
        · have hst1 := hst (d - 1) (by omega)
          refine ny_operand (by omega) (ih (i + 1) m 1 (d - 1) true (oT (d - 1)) (oP (d - 1) * (t + q)) oT oP fS _ _ (by omega) (by omega) (by omega) (Or.inr hS1) (by rw [nh_D7 k7, hD]) ⟨fun h => absurd h (by decide), fun h => absurd hS1 h⟩ ⟨fun _ => hS1, fun _ => rfl⟩ hst1.1 ?_ (fun _ => pk_us) (fun j hj => ?_) hp)
          · rw [pk_us, pk_us, nh_sg0, hst1.2, ht, hq1]; exact nh_r3 _ _ _
          · rw [pk_un (by omega), pk_un (by omega)]; exact hst j (by omega)
      · rw [if_pos k9] at hp
        have hd0 : d = 0 := by omega
        subst hd0
        refine br_t k9 ?_
        have h9 := hp fS fP fN
        rw [ht, hq1] at h9
        exact h9
theorem ny_eval {U T N : Nat} {K V ln ue dc us ow st w ch ds po ps pv rc rd fS fP fN : Nat → Int32} {post : Int32 → SY → Prop} {n u s : Nat} (hU : U ≤ 8) (hN : N ≤ 16) (hT : T ≤ 32) (hln : ∀ u, ∃ l, l ≤ T ∧ ln u = nI l) (hTV : nh_TV N K V) (hf : nh_fs K V (nh_L ln) U n u s)
    (hp : ∀ fS' fP' fN', post (nh_ev K V (nh_L ln) w u s) (nI U, nI T, nI N, K, V, ln, ue, dc, us, ow, st, w, ch, ds, po, ps, pv, rc, rd, fS', fP', fN')) : wpY_eval post (nI U, nI T, nI N, K, V, ln, ue, dc, us, ow, st, w, ch, ds, po, ps, pv, rc, rd, fS, fP, fN) (nI u) (nI s) := by
  have ⟨hl1, hl2⟩ := nh_Ln hT hln u
  have hu := hf.1
  obtain ⟨hk, hs, hs0, _⟩ := hf.2.1
  have hst := nh_st0 hk hs hs0
  have hs1 : s + 2 ≤ nh_L ln u := by
    by_cases e : s + 1 = nh_L ln u
    · have h2 := hk.2
      rw [← e, hst.2] at h2
      exact absurd h2 (by decide)
    · omega
  have hst1 := nh_st1 hk (by omega) hst.2
  have hD2 : nh_D K (u * 32) (s + 2) = 0 := by
    have h1 := nh_D00 K (u * 32) (s + 1) (by omega)
    have h2 := nh_Dn (K := K) (b := u * 32) (i := s + 1) (by rw [hst1.1]; decide) (by rw [hst1.1]; decide)
    exact h2.trans h1
  refine nm_r (nh_e32 u) (nm_e (nm_e ?_))
  rw [nh_vb0]
  refine nm_e (nm_r (nI_add s 2) ⟨nh_L ln u - (s + 2) + 1, ?_⟩)
  refine ny_ev (by omega) hN hl1 (by omega) hTV hk (nh_L ln u - (s + 2)) (s + 2) _ 0 0 false 0 1 nh_z0 nh_z0 _ _ _ (by omega) (by omega) (by omega) (Or.inl hst1.2) hD2 ⟨fun _ => ?_, fun _ => rfl⟩ ⟨fun h => absurd h (by decide), fun h => ?_⟩ pk_us.symm ?_ (fun h => pk_us) (fun j hj => absurd hj (Nat.not_lt_zero j)) hp
  · rw [hst1.2]; decide
  · rw [hst1.2] at h; exact absurd h (by decide)
  · rw [pk_us, pk_us, nh_sg0]; decide
end
section
/-! 15: the reference builds -/
def nh_hi (N : Nat) (f g : Nat → Int32) : Prop := ∀ n, N ≤ n → f n = g n
theorem nh_hiu {N i : Nat} {f g : Nat → Int32} {v : Int32} (h : nh_hi N f g) (hi : i < N) : nh_hi N (upd f i v) g := fun n hn => by
  rw [pk_un (by omega)]; exact h n hn
theorem nh_mxq {N : Nat} {f f' g : Nat → Int32} (h : ∀ n, n < N → f' n = f n) (h2 : nh_hi N f' g) : f' = nh_mx N f g := by
  funext n
  by_cases e : n < N
  · rw [nh_mxl e, h n e]
  · rw [nh_mxg (by omega), h2 n (by omega)]
theorem ny_p591 {U T N : Nat} {K V ln ue dc us ow st w ch ds po ps pv rc rd fS fP fN : Nat → Int32} {post : Int32 → SY → Prop} {J : Int32 → Int32 → (Nat → Int32) → (Nat → Int32) → (Nat → Int32) → (Nat → Int32) → (Nat → Int32) → (Nat → Int32) → (Nat → Int32) → (Nat → Int32) → (Nat → Int32) → (Nat → Int32) → (Nat → Int32) → (Nat → Int32) → (Nat → Int32) → (Nat → Int32) → (Nat → Int32) → (Nat → Int32) → (Nat → Int32) → (Nat → Int32) → (Nat → Int32) → Prop} {i : Nat} {c : Nat → Int32} {z : Int32} (hi : i < 16) (hz : z = 0 ∨ z = 1) (hc : c i = z)
    (hJ : J (nI (nh_cc c (i + 1))) (nI (i + 1)) K V ln ue dc us ow st w (nh_mx (i + 1) c ch) ds po ps pv rc rd fS fP fN) : wY_build_591 post J (nI (nh_cc c i)) (nI i) z (nI i) (nI U) (nI T) (nI N) K V ln ue dc us ow st w (nh_mx i c ch) ds po ps pv rc rd fS fP fN := by
  have h16 : vp_in (nI i) 16 := vp_in_nI hi (by decide)
  have hci : (nI i).toNatClampNeg = i := nI_clamp (by omega)
  have hv : vp_nar .boolean z = c i := by
    rw [hc]
    rcases hz with e | e
    · rw [e]; exact nh_vb0
    · rw [e]; exact nh_vb1
  refine ⟨h16, ?_⟩
  rw [hci, hv]
  refine nm_r (nh_mxs i c ch) ⟨h16, ?_⟩
  rw [nh_mxl (Nat.lt_succ_self i), hc]
  rcases hz with e | e
  · have e2 : nh_cc c (i + 1) = nh_cc c i := by rw [nh_cc, if_pos (hc.trans e)]
    rw [e2] at hJ
    exact br_t e (nm_r (nI_1 i) hJ)
  · have e2 : nh_cc c (i + 1) = nh_cc c i + 1 := by rw [nh_cc, if_neg (by rw [hc, e]; decide)]
    rw [e2] at hJ
    exact br_f (by rw [e]; decide) (nm_r (nI_1 _) (nm_r (nI_1 i) hJ))
theorem ny_528 {U T N : Nat} {K V ln ue dc us ow st w ch ds po ps pv rc rd fS fP fN : Nat → Int32} {post : Int32 → SY → Prop} (hN : N ≤ 16) (hp : post (nI (nh_cc (nh_ch ow st w po ps pv) N)) (nI U, nI T, nI N, K, V, ln, ue, dc, us, ow, st, w, nh_mx N (nh_ch ow st w po ps pv) ch, ds, po, ps, pv, rc, rd, fS, fP, fN)) : ∃ n, wY_build_528 post (nI U) (nI T) (nI N) n 0 0 K V ln ue dc us ow st w ch ds po ps pv rc rd fS fP fN := by
  have key : ∀ (d i n : Nat), i + d = N → d < n → wY_build_528 post (nI U) (nI T) (nI N) n (nI (nh_cc (nh_ch ow st w po ps pv) i)) (nI i) K V ln ue dc us ow st w (nh_mx i (nh_ch ow st w po ps pv) ch) ds po ps pv rc rd fS fP fN := by
    intro d
    induction d with
    | zero =>
      intro i n hid hn
      obtain ⟨m, rfl⟩ : ∃ m, n = m + 1 := ⟨n - 1, by omega⟩
      have e : i = N := by omega
      subst e
      exact br_t (nI_le (Nat.le_refl _) (by omega)) hp
    | succ d ih =>
      intro i n hid hn
      obtain ⟨m, rfl⟩ : ∃ m, n = m + 1 := ⟨n - 1, by omega⟩
      have hi : i < 16 := by omega
      have h16 : vp_in (nI i) 16 := vp_in_nI hi (by decide)
      have hJ := ih (i + 1) m (by omega) (by omega)
      refine br_f (nI_ge (by omega) (by omega)) ⟨h16, h16, ?_⟩
      rw [nI_clamp (n := i) (by omega)]
      by_cases e1 : ow i = po i
      · refine br_t e1 ⟨h16, h16, ?_⟩
        by_cases e2 : st i = ps i
        · refine br_t e2 ⟨h16, h16, ?_⟩
          by_cases e3 : w i = pv i
          · exact br_t e3 (ny_p591 hi (Or.inl rfl) (if_pos ⟨e1, e2, e3⟩) hJ)
          · exact br_f e3 (ny_p591 hi (Or.inr rfl) (if_neg (fun h => e3 h.2.2)) hJ)
        · exact br_f e2 (ny_p591 hi (Or.inr rfl) (if_neg (fun h => e2 h.2.1)) hJ)
      · exact br_f e1 (ny_p591 hi (Or.inr rfl) (if_neg (fun h => e1 h.1)) hJ)
  have h0 := key N 0 (N + 1) (by omega) (by omega)
  rw [nh_mx0] at h0
  exact ⟨N + 1, h0⟩
theorem ny_427 {U T N : Nat} {K V ln ue dc us ow ch ds po ps pv rc : Nat → Int32} {post : Int32 → SY → Prop} {J : Int32 → Int32 → Int32 → Int32 → (Nat → Int32) → (Nat → Int32) → (Nat → Int32) → (Nat → Int32) → (Nat → Int32) → (Nat → Int32) → (Nat → Int32) → (Nat → Int32) → (Nat → Int32) → (Nat → Int32) → (Nat → Int32) → (Nat → Int32) → (Nat → Int32) → (Nat → Int32) → (Nat → Int32) → (Nat → Int32) → (Nat → Int32) → (Nat → Int32) → (Nat → Int32) → Prop} {r : Nat} {sX xX st0 w0 : Nat → Int32} (hU : U ≤ 8) (hN : N ≤ 16) (hT : T ≤ 32) (hln : ∀ u, ∃ l, l ≤ T ∧ ln u = nI l) (hTV : nh_TV N K V) (hY : nh_YF K V (nh_L ln) U N ow ds)
    (hsol : nh_sol (nh_ow K V (nh_L ln) U) (nh_uq K V (nh_L ln) U) (nh_vl K V (nh_L ln) U) N sX xX)
    (hJ : ∀ st w rd fS fP fN, nh_YS (nh_ow K V (nh_L ln) U) (nh_uq K V (nh_L ln) U) N (r + 1) 0 sX xX st w rd → nh_hi N st st0 → nh_hi N w w0 → J (nI (r + 1)) (nI U) (nI T) (nI N) K V ln ue dc us ow st w ch ds po ps pv rc rd fS fP fN) :
    ∀ (d i k : Nat) (st w rd fS fP fN : Nat → Int32), i + d = N → d < k → nh_YS (nh_ow K V (nh_L ln) U) (nh_uq K V (nh_L ln) U) N r i sX xX st w rd → nh_hi N st st0 → nh_hi N w w0 → wY_build_427 post J (nI r) k (nI i) (nI U) (nI T) (nI N) K V ln ue dc us ow st w ch ds po ps pv rc rd fS fP fN := by
  intro d
  induction d with
  | zero =>
    intro i k st w rd fS fP fN hid hk hS h1 h2
    obtain ⟨m, rfl⟩ : ∃ m, k = m + 1 := ⟨k - 1, by omega⟩
    have e : i = N := by omega
    subst e
    exact br_t (nI_le (Nat.le_refl _) (by omega)) (nm_r (nI_1 r) (hJ st w rd fS fP fN (nh_YSe hS) h1 h2))
  | succ d ih =>
    intro i k st w rd fS fP fN hid hk hS h1 h2
    obtain ⟨m, rfl⟩ : ∃ m, k = m + 1 := ⟨k - 1, by omega⟩
    have hi : i < N := by omega
    have h16 : vp_in (nI i) 16 := vp_in_nI (by omega) (by decide)
    refine br_f (nI_ge hi (by omega)) ⟨h16, ?_⟩
    rw [nI_clamp (n := i) (by omega)]
    by_cases hr : rd i = 0
    · refine br_t hr (ny_depState hU hN hT hln hY hi (fun hm => ?_) (fun hm => ?_) (fun hm => ?_))
      · exact br_f (by decide) (br_f (by decide) (nm_r (nI_1 i) (ih (i + 1) m st w rd fS fP fN (by omega) (by omega) (nh_YSs hS hm) h1 h2)))
      · have ⟨g1, g2⟩ := nh_YSb hsol hS hi hr hm
        have g3 := nh_YSd (c := 1) hS g1 g2 (by decide)
        rw [nh_uself] at g3
        rw [nh_vb1]
        exact br_f (by decide) (br_t rfl ⟨h16, nm_e ⟨h16, nm_e (nm_r (nI_1 i) (ih (i + 1) m _ w _ fS fP fN (by omega) (by omega) g3 (nh_hiu h1 hi) h2))⟩⟩)
      · obtain ⟨u, s, hf⟩ := ((hS i hi).2.1 hr).1.1
        have ⟨e1, e2⟩ := (hY i hi).2 u s hf
        rw [e1, e2, nh_vb1]
        refine br_t rfl ⟨h16, nm_e ⟨h16, h16, ny_eval hU hN hT hln hTV hf (fun fS' fP' fN' => ⟨h16, nm_e ⟨h16, nm_e (nm_r (nI_1 i) ?_)⟩⟩)⟩⟩
        have ⟨g1, g2⟩ := nh_YSo (O := nh_ow K V (nh_L ln) U) (Q := nh_uq K V (nh_L ln) U) (E := nh_vl K V (nh_L ln) U) (fun n w w' x a b => nh_vlc hTV hN a b) (fun n w x y a b => nh_vl1 a b) hsol hS hi hr hm ⟨u, s, hf, rfl⟩
        exact ih (i + 1) m _ _ _ fS' fP' fN' (by omega) (by omega) (nh_YSd hS g1 g2 (by decide)) (nh_hiu h1 hi) (nh_hiu h2 hi)
    · exact br_f hr (nm_r (nI_1 i) (ih (i + 1) m st w rd fS fP fN (by omega) (by omega) (nh_YSk hS hr) h1 h2))
theorem ny_417 {U T N : Nat} {K V ln ue dc us ow ch ds po ps pv rc : Nat → Int32} {post : Int32 → SY → Prop} {sX xX st0 w0 : Nat → Int32} (hU : U ≤ 8) (hN : N ≤ 16) (hT : T ≤ 32) (hln : ∀ u, ∃ l, l ≤ T ∧ ln u = nI l) (hTV : nh_TV N K V) (hY : nh_YF K V (nh_L ln) U N ow ds)
    (hsol : nh_sol (nh_ow K V (nh_L ln) U) (nh_uq K V (nh_L ln) U) (nh_vl K V (nh_L ln) U) N sX xX)
    (hp : ∀ st w rd fS fP fN, (∀ n, n < N → st n = sX n ∧ w n = xX n) → nh_hi N st st0 → nh_hi N w w0 → post (nI (nh_cc (nh_ch ow st w po ps pv) N)) (nI U, nI T, nI N, K, V, ln, ue, dc, us, ow, st, w, nh_mx N (nh_ch ow st w po ps pv) ch, ds, po, ps, pv, rc, rd, fS, fP, fN)) :
    ∀ (d r k : Nat) (st w rd fS fP fN : Nat → Int32), r + d = N + 1 → d < k → nh_YS (nh_ow K V (nh_L ln) U) (nh_uq K V (nh_L ln) U) N r 0 sX xX st w rd → nh_hi N st st0 → nh_hi N w w0 → wY_build_417 post k (nI r) (nI U) (nI T) (nI N) K V ln ue dc us ow st w ch ds po ps pv rc rd fS fP fN := by
  intro d
  induction d with
  | zero =>
    intro r k st w rd fS fP fN hid hk hS h1 h2
    obtain ⟨m, rfl⟩ : ∃ m, k = m + 1 := ⟨k - 1, by omega⟩
    have e : r = N + 1 := by omega
    subst e
    exact br_t (nI_lt (by omega) (by omega)) (ny_528 hN (hp st w rd fS fP fN (nh_YSf hS) h1 h2))
  | succ d ih =>
    intro r k st w rd fS fP fN hid hk hS h1 h2
    obtain ⟨m, rfl⟩ : ∃ m, k = m + 1 := ⟨k - 1, by omega⟩
    exact br_f (nI_nlt (by omega) (by omega)) ⟨N + 1, ny_427 hU hN hT hln hTV hY hsol (fun st' w' rd' fS' fP' fN' g1 g2 g3 => ih (r + 1) m st' w' rd' fS' fP' fN' (by omega) (by omega) g1 g2 g3) N 0 (N + 1) st w rd fS fP fN (by omega) (by omega) hS h1 h2⟩
theorem ny_312 {U T N : Nat} {K V ln ue dc us ow ch ds po ps pv rc fS fP fN : Nat → Int32} {post : Int32 → SY → Prop} {sX xX st0 w0 : Nat → Int32} (hU : U ≤ 8) (hN : N ≤ 16) (hT : T ≤ 32) (hln : ∀ u, ∃ l, l ≤ T ∧ ln u = nI l) (hTV : nh_TV N K V) (hY : nh_YF K V (nh_L ln) U N ow ds)
    (hsol : nh_sol (nh_ow K V (nh_L ln) U) (nh_uq K V (nh_L ln) U) (nh_vl K V (nh_L ln) U) N sX xX) (hR : nh_TR (nh_ow K V (nh_L ln) U) (nh_uq K V (nh_L ln) U) N N rc)
    (hp : ∀ st w rd fS fP fN, (∀ n, n < N → st n = sX n ∧ w n = xX n) → nh_hi N st st0 → nh_hi N w w0 → post (nI (nh_cc (nh_ch ow st w po ps pv) N)) (nI U, nI T, nI N, K, V, ln, ue, dc, us, ow, st, w, nh_mx N (nh_ch ow st w po ps pv) ch, ds, po, ps, pv, rc, rd, fS, fP, fN)) :
    ∀ (d i k : Nat) (st w rd : Nat → Int32), i + d = N → d < k → nh_YG (nh_ow K V (nh_L ln) U) (nh_uq K V (nh_L ln) U) N i st w rd → nh_hi N st st0 → nh_hi N w w0 → wY_build_312 post (nI U) (nI T) (nI N) k (nI i) K V ln ue dc us ow st w ch ds po ps pv rc rd fS fP fN := by
  intro d
  induction d with
  | zero =>
    intro i k st w rd hid hk hG h1 h2
    obtain ⟨m, rfl⟩ : ∃ m, k = m + 1 := ⟨k - 1, by omega⟩
    have e : i = N := by omega
    subst e
    exact br_t (nI_le (Nat.le_refl _) (by omega)) ⟨i + 2, ny_417 hU hN hT hln hTV hY hsol hp (i + 1) 0 (i + 2) st w rd fS fP fN (by omega) (by omega) (nh_YS0 hsol hG) h1 h2⟩
  | succ d ih =>
    intro i k st w rd hid hk hG h1 h2
    obtain ⟨m, rfl⟩ : ∃ m, k = m + 1 := ⟨k - 1, by omega⟩
    have hi : i < N := by omega
    have h16 : vp_in (nI i) 16 := vp_in_nI (by omega) (by decide)
    refine br_f (nI_ge hi (by omega)) ⟨h16, ?_⟩
    rw [nI_clamp (n := i) (by omega), nh_vb1, nh_c16, nI_clamp (n := i * 16 + i) (by omega)]
    refine nm_e ⟨h16, nm_e ⟨h16, ?_⟩⟩
    rw [(nh_YFo hY hU hi).1, hR i i hi hi]
    refine br_c (fun ho => ⟨vp_in_nI (by omega) (by decide), br_c (fun hr => ?_) (fun hr => ?_)⟩) (fun ho => ?_)
    · refine ny_noOwner hU hN hT hln hY hi (fun hm => ?_) (fun hm => ?_)
      · refine br_f (by decide) ⟨h16, nm_e (nm_r (nI_1 i) (ih (i + 1) m _ _ _ (by omega) (by omega) (nh_YGs hG (Or.inl ⟨fun hpd => ?_, Or.inr (Or.inr (Or.inl ⟨ho, hr, hm, rfl⟩)), by decide⟩)) (nh_hiu h1 hi) (nh_hiu h2 hi)))⟩
        obtain ⟨q, hq, hq1, hq2⟩ := hm
        exact hq2 (hpd.2.2 q hq hq1)
      · rw [nh_vb0]
        refine br_t rfl ⟨h16, nm_e ⟨h16, ?_⟩⟩
        rw [nh_ub]
        exact nm_e (nm_r (nI_1 i) (ih (i + 1) m _ _ _ (by omega) (by omega) (nh_YGs hG (Or.inr ⟨⟨ho, hr, hm⟩, rfl⟩)) (nh_hiu h1 hi) (nh_hiu h2 hi)))
    · have hr1 := Classical.not_not.mp hr
      exact ⟨h16, nm_e (nm_r (nI_1 i) (ih (i + 1) m _ _ _ (by omega) (by omega) (nh_YGs hG (Or.inl ⟨fun hpd => hpd.2.1 hr1, Or.inr (Or.inl ⟨ho, hr1, rfl⟩), by decide⟩)) (nh_hiu h1 hi) (nh_hiu h2 hi)))⟩
    · exact ⟨h16, nm_e (nm_r (nI_1 i) (ih (i + 1) m _ _ _ (by omega) (by omega) (nh_YGs hG (Or.inl ⟨fun hpd => ho hpd.1, Or.inl ⟨ho, rfl⟩, by decide⟩)) (nh_hiu h1 hi) (nh_hiu h2 hi)))⟩
theorem ny_291 {U T N : Nat} {K V ln ue dc us ow st w ch ds po ps pv rd fS fP fN : Nat → Int32} {post : Int32 → SY → Prop} {sX xX st0 w0 : Nat → Int32} (hU : U ≤ 8) (hN : N ≤ 16) (hT : T ≤ 32) (hln : ∀ u, ∃ l, l ≤ T ∧ ln u = nI l) (hTV : nh_TV N K V) (hY : nh_YF K V (nh_L ln) U N ow ds)
    (hsol : nh_sol (nh_ow K V (nh_L ln) U) (nh_uq K V (nh_L ln) U) (nh_vl K V (nh_L ln) U) N sX xX) (h1 : nh_hi N st st0) (h2 : nh_hi N w w0)
    (hp : ∀ rc st w rd fS fP fN, (∀ n, n < N → st n = sX n ∧ w n = xX n) → nh_hi N st st0 → nh_hi N w w0 → post (nI (nh_cc (nh_ch ow st w po ps pv) N)) (nI U, nI T, nI N, K, V, ln, ue, dc, us, ow, st, w, nh_mx N (nh_ch ow st w po ps pv) ch, ds, po, ps, pv, rc, rd, fS, fP, fN)) :
    ∀ (d i k : Nat) (rc : Nat → Int32), i + d = N → d < k → nh_TR (nh_ow K V (nh_L ln) U) (nh_uq K V (nh_L ln) U) N i rc → wY_build_291 post k (nI i) (nI U) (nI T) (nI N) K V ln ue dc us ow st w ch ds po ps pv rc rd fS fP fN := by
  intro d
  induction d with
  | zero =>
    intro i k rc hid hk hR
    obtain ⟨m, rfl⟩ : ∃ m, k = m + 1 := ⟨k - 1, by omega⟩
    have e : i = N := by omega
    subst e
    exact br_t (nI_le (Nat.le_refl _) (by omega)) ⟨i + 1, ny_312 hU hN hT hln hTV hY hsol hR (hp rc) i 0 (i + 1) st w rd (by omega) (by omega) (fun n _ hn => absurd hn (Nat.not_lt_zero n)) h1 h2⟩
  | succ d ih =>
    intro i k rc hid hk hR
    obtain ⟨m, rfl⟩ : ∃ m, k = m + 1 := ⟨k - 1, by omega⟩
    exact br_f (nI_ge (by omega) (by omega)) (ny_closeVia hN (by omega) hR (fun rc' h => nm_r (nI_1 i) (ih (i + 1) m rc' (by omega) (by omega) h)))
end
section
/-! 16: the reference builds: its units, owners and edges -/
def nh_T0 (O : Nat → Prop) (Q : Nat → Nat → Prop) (N i j : Nat) (rc : Nat → Int32) : Prop := ∀ a c, a < N → c < N → nh_bf i j a c → (rc (a * 16 + c) = 0 ↔ ¬ nh_rl O Q 0 a c)
theorem nh_T0s {O : Nat → Prop} {Q : Nat → Nat → Prop} {N i j : Nat} {rc : Nat → Int32} {x : Int32} (h : nh_T0 O Q N i j rc) (hN : N ≤ 16) (hj : j < N) (hx : x = 0 ↔ ¬ nh_rl O Q 0 i j) : nh_T0 O Q N i (j + 1) (upd rc (i * 16 + j) x) := by
  intro a c ha hc hb
  rcases nh_bfs hb with hb | ⟨e1, e2⟩
  · rw [pk_un]
    · exact h a c ha hc hb
    · unfold nh_bf at hb
      omega
  · subst e1 e2
    rw [pk_us]
    exact hx
theorem nh_T0e {O : Nat → Prop} {Q : Nat → Nat → Prop} {N i : Nat} {rc : Nat → Int32} (h : nh_T0 O Q N i N rc) : nh_T0 O Q N (i + 1) 0 rc := fun a c ha hc hb => h a c ha hc (by
  unfold nh_bf at *
  omega)
theorem nh_T0f {O : Nat → Prop} {Q : Nat → Nat → Prop} {N : Nat} {rc : Nat → Int32} (h : nh_T0 O Q N N 0 rc) : nh_TR O Q N 0 rc := fun a c ha hc => h a c ha hc (Or.inl ha)
theorem ny_226 {U T N : Nat} {K V ln ue dc us ow st w ch ds po ps pv rc rd fS fP fN : Nat → Int32} {post : Int32 → SY → Prop} {J : Int32 → (Nat → Int32) → (Nat → Int32) → (Nat → Int32) → (Nat → Int32) → (Nat → Int32) → (Nat → Int32) → (Nat → Int32) → (Nat → Int32) → (Nat → Int32) → (Nat → Int32) → (Nat → Int32) → (Nat → Int32) → (Nat → Int32) → (Nat → Int32) → (Nat → Int32) → (Nat → Int32) → (Nat → Int32) → (Nat → Int32) → (Nat → Int32) → Prop} {a : Nat} (hU : U ≤ 8) (hN : N ≤ 16) (hT : T ≤ 32) (hln : ∀ u, ∃ l, l ≤ T ∧ ln u = nI l) (hY : nh_YF K V (nh_L ln) U N ow ds) (ha : a < N)
    (h0 : nh_T0 (nh_ow K V (nh_L ln) U) (nh_uq K V (nh_L ln) U) N a 0 rc) (hJ : ∀ rc', nh_T0 (nh_ow K V (nh_L ln) U) (nh_uq K V (nh_L ln) U) N (a + 1) 0 rc' → J (nI (a + 1)) K V ln ue dc us ow st w ch ds po ps pv rc' rd fS fP fN) :
    ∃ n, wY_build_226 post J (nI a) (nI U) (nI T) (nI N) n 0 K V ln ue dc us ow st w ch ds po ps pv rc rd fS fP fN := by
  refine loop_0 (σ := Nat → Int32) (fun n i s => wY_build_226 post J (nI a) (nI U) (nI T) (nI N) n (nI i) K V ln ue dc us ow st w ch ds po ps pv s rd fS fP fN) (fun i s => nh_T0 (nh_ow K V (nh_L ln) U) (nh_uq K V (nh_L ln) U) N a i s) N rc h0 (fun n s h => ?_) (fun n i s hi h hs => ?_)
  · exact br_t (nI_le (Nat.le_refl N) (by omega)) (nm_r (nI_1 a) (hJ s (nh_T0e h)))
  · have ha16 : vp_in (nI a) 16 := vp_in_nI (by omega) (by decide)
    have hi16 : vp_in (nI i) 16 := vp_in_nI (by omega) (by decide)
    have hin : vp_in (nI (a * 16 + i)) 256 := vp_in_nI (by omega) (by decide)
    refine br_f (nI_ge hi (by omega)) ?_
    rw [nh_c16, nI_clamp (n := a * 16 + i) (by omega), nI_clamp (n := a) (by omega), nI_clamp (n := i) (by omega), nh_vb0, nh_vb1, (nh_YFo hY hU ha).2, (nh_YFo hY hU hi).2]
    refine ⟨ha16, br_c (fun ho => ?_) (fun ho => ⟨hi16, br_c (fun ho2 => ?_) (fun ho2 => ny_usesDef hU hN hT hln hY ha (fun hq => br_f (by decide) ?_) (fun hq => br_t rfl ?_))⟩)⟩
    · exact ⟨hin, nm_e (nm_r (nI_1 i) (hs _ (nh_T0s h hN hi ⟨fun _ hr => ho hr.2.1, fun _ => rfl⟩)))⟩
    · exact ⟨hin, nm_e (nm_r (nI_1 i) (hs _ (nh_T0s h hN hi ⟨fun _ hr => ho2 hr.2.2, fun _ => rfl⟩)))⟩
    · exact ⟨hin, nm_e (nm_r (nI_1 i) (hs _ (nh_T0s h hN hi ⟨fun h => absurd h (by decide), fun h => absurd ⟨hq, Classical.not_not.mp ho, Classical.not_not.mp ho2⟩ h⟩)))⟩
    · exact ⟨hin, nm_e (nm_r (nI_1 i) (hs _ (nh_T0s h hN hi ⟨fun _ hr => hq hr.1, fun _ => rfl⟩)))⟩
theorem ny_216 {U T N : Nat} {K V ln ue dc us ow st w ch ds po ps pv rc rd fS fP fN : Nat → Int32} {post : Int32 → SY → Prop} {sX xX st0 w0 : Nat → Int32} (hU : U ≤ 8) (hN : N ≤ 16) (hT : T ≤ 32) (hln : ∀ u, ∃ l, l ≤ T ∧ ln u = nI l) (hTV : nh_TV N K V) (hY : nh_YF K V (nh_L ln) U N ow ds)
    (hsol : nh_sol (nh_ow K V (nh_L ln) U) (nh_uq K V (nh_L ln) U) (nh_vl K V (nh_L ln) U) N sX xX) (h1 : nh_hi N st st0) (h2 : nh_hi N w w0)
    (hp : ∀ rc st w rd fS fP fN, (∀ n, n < N → st n = sX n ∧ w n = xX n) → nh_hi N st st0 → nh_hi N w w0 → post (nI (nh_cc (nh_ch ow st w po ps pv) N)) (nI U, nI T, nI N, K, V, ln, ue, dc, us, ow, st, w, nh_mx N (nh_ch ow st w po ps pv) ch, ds, po, ps, pv, rc, rd, fS, fP, fN)) :
    ∃ n, wY_build_216 post (nI U) (nI T) (nI N) n 0 K V ln ue dc us ow st w ch ds po ps pv rc rd fS fP fN := by
  refine loop_0 (σ := Nat → Int32) (fun n i s => wY_build_216 post (nI U) (nI T) (nI N) n (nI i) K V ln ue dc us ow st w ch ds po ps pv s rd fS fP fN) (fun i s => nh_T0 (nh_ow K V (nh_L ln) U) (nh_uq K V (nh_L ln) U) N i 0 s) N rc (fun a c _ _ hb => by unfold nh_bf at hb; omega) (fun n s h => ?_) (fun n i s hi h hs => ?_)
  · exact br_t (nI_le (Nat.le_refl N) (by omega)) ⟨N + 1, ny_291 hU hN hT hln hTV hY hsol h1 h2 hp N 0 (N + 1) s (by omega) (by omega) (nh_T0f h)⟩
  · exact br_f (nI_ge hi (by omega)) (ny_226 hU hN hT hln hY hi h (fun rc' h' => hs rc' h'))
/-- what the reference knows of the owner of n, units below u having been looked at -/
def nh_OU (K V : Nat → Int32) (Ln : Nat → Nat) (U n u : Nat) (o e : Int32) : Prop :=
  (o = -1 ∧ ∀ u' i', u' < u → ¬ nh_df K V Ln u' i' n) ∨ (∃ u' i', u' < u ∧ nh_fs K V Ln U n u' i' ∧ o = nI u' ∧ e = nI i')
theorem nh_OUf {K V : Nat → Int32} {Ln : Nat → Nat} {U n : Nat} {o e : Int32} (h : nh_OU K V Ln U n U o e) : (¬ nh_ow K V Ln U n → o = -1) ∧ ∀ u s, nh_fs K V Ln U n u s → o = nI u ∧ e = nI s := by
  rcases h with ⟨h1, h2⟩ | ⟨u', i', h1, h2, h3, h4⟩
  · exact ⟨fun _ => h1, fun u s hf => absurd hf.2.1 (h2 u s hf.1)⟩
  · refine ⟨fun h => absurd ⟨u', i', h2⟩ h, fun u s hf => ?_⟩
    obtain ⟨e1, e2⟩ := nh_fs1 h2 hf
    rw [e1, e2]
    exact ⟨h3, h4⟩
theorem ny_150 {U T N : Nat} {K V ln ue dc us st w ch po ps pv rc rd fS fP fN : Nat → Int32} {post : Int32 → SY → Prop} {J : Int32 → (Nat → Int32) → (Nat → Int32) → (Nat → Int32) → (Nat → Int32) → (Nat → Int32) → (Nat → Int32) → (Nat → Int32) → (Nat → Int32) → (Nat → Int32) → (Nat → Int32) → (Nat → Int32) → (Nat → Int32) → (Nat → Int32) → (Nat → Int32) → (Nat → Int32) → (Nat → Int32) → (Nat → Int32) → (Nat → Int32) → (Nat → Int32) → Prop} {n : Nat} {ow1 ds1 : Nat → Int32} (hU : U ≤ 8) (hN : N ≤ 16) (hT : T ≤ 32) (hln : ∀ u, ∃ l, l ≤ T ∧ ln u = nI l) (hue : ∀ u, u < U → ue u = nh_E K ln u) (hn : n < N)
    (hJ : ∀ o e, nh_OU K V (nh_L ln) U n U o e → J (nI (n + 1)) K V ln ue dc us (upd ow1 n o) st w ch (upd ds1 n e) po ps pv rc rd fS fP fN) :
    ∀ (d u k : Nat) (o e : Int32), u + d = U → d < k → nh_OU K V (nh_L ln) U n u o e → wY_build_150 post J (nI n) (nI U) (nI T) (nI N) k (nI u) K V ln ue dc us (upd ow1 n o) st w ch (upd ds1 n e) po ps pv rc rd fS fP fN := by
  have h16 : vp_in (nI n) 16 := vp_in_nI (by omega) (by decide)
  have hcn : (nI n).toNatClampNeg = n := nI_clamp (by omega)
  intro d
  induction d with
  | zero =>
    intro u k o e hud hk hO
    obtain ⟨m, rfl⟩ : ∃ m, k = m + 1 := ⟨k - 1, by omega⟩
    have e1 : u = U := by omega
    subst e1
    exact br_t (nI_le (Nat.le_refl _) (by omega)) (nm_r (nI_1 n) (hJ o e hO))
  | succ d ih =>
    intro u k o e hud hk hO
    obtain ⟨m, rfl⟩ : ∃ m, k = m + 1 := ⟨k - 1, by omega⟩
    have h8 : vp_in (nI u) 8 := vp_in_nI (by omega) (by decide)
    refine br_f (nI_ge (by omega) (by omega)) ⟨h16, ?_⟩
    rw [hcn, pk_us, nI_clamp (n := u) (by omega), hue u (by omega)]
    rcases hO with ⟨h1, h2⟩ | ⟨u', i', h1, h2, h3, h4⟩
    · refine br_f (by rw [h1]; decide) ⟨h8, ?_⟩
      by_cases hE : nh_E K ln u = -1
      · refine br_t hE (ny_findDef (by omega) hT hln hE (fun i hd hmin => ?_) (fun hno => ?_))
        · have hi := hd.2.1
          have ⟨_, hl2⟩ := nh_Ln hT hln u
          refine br_f (nI_pos (by omega)) ⟨h16, ?_⟩
          rw [nh_ub]
          refine nm_e ⟨h16, ?_⟩
          rw [nh_ub]
          refine nm_e (nm_r (nI_1 u) (ih (u + 1) m _ _ (by omega) (by omega) (Or.inr ⟨u, i, by omega, ⟨by omega, hd, fun u' i' hd' hb => ?_⟩, rfl, rfl⟩)))
          rcases hb with hb | ⟨e1, e2⟩
          · exact h2 u' i' hb hd'
          · rw [e1] at hd'; exact hmin i' e2 hd'
        · refine br_t (by decide) (nm_r (nI_1 u) (ih (u + 1) m o e (by omega) (by omega) (Or.inl ⟨h1, fun u' i' hu' hd => ?_⟩)))
          by_cases e1 : u' = u
          · rw [e1] at hd; exact hno i' hd
          · exact h2 u' i' (by omega) hd
      · refine br_f hE (nm_r (nI_1 u) (ih (u + 1) m o e (by omega) (by omega) (Or.inl ⟨h1, fun u' i' hu' hd => ?_⟩)))
        by_cases e1 : u' = u
        · rw [e1] at hd; exact hE (nh_ok_er hd.1)
        · exact h2 u' i' (by omega) hd
    · refine br_t (by rw [h3]; exact nI_pos' (by omega)) (nm_r (nI_1 u) (ih (u + 1) m o e (by omega) (by omega) (Or.inr ⟨u', i', by omega, h2, h3, h4⟩)))
theorem ny_126 {U T N : Nat} {K V ln ue dc us st w ch po ps pv rc rd fS fP fN : Nat → Int32} {post : Int32 → SY → Prop} {sX xX no ow0 st0 w0 : Nat → Int32} (hU : U ≤ 8) (hN : N ≤ 16) (hT : T ≤ 32) (hln : ∀ u, ∃ l, l ≤ T ∧ ln u = nI l) (hTV : nh_TV N K V) (hue : ∀ u, u < U → ue u = nh_E K ln u)
    (hOS : nh_OS K V (nh_L ln) U N no) (hsol : nh_sol (nh_ow K V (nh_L ln) U) (nh_uq K V (nh_L ln) U) (nh_vl K V (nh_L ln) U) N sX xX) (h1 : nh_hi N st st0) (h2 : nh_hi N w w0)
    (hp : ∀ ow ds rc st w rd fS fP fN, (∀ n, n < N → ow n = no n) → nh_hi N ow ow0 → (∀ n, n < N → st n = sX n ∧ w n = xX n) → nh_hi N st st0 → nh_hi N w w0 → post (nI (nh_cc (nh_ch ow st w po ps pv) N)) (nI U, nI T, nI N, K, V, ln, ue, dc, us, ow, st, w, nh_mx N (nh_ch ow st w po ps pv) ch, ds, po, ps, pv, rc, rd, fS, fP, fN)) :
    ∀ (d i k : Nat) (ow ds : Nat → Int32), i + d = N → d < k → nh_YF K V (nh_L ln) U i ow ds → nh_hi N ow ow0 → wY_build_126 post (nI U) (nI T) (nI N) k (nI i) K V ln ue dc us ow st w ch ds po ps pv rc rd fS fP fN := by
  intro d
  induction d with
  | zero =>
    intro i k ow ds hid hk hY h3
    obtain ⟨m, rfl⟩ : ∃ m, k = m + 1 := ⟨k - 1, by omega⟩
    have e : i = N := by omega
    subst e
    refine br_t (nI_le (Nat.le_refl _) (by omega)) (ny_216 hU hN hT hln hTV hY hsol h1 h2 (hp ow ds · · · · · · · (fun n hn => ?_) h3))
    rcases Classical.em (nh_ow K V (nh_L ln) U n) with ho | ho
    · obtain ⟨u, s, hf⟩ := ho
      rw [((hY n hn).2 u s hf).1, (hOS n hn).2 u s hf]
    · rw [(hY n hn).1 ho, (hOS n hn).1 ho]
  | succ d ih =>
    intro i k ow ds hid hk hY h3
    obtain ⟨m, rfl⟩ : ∃ m, k = m + 1 := ⟨k - 1, by omega⟩
    have h16 : vp_in (nI i) 16 := vp_in_nI (by omega) (by decide)
    refine br_f (nI_ge (by omega) (by omega)) ⟨h16, ?_⟩
    rw [nI_clamp (n := i) (by omega)]
    refine nm_e ⟨h16, nm_e ⟨U + 1, ?_⟩⟩
    refine ny_150 hU hN hT hln hue (by omega) (fun o e hO => ih (i + 1) m _ _ (by omega) (by omega) (fun n hn => ?_) (nh_hiu h3 (by omega))) U 0 (U + 1) (-1) 0 (by omega) (by omega) (Or.inl ⟨rfl, fun u' _ hu' => absurd hu' (Nat.not_lt_zero u')⟩)
    by_cases e1 : n = i
    · subst e1
      rw [pk_us, pk_us]
      exact nh_OUf hO
    · rw [pk_un e1, pk_un e1]
      exact hY n (by omega)
theorem ny_84 {U T N : Nat} {K V ln ue ow st w ch ds po ps pv rc rd fS fP fN : Nat → Int32} {post : Int32 → SY → Prop} {J : Int32 → Int32 → Int32 → Int32 → (Nat → Int32) → (Nat → Int32) → (Nat → Int32) → (Nat → Int32) → (Nat → Int32) → (Nat → Int32) → (Nat → Int32) → (Nat → Int32) → (Nat → Int32) → (Nat → Int32) → (Nat → Int32) → (Nat → Int32) → (Nat → Int32) → (Nat → Int32) → (Nat → Int32) → (Nat → Int32) → (Nat → Int32) → (Nat → Int32) → (Nat → Int32) → Prop} {u : Nat} {dc1 : Nat → Int32} (hU : U ≤ 8) (hN : N ≤ 16) (hT : T ≤ 32) (hln : ∀ u, ∃ l, l ≤ T ∧ ln u = nI l) (hTV : nh_TV N K V) (hu : u < U) {us0 : Nat → Int32}
    (hJ : ∀ us', nh_urow us' u (fun m => nh_E K ln u = -1 ∧ nh_uu K V (u * 32) (nh_L ln u) m) → (∀ u' m, u' ≠ u → m < 16 → us' (u' * 16 + m) = us0 (u' * 16 + m)) → J (nI (u + 1)) (nI U) (nI T) (nI N) K V ln ue (upd dc1 u (nh_C K ln u)) us' ow st w ch ds po ps pv rc rd fS fP fN) :
    ∀ (d i k : Nat) (us : Nat → Int32), i + d = 16 → d < k → (∀ m, m < i → us (u * 16 + m) = 0) → (∀ u' m, u' ≠ u → m < 16 → us (u' * 16 + m) = us0 (u' * 16 + m)) →
      wY_build_84 post J (nI u) (nh_E K ln u) (nI U) (nI T) (nI N) k (nI i) K V ln ue (upd dc1 u 0) us ow st w ch ds po ps pv rc rd fS fP fN := by
  intro d
  induction d with
  | zero =>
    intro i k us hid hk h1 h2
    obtain ⟨m, rfl⟩ : ∃ m, k = m + 1 := ⟨k - 1, by omega⟩
    have e : i = 16 := by omega
    subst e
    refine br_t (nI_le (a := 16) (Nat.le_refl _) (by decide)) ?_
    by_cases hE : nh_E K ln u = -1
    · refine br_t hE (ny_scan (by omega) hN hT hln hTV hE h1 (fun us' g1 g2 => ?_))
      rw [nh_ub]
      exact nm_r (nI_1 u) (hJ us' g1 (fun u' m hne hm => (g2 u' m hne hm).trans (h2 u' m hne hm)))
    · have h3 := hJ us (fun m hm => Or.inr ⟨h1 m hm, fun h => hE h.1⟩) h2
      rw [nh_C, if_neg hE] at h3
      exact br_f hE (nm_r (nI_1 u) h3)
  | succ d ih =>
    intro i k us hid hk h1 h2
    obtain ⟨m, rfl⟩ : ∃ m, k = m + 1 := ⟨k - 1, by omega⟩
    refine br_f (nI_ge (b := 16) (by omega) (by decide)) ?_
    rw [nh_c16, nI_clamp (n := u * 16 + i) (by omega), nh_vb0]
    refine ⟨vp_in_nI (by omega) (by decide), nm_e (nm_r (nI_1 i) (ih (i + 1) m _ (by omega) (by omega) (fun q hq => ?_) (fun u' q hne hq => ?_)))⟩
    · by_cases e : q = i
      · rw [e, pk_us]
      · rw [pk_un (by omega)]; exact h1 q (by omega)
    · rw [pk_un]
      · exact h2 u' q hne hq
      · intro e
        exact hne (by omega)
theorem ny_54 {U T N : Nat} {K V ln ue dc st w ch po ps pv rc rd fS fP fN : Nat → Int32} {post : Int32 → SY → Prop} {sX xX no ow ds st0 w0 : Nat → Int32} (hU : U ≤ 8) (hN : N ≤ 16) (hT : T ≤ 32) (hln : ∀ u, ∃ l, l ≤ T ∧ ln u = nI l) (hTV : nh_TV N K V)
    (hOS : nh_OS K V (nh_L ln) U N no) (hsol : nh_sol (nh_ow K V (nh_L ln) U) (nh_uq K V (nh_L ln) U) (nh_vl K V (nh_L ln) U) N sX xX) (h1 : nh_hi N st st0) (h2 : nh_hi N w w0)
    (hp : ∀ us ow' ds rc st w rd fS fP fN, (∀ u, u < U → nh_urow us u (fun m => nh_E K ln u = -1 ∧ nh_uu K V (u * 32) (nh_L ln u) m)) → (∀ n, n < N → ow' n = no n) → nh_hi N ow' ow → (∀ n, n < N → st n = sX n ∧ w n = xX n) → nh_hi N st st0 → nh_hi N w w0 →
      post (nI (nh_cc (nh_ch ow' st w po ps pv) N)) (nI U, nI T, nI N, K, V, ln, nh_mx U (nh_E K ln) ue, nh_mx U (nh_C K ln) dc, us, ow', st, w, nh_mx N (nh_ch ow' st w po ps pv) ch, ds, po, ps, pv, rc, rd, fS, fP, fN)) :
    ∀ (d i k : Nat) (us : Nat → Int32), i + d = U → d < k → (∀ u, u < i → nh_urow us u (fun m => nh_E K ln u = -1 ∧ nh_uu K V (u * 32) (nh_L ln u) m)) → wY_build_54 post k (nI i) (nI U) (nI T) (nI N) K V ln (nh_mx i (nh_E K ln) ue) (nh_mx i (nh_C K ln) dc) us ow st w ch ds po ps pv rc rd fS fP fN := by
  intro d
  induction d with
  | zero =>
    intro i k us hid hk h3
    obtain ⟨m, rfl⟩ : ∃ m, k = m + 1 := ⟨k - 1, by omega⟩
    have e : i = U := by omega
    subst e
    refine br_t (nI_le (Nat.le_refl _) (by omega)) ⟨N + 1, ny_126 hU hN hT hln hTV (fun u hu => nh_mxl hu) hOS hsol h1 h2 (fun ow' ds' rc' st' w' rd' fS' fP' fN' => hp us ow' ds' rc' st' w' rd' fS' fP' fN' h3) N 0 (N + 1) ow ds (by omega) (by omega) (fun n hn => absurd hn (Nat.not_lt_zero n)) (fun n _ => rfl)⟩
  | succ d ih =>
    intro i k us hid hk h3
    obtain ⟨m, rfl⟩ : ∃ m, k = m + 1 := ⟨k - 1, by omega⟩
    have h8 : vp_in (nI i) 8 := vp_in_nI (by omega) (by decide)
    refine br_f (nI_ge (by omega) (by omega)) (ny_check (by omega) hT hln ⟨h8, ?_⟩)
    rw [nI_clamp (n := i) (by omega), nh_mxs]
    refine nm_e ⟨h8, nm_e ⟨17, ?_⟩⟩
    refine ny_84 hU hN hT hln hTV (by omega) (fun us' g1 g2 => ?_) 16 0 17 us (by omega) (by omega) (fun q hq => absurd hq (Nat.not_lt_zero q)) (fun _ _ _ _ => rfl)
    rw [nh_mxs]
    refine ih (i + 1) m us' (by omega) (by omega) (fun u hu => ?_)
    by_cases e : u = i
    · rw [e]; exact g1
    · intro q hq
      rw [g2 u q e hq]
      exact h3 u (by omega) q hq
theorem ny_build {U T N : Nat} {K V ln ue dc us ow st w ch ds po ps pv rc rd fS fP fN : Nat → Int32} {post : Int32 → SY → Prop} {ns nr no : Nat → Int32} (hU : U ≤ 8) (hN : N ≤ 16) (hT : T ≤ 32) (hln : ∀ u, ∃ l, l ≤ T ∧ ln u = nI l) (hTV : nh_TV N K V)
    (hOS : nh_OS K V (nh_L ln) U N no) (hsol : nh_sol (nh_ow K V (nh_L ln) U) (nh_uq K V (nh_L ln) U) (nh_vl K V (nh_L ln) U) N ns nr)
    (hp : ∀ us ds po ps pv rc rd fS fP fN, (∀ u, u < U → nh_urow us u (fun m => nh_E K ln u = -1 ∧ nh_uu K V (u * 32) (nh_L ln u) m)) →
      post (nI (nh_cc (nh_ch ow st w no ns nr) N)) (nI U, nI T, nI N, K, V, ln, nh_mx U (nh_E K ln) ue, nh_mx U (nh_C K ln) dc, us, nh_mx N no ow, nh_mx N ns st, nh_mx N nr w, nh_mx N (nh_ch ow st w no ns nr) ch, ds, po, ps, pv, rc, rd, fS, fP, fN)) : wpY_build post (nI U, nI T, nI N, K, V, ln, ue, dc, us, ow, st, w, ch, ds, po, ps, pv, rc, rd, fS, fP, fN) := by
  refine loop_0 (σ := (Nat → Int32) × (Nat → Int32) × (Nat → Int32)) (fun n i s => wY_build_2 post (nI U) (nI T) (nI N) n (nI i) K V ln ue dc us ow st w ch ds s.1 s.2.1 s.2.2 rc rd fS fP fN) (fun i s => ∀ n, n < i → s.1 n = ow n ∧ s.2.1 n = st n ∧ s.2.2 n = w n) N (po, ps, pv) (fun n hn => absurd hn (Nat.not_lt_zero n)) (fun n s h => ?_) (fun n i s hi h hs => ?_)
  · obtain ⟨po', ps', pv'⟩ := s
    refine br_t (nI_le (Nat.le_refl N) (by omega)) ⟨U + 1, ?_⟩
    have h1 := ny_54 (post := post) (ow := ow) (ds := ds) (po := po') (ps := ps') (pv := pv') (ue := ue) (dc := dc) (rc := rc) (rd := rd) (fS := fS) (fP := fP) (fN := fN) (ch := ch) (st := st) (w := w) hU hN hT hln hTV hOS hsol (fun n _ => rfl) (fun n _ => rfl) (fun us' ow' ds' rc' st' w' rd' fS' fP' fN' g1 g2 g3 g4 g5 g6 => ?_) U 0 (U + 1) us (by omega) (by omega) (fun u hu => absurd hu (Nat.not_lt_zero u))
    · rw [nh_mx0, nh_mx0] at h1
      exact h1
    · have e1 := nh_mxq g2 g3
      have e2 := nh_mxq (fun n hn => (g4 n hn).1) g5
      have e3 := nh_mxq (fun n hn => (g4 n hn).2) g6
      have ec : ∀ n, n < N → nh_ch ow' st' w' po' ps' pv' n = nh_ch ow st w no ns nr n := by
        intro n hn
        have ⟨a1, a2, a3⟩ := h n hn
        unfold nh_ch
        rw [g2 n hn, (g4 n hn).1, (g4 n hn).2]
        have b1 : po' n = ow n := a1
        have b2 : ps' n = st n := a2
        have b3 : pv' n = w n := a3
        rw [b1, b2, b3]
        by_cases hc : ow n = no n ∧ st n = ns n ∧ w n = nr n
        · rw [if_pos hc, if_pos ⟨hc.1.symm, hc.2.1.symm, hc.2.2.symm⟩]
        · rw [if_neg hc, if_neg (fun h => hc ⟨h.1.symm, h.2.1.symm, h.2.2.symm⟩)]
      rw [nh_cce N ec, nh_mxe ec, e1, e2, e3]
      exact hp us' ds' po' ps' pv' rc' rd' fS' fP' fN' g1
  · have h16 : vp_in (nI i) 16 := vp_in_nI (by omega) (by decide)
    refine br_f (nI_ge hi (by omega)) ⟨h16, h16, ?_⟩
    rw [nI_clamp (n := i) (by omega)]
    refine nm_e ⟨h16, h16, nm_e ⟨h16, h16, nm_e (nm_r (nI_1 i) (hs (upd s.1 i (ow i), upd s.2.1 i (st i), upd s.2.2 i (w i)) (fun n hn => ?_)))⟩⟩
    show upd s.1 i (ow i) n = ow n ∧ upd s.2.1 i (st i) n = st n ∧ upd s.2.2 i (w i) n = w n
    by_cases e : n = i
    · rw [e, pk_us, pk_us, pk_us]; exact ⟨rfl, rfl, rfl⟩
    · rw [pk_un e, pk_un e, pk_un e]; exact h n (by omega)
end
section
/-! 17: the small methods, each side; the shifts of tokens -/
theorem nh_nn {n : Nat} {x : Int32} (hn : n < 2 ^ 31) (h : nI n ≤ x) : ¬ x < 0 := Int32.not_lt.mpr (Int32.le_trans (nI_pos' hn) h)
theorem nx_hu1 {U T N : Nat} {on ok fl dp tt pr : Int32} {K V ln ue dc uu ow st w ch no ns nr es nu re oT oP : Nat → Int32} {post : Int32 → Prop} {u : Nat} (hU : U ≤ 8) (hu : u < U) (hp : post 1) : wpX_hasUnit post (nI U, nI T, nI N, on, ok, fl, dp, tt, pr, K, V, ln, ue, dc, uu, ow, st, w, ch, no, ns, nr, es, nu, re, oT, oP) (nI u) := br_f (nI_pos (by omega)) (br_f (nI_ge hu (by omega)) hp)
theorem nx_hu0 {U T N : Nat} {on ok fl dp tt pr : Int32} {K V ln ue dc uu ow st w ch no ns nr es nu re oT oP : Nat → Int32} {post : Int32 → Prop} {x : Int32} (hU : U ≤ 8) (hx : x < 0 ∨ nI U ≤ x) (hp : post 0) : wpX_hasUnit post (nI U, nI T, nI N, on, ok, fl, dp, tt, pr, K, V, ln, ue, dc, uu, ow, st, w, ch, no, ns, nr, es, nu, re, oT, oP) x := by
  rcases hx with h | h
  · exact br_t h hp
  · exact br_f (nh_nn (by omega) h) (br_t h hp)
theorem nx_hn1 {U T N : Nat} {on ok fl dp tt pr : Int32} {K V ln ue dc uu ow st w ch no ns nr es nu re oT oP : Nat → Int32} {post : Int32 → Prop} {u : Nat} (hN : N ≤ 16) (hu : u < N) (hp : post 1) : wpX_hasName post (nI U, nI T, nI N, on, ok, fl, dp, tt, pr, K, V, ln, ue, dc, uu, ow, st, w, ch, no, ns, nr, es, nu, re, oT, oP) (nI u) := br_f (nI_pos (by omega)) (br_f (nI_ge hu (by omega)) hp)
theorem nx_hn0 {U T N : Nat} {on ok fl dp tt pr : Int32} {K V ln ue dc uu ow st w ch no ns nr es nu re oT oP : Nat → Int32} {post : Int32 → Prop} {x : Int32} (hN : N ≤ 16) (hx : x < 0 ∨ nI N ≤ x) (hp : post 0) : wpX_hasName post (nI U, nI T, nI N, on, ok, fl, dp, tt, pr, K, V, ln, ue, dc, uu, ow, st, w, ch, no, ns, nr, es, nu, re, oT, oP) x := by
  rcases hx with h | h
  · exact br_t h hp
  · exact br_f (nh_nn (by omega) h) (br_t h hp)
theorem ny_bu1 {U T N : Nat} {K V ln ue dc us ow st w ch ds po ps pv rc rd fS fP fN : Nat → Int32} {post : Int32 → Prop} {u : Nat} (hU : U ≤ 8) (hu : u < U) (hp : post 0) : wpY_badUnit post (nI U, nI T, nI N, K, V, ln, ue, dc, us, ow, st, w, ch, ds, po, ps, pv, rc, rd, fS, fP, fN) (nI u) := br_f (nI_pos (by omega)) (br_t (nI_lt hu (by omega)) hp)
theorem ny_bu0 {U T N : Nat} {K V ln ue dc us ow st w ch ds po ps pv rc rd fS fP fN : Nat → Int32} {post : Int32 → Prop} {x : Int32} (hU : U ≤ 8) (hx : x < 0 ∨ nI U ≤ x) (hp : post 1) : wpY_badUnit post (nI U, nI T, nI N, K, V, ln, ue, dc, us, ow, st, w, ch, ds, po, ps, pv, rc, rd, fS, fP, fN) x := by
  rcases hx with h | h
  · exact br_t h hp
  · exact br_f (nh_nn (by omega) h) (br_f (Int32.not_lt.mpr h) hp)
/-- a token that may be stored -/
def nh_tk (N : Nat) (k v : Int32) : Prop := ¬ k < 1 ∧ ¬ 9 < k ∧ (k = 2 → ∃ m, m < N ∧ v = nI m)
theorem nx_tk1 {U T N : Nat} {on ok fl dp tt pr : Int32} {K V ln ue dc uu ow st w ch no ns nr es nu re oT oP : Nat → Int32} {post : Int32 → Prop} {k v : Int32} (hN : N ≤ 16) (h : nh_tk N k v) (hp : post 1) : wpX_isToken post (nI U, nI T, nI N, on, ok, fl, dp, tt, pr, K, V, ln, ue, dc, uu, ow, st, w, ch, no, ns, nr, es, nu, re, oT, oP) k v := by
  by_cases k2 : k = 2
  · obtain ⟨m, hm, rfl⟩ := h.2.2 k2
    exact br_t k2 (nx_hn1 hN hm ⟨rfl, hp⟩)
  · exact br_f k2 (br_f h.1 (br_f h.2.1 hp))
theorem nx_tk0 {U T N : Nat} {on ok fl dp tt pr : Int32} {K V ln ue dc uu ow st w ch no ns nr es nu re oT oP : Nat → Int32} {post : Int32 → Prop} {k v : Int32} (hN : N ≤ 16) (h : ¬ nh_tk N k v) (hp : post 0) : wpX_isToken post (nI U, nI T, nI N, on, ok, fl, dp, tt, pr, K, V, ln, ue, dc, uu, ow, st, w, ch, no, ns, nr, es, nu, re, oT, oP) k v := by
  by_cases k2 : k = 2
  · refine br_t k2 ?_
    rcases pk_ix v (n := N) (by omega) with ho | ho | ⟨m, hm, e⟩
    · exact nx_hn0 hN (Or.inl ho) ⟨rfl, hp⟩
    · exact nx_hn0 hN (Or.inr ho) ⟨rfl, hp⟩
    · exact absurd ⟨by rw [k2]; decide, by rw [k2]; decide, fun _ => ⟨m, hm, e⟩⟩ h
  · exact br_f k2 (br_c (fun _ => hp) (fun h1 => br_c (fun _ => hp) (fun h2 => absurd ⟨h1, h2, fun h3 => absurd h3 k2⟩ h)))
theorem ny_tk1 {U T N : Nat} {K V ln ue dc us ow st w ch ds po ps pv rc rd fS fP fN : Nat → Int32} {post : Int32 → Prop} {k v : Int32} (hN : N ≤ 16) (h : nh_tk N k v) (hp : post 1) : wpY_okKind post (nI U, nI T, nI N, K, V, ln, ue, dc, us, ow, st, w, ch, ds, po, ps, pv, rc, rd, fS, fP, fN) k v := by
  refine br_f h.1 (br_t (Int32.not_lt.mp h.2.1) ?_)
  by_cases k2 : k = 2
  · obtain ⟨m, hm, rfl⟩ := h.2.2 k2
    exact br_t k2 (br_f (nI_pos (by omega)) (br_f (nI_ge hm (by omega)) hp))
  · exact br_f k2 hp
theorem ny_tk0 {U T N : Nat} {K V ln ue dc us ow st w ch ds po ps pv rc rd fS fP fN : Nat → Int32} {post : Int32 → Prop} {k v : Int32} (hN : N ≤ 16) (h : ¬ nh_tk N k v) (hp : post 0) : wpY_okKind post (nI U, nI T, nI N, K, V, ln, ue, dc, us, ow, st, w, ch, ds, po, ps, pv, rc, rd, fS, fP, fN) k v := by
  refine br_c (fun _ => hp) (fun h1 => br_c (fun h2 => ?_) (fun _ => hp))
  by_cases k2 : k = 2
  · refine br_t k2 ?_
    rcases pk_ix v (n := N) (by omega) with ho | ho | ⟨m, hm, e⟩
    · exact br_t ho hp
    · exact br_f (nh_nn (by omega) ho) (br_t ho hp)
    · exact absurd ⟨h1, Int32.not_lt.mpr h2, fun _ => ⟨m, hm, e⟩⟩ h
  · exact absurd ⟨h1, Int32.not_lt.mpr h2, fun h3 => absurd h3 k2⟩ h
def nh_tv (k v : Int32) : Int32 := if k = 1 then v else if k = 2 then v else 0
theorem nh_tvk {N : Nat} {k v : Int32} (h : nh_tk N k v) : k = 2 → ∃ m, m < N ∧ nh_tv k v = nI m := by
  intro k2
  obtain ⟨m, hm, e⟩ := h.2.2 k2
  refine ⟨m, hm, ?_⟩
  rw [nh_tv, if_neg (by rw [k2]; decide), if_pos k2, e]
theorem nx_put {U T N : Nat} {on ok fl dp tt pr : Int32} {K V ln ue dc uu ow st w ch no ns nr es nu re oT oP : Nat → Int32} {post : SX → Prop} {u i : Nat} {k v : Int32} (hi : u * 32 + i < 256) (hp : post (nI U, nI T, nI N, on, ok, fl, dp, tt, pr, upd K (u * 32 + i) k, upd V (u * 32 + i) (nh_tv k v), ln, ue, dc, uu, ow, st, w, ch, no, ns, nr, es, nu, re, oT, oP)) : wpX_putToken post (nI U, nI T, nI N, on, ok, fl, dp, tt, pr, K, V, ln, ue, dc, uu, ow, st, w, ch, no, ns, nr, es, nu, re, oT, oP) (nI u) (nI i) k v := by
  have hin : vp_in (nI (u * 32 + i)) 256 := vp_in_nI hi (by decide)
  refine nm_r (nh_c32 u i) ⟨hin, ?_⟩
  rw [nI_clamp (n := u * 32 + i) (by omega)]
  refine nm_e ?_
  by_cases k1 : k = 1
  · rw [nh_tv, if_pos k1] at hp
    exact br_t k1 ⟨hin, nm_e hp⟩
  · rw [nh_tv, if_neg k1] at hp
    by_cases k2 : k = 2
    · rw [if_pos k2] at hp
      exact br_f k1 (br_t k2 ⟨hin, nm_e hp⟩)
    · rw [if_neg k2] at hp
      exact br_f k1 (br_f k2 ⟨hin, nm_e hp⟩)
theorem ny_put {U T N : Nat} {K V ln ue dc us ow st w ch ds po ps pv rc rd fS fP fN : Nat → Int32} {post : SY → Prop} {p : Nat} {k v : Int32} (hi : p < 256) (hp : post (nI U, nI T, nI N, upd K p k, upd V p (nh_tv k v), ln, ue, dc, us, ow, st, w, ch, ds, po, ps, pv, rc, rd, fS, fP, fN)) : wpY_put post (nI U, nI T, nI N, K, V, ln, ue, dc, us, ow, st, w, ch, ds, po, ps, pv, rc, rd, fS, fP, fN) (nI p) k v := by
  have hin : vp_in (nI p) 256 := vp_in_nI hi (by decide)
  refine ⟨hin, ?_⟩
  rw [nI_clamp (n := p) (by omega)]
  refine nm_e ?_
  by_cases k1 : k = 1
  · rw [nh_tv, if_pos k1] at hp
    exact br_t k1 ⟨hin, nm_e hp⟩
  · rw [nh_tv, if_neg k1] at hp
    by_cases k2 : k = 2
    · rw [if_pos k2] at hp
      exact br_f k1 (br_t k2 ⟨hin, nm_e hp⟩)
    · rw [if_neg k2] at hp
      exact br_f k1 (br_f k2 ⟨hin, nm_e hp⟩)
theorem nx_move {U T N : Nat} {on ok fl dp tt pr : Int32} {K V ln ue dc uu ow st w ch no ns nr es nu re oT oP : Nat → Int32} {post : SX → Prop} {u i j : Nat} (hi : u * 32 + i < 256) (hj : u * 32 + j < 256) (hp : post (nI U, nI T, nI N, on, ok, fl, dp, tt, pr, upd K (u * 32 + j) (K (u * 32 + i)), upd V (u * 32 + j) (V (u * 32 + i)), ln, ue, dc, uu, ow, st, w, ch, no, ns, nr, es, nu, re, oT, oP)) : wpX_moveToken post (nI U, nI T, nI N, on, ok, fl, dp, tt, pr, K, V, ln, ue, dc, uu, ow, st, w, ch, no, ns, nr, es, nu, re, oT, oP) (nI u) (nI i) (nI j) := by
  have h1 : vp_in (nI (u * 32 + i)) 256 := vp_in_nI hi (by decide)
  have h2 : vp_in (nI (u * 32 + j)) 256 := vp_in_nI hj (by decide)
  refine nm_r (nh_e32 u) ?_
  rw [nI_add, nI_add, nI_clamp (n := u * 32 + i) (by omega), nI_clamp (n := u * 32 + j) (by omega)]
  exact ⟨h1, h2, nm_e ⟨h1, h2, nm_e hp⟩⟩
theorem nx_ht1 {U T N : Nat} {on ok fl dp tt pr : Int32} {K V ln ue dc uu ow st w ch no ns nr es nu re oT oP : Nat → Int32} {post : Int32 → Prop} {u i L : Nat} (hU : U ≤ 8) (hu : u < U) (hl : ln u = nI L) (hL : L ≤ 32) (hi : i < L) (hp : post 1) : wpX_holdsToken post (nI U, nI T, nI N, on, ok, fl, dp, tt, pr, K, V, ln, ue, dc, uu, ow, st, w, ch, no, ns, nr, es, nu, re, oT, oP) (nI u) (nI i) := by
  unfold wpX_holdsToken
  refine nx_hu1 hU hu (br_f (by decide) (br_f (nI_pos (by omega)) ⟨vp_in_nI (by omega) (by decide), ?_⟩))
  rw [nI_clamp (n := u) (by omega), hl]
  exact br_f (nI_ge hi (by omega)) hp
theorem nx_ht0 {U T N : Nat} {on ok fl dp tt pr : Int32} {K V ln ue dc uu ow st w ch no ns nr es nu re oT oP : Nat → Int32} {post : Int32 → Prop} {u L : Nat} {x : Int32} (hU : U ≤ 8) (hu : u < U) (hl : ln u = nI L) (hL : L ≤ 32) (hx : x < 0 ∨ nI L ≤ x) (hp : post 0) : wpX_holdsToken post (nI U, nI T, nI N, on, ok, fl, dp, tt, pr, K, V, ln, ue, dc, uu, ow, st, w, ch, no, ns, nr, es, nu, re, oT, oP) (nI u) x := by
  unfold wpX_holdsToken
  refine nx_hu1 hU hu (br_f (by decide) ?_)
  rcases hx with h | h
  · exact br_t h hp
  · refine br_f (nh_nn (by omega) h) ⟨vp_in_nI (by omega) (by decide), ?_⟩
    rw [nI_clamp (n := u) (by omega), hl]
    exact br_t h hp
theorem nx_htu {U T N : Nat} {on ok fl dp tt pr : Int32} {K V ln ue dc uu ow st w ch no ns nr es nu re oT oP : Nat → Int32} {post : Int32 → Prop} {x y : Int32} (hU : U ≤ 8) (hx : x < 0 ∨ nI U ≤ x) (hp : post 0) : wpX_holdsToken post (nI U, nI T, nI N, on, ok, fl, dp, tt, pr, K, V, ln, ue, dc, uu, ow, st, w, ch, no, ns, nr, es, nu, re, oT, oP) x y := by
  unfold wpX_holdsToken
  exact nx_hu0 hU hx (br_t rfl hp)
/-! the shifts: up from the end (insert), down from an index (delete) -/
def nh_sh (b i : Nat) : Nat → (Nat → Int32) → Nat → Int32
  | 0, K => K
  | d + 1, K => nh_sh b i d (upd K (b + (i + d + 1)) (K (b + (i + d))))
def nh_sd (b : Nat) : Nat → Nat → (Nat → Int32) → Nat → Int32
  | 0, _, K => K
  | d + 1, j, K => nh_sd b d (j + 1) (upd K (b + j) (K (b + (j + 1))))
theorem nh_TVc {N : Nat} {K V : Nat → Int32} {p q : Nat} (h : nh_TV N K V) : nh_TV N (upd K p (K q)) (upd V p (V q)) := nh_TVu h (fun e => h q e)
theorem nh_shT {N b i : Nat} : ∀ (d : Nat) (K V : Nat → Int32), nh_TV N K V → nh_TV N (nh_sh b i d K) (nh_sh b i d V) := by
  intro d
  induction d with
  | zero => intro K V h; exact h
  | succ d ih => intro K V h; exact ih _ _ (nh_TVc h)
theorem nh_sdT {N b : Nat} : ∀ (d j : Nat) (K V : Nat → Int32), nh_TV N K V → nh_TV N (nh_sd b d j K) (nh_sd b d j V) := by
  intro d
  induction d with
  | zero => intro j K V h; exact h
  | succ d ih => intro j K V h; exact ih _ _ _ (nh_TVc h)
theorem nx_ins {U T N : Nat} {on ok fl dp tt pr : Int32} {ln ue dc uu ow st w ch no ns nr es nu re oT oP : Nat → Int32} {post : Int32 → SX → Prop} {u i L : Nat} {k v : Int32} (hu : u < 8) (hl : ln u = nI L) : ∀ (d n : Nat) (K V : Nat → Int32), i + d ≤ 31 → d < n →
    post 1 (nI U, nI T, nI N, on, ok, fl, dp, tt, pr, upd (nh_sh (u * 32) i d K) (u * 32 + i) k, upd (nh_sh (u * 32) i d V) (u * 32 + i) (nh_tv k v), upd ln u (nI (L + 1)), ue, dc, uu, ow, st, w, ch, no, ns, nr, es, nu, re, oT, oP) → wX_insertToken_57 post (nI u) (nI i) k v n (nI (i + d)) (nI U) (nI T) (nI N) on ok fl dp tt pr K V ln ue dc uu ow st w ch no ns nr es nu re oT oP := by
  have h8 : vp_in (nI u) 8 := vp_in_nI hu (by decide)
  intro d
  induction d with
  | zero =>
    intro n K V hd hn hp
    obtain ⟨m, rfl⟩ : ∃ m, n = m + 1 := ⟨n - 1, by omega⟩
    refine br_t (nI_le (by omega) (by omega)) (nx_put (by omega) ⟨h8, h8, ?_⟩)
    rw [nI_clamp (n := u) (by omega), hl]
    exact nm_r (congrArg (upd ln u) (nI_1 L)) hp
  | succ d ih =>
    intro n K V hd hn hp
    obtain ⟨m, rfl⟩ : ∃ m, n = m + 1 := ⟨n - 1, by omega⟩
    refine br_f (nI_ge (by omega) (by omega)) ?_
    rw [show nI (i + (d + 1)) - 1 = nI (i + d) from nI_pred (i + d)]
    exact nx_move (by omega) (by omega) (nm_r (pk_m1 (i + d)) (ih m _ _ (by omega) (by omega) hp))
theorem ny_ins {U T N : Nat} {ln ue dc us ow st w ch ds po ps pv rc rd fS fP fN : Nat → Int32} {post : Int32 → SY → Prop} {u i L : Nat} {k v : Int32} (hu : u < 8) (hl : ln u = nI L) : ∀ (d n : Nat) (K V : Nat → Int32), i + d ≤ 31 → d < n →
    post 1 (nI U, nI T, nI N, upd (nh_sh (u * 32) i d K) (u * 32 + i) k, upd (nh_sh (u * 32) i d V) (u * 32 + i) (nh_tv k v), upd ln u (nI (L + 1)), ue, dc, us, ow, st, w, ch, ds, po, ps, pv, rc, rd, fS, fP, fN) → wY_insertToken_61 post (nI u) (nI i) k v (nI (u * 32)) (nI U) (nI T) (nI N) n (nI (i + d)) K V ln ue dc us ow st w ch ds po ps pv rc rd fS fP fN := by
  have h8 : vp_in (nI u) 8 := vp_in_nI hu (by decide)
  intro d
  induction d with
  | zero =>
    intro n K V hd hn hp
    obtain ⟨m, rfl⟩ : ∃ m, n = m + 1 := ⟨n - 1, by omega⟩
    refine br_t (nI_le (by omega) (by omega)) ?_
    rw [nI_add]
    refine ny_put (by omega) ⟨h8, h8, ?_⟩
    rw [nI_clamp (n := u) (by omega), hl]
    exact nm_r (congrArg (upd ln u) (nI_1 L)) hp
  | succ d ih =>
    intro n K V hd hn hp
    obtain ⟨m, rfl⟩ : ∃ m, n = m + 1 := ⟨n - 1, by omega⟩
    have h1 : vp_in (nI (u * 32 + (i + d))) 256 := vp_in_nI (by omega) (by decide)
    have h2 : vp_in (nI (u * 32 + (i + d + 1))) 256 := vp_in_nI (by omega) (by decide)
    refine br_f (nI_ge (by omega) (by omega)) ?_
    rw [nI_add, show nI (u * 32 + (i + (d + 1))) - 1 = nI (u * 32 + (i + d)) from nI_pred (u * 32 + (i + d)), nI_clamp (n := u * 32 + (i + d)) (by omega), nI_clamp (n := u * 32 + (i + (d + 1))) (by omega)]
    exact ⟨h1, h2, nm_e ⟨h1, h2, nm_e (nm_r (pk_m1 (i + d)) (ih m _ _ (by omega) (by omega) hp))⟩⟩
theorem nx_del {U T N : Nat} {on ok fl dp tt pr : Int32} {ln ue dc uu ow st w ch no ns nr es nu re oT oP : Nat → Int32} {post : Int32 → SX → Prop} {u L : Nat} (hu : u < 8) (hl : ln u = nI (L + 1)) (hL : L < 32) : ∀ (d j n : Nat) (K V : Nat → Int32), j + d = L → d < n →
    post 1 (nI U, nI T, nI N, on, ok, fl, dp, tt, pr, nh_sd (u * 32) d j K, nh_sd (u * 32) d j V, upd ln u (nI L), ue, dc, uu, ow, st, w, ch, no, ns, nr, es, nu, re, oT, oP) → wX_deleteToken_15 post (nI u) n (nI (j + 1)) (nI U) (nI T) (nI N) on ok fl dp tt pr K V ln ue dc uu ow st w ch no ns nr es nu re oT oP := by
  have h8 : vp_in (nI u) 8 := vp_in_nI hu (by decide)
  intro d
  induction d with
  | zero =>
    intro j n K V hd hn hp
    obtain ⟨m, rfl⟩ : ∃ m, n = m + 1 := ⟨n - 1, by omega⟩
    refine ⟨h8, ?_⟩
    rw [nI_clamp (n := u) (by omega), hl]
    exact br_t (nI_le (by omega) (by omega)) ⟨h8, h8, nm_r (congrArg (upd ln u) (nI_pred L)) hp⟩
  | succ d ih =>
    intro j n K V hd hn hp
    obtain ⟨m, rfl⟩ : ∃ m, n = m + 1 := ⟨n - 1, by omega⟩
    refine ⟨h8, ?_⟩
    rw [nI_clamp (n := u) (by omega), hl, nI_pred j]
    exact br_f (nI_ge (by omega) (by omega)) (nx_move (by omega) (by omega) (nm_r (nI_1 (j + 1)) (ih (j + 1) m _ _ (by omega) (by omega) hp)))
theorem ny_del {U T N : Nat} {ln ue dc us ow st w ch ds po ps pv rc rd fS fP fN : Nat → Int32} {post : Int32 → SY → Prop} {u L : Nat} (hu : u < 8) (hl : ln u = nI (L + 1)) (hL : L < 32) : ∀ (d j n : Nat) (K V : Nat → Int32), j + d = L → d < n →
    post 1 (nI U, nI T, nI N, nh_sd (u * 32) d j K, nh_sd (u * 32) d j V, upd ln u (nI L), ue, dc, us, ow, st, w, ch, ds, po, ps, pv, rc, rd, fS, fP, fN) → wY_deleteToken_32 post (nI u) (nI (u * 32)) (nI U) (nI T) (nI N) n (nI j) K V ln ue dc us ow st w ch ds po ps pv rc rd fS fP fN := by
  have h8 : vp_in (nI u) 8 := vp_in_nI hu (by decide)
  intro d
  induction d with
  | zero =>
    intro j n K V hd hn hp
    obtain ⟨m, rfl⟩ : ∃ m, n = m + 1 := ⟨n - 1, by omega⟩
    refine ⟨h8, ?_⟩
    rw [nI_clamp (n := u) (by omega), hl, nI_pred L]
    exact br_t (nI_le (by omega) (by omega)) ⟨h8, h8, nm_e hp⟩
  | succ d ih =>
    intro j n K V hd hn hp
    obtain ⟨m, rfl⟩ : ∃ m, n = m + 1 := ⟨n - 1, by omega⟩
    have h1 : vp_in (nI (u * 32 + j)) 256 := vp_in_nI (by omega) (by decide)
    have h2 : vp_in (nI (u * 32 + (j + 1))) 256 := vp_in_nI (by omega) (by decide)
    refine ⟨h8, ?_⟩
    rw [nI_clamp (n := u) (by omega), hl, nI_pred L]
    refine br_f (nI_ge (by omega) (by omega)) ?_
    rw [nI_add, show nI (u * 32 + j) + 1 = nI (u * 32 + (j + 1)) from nI_1 (u * 32 + j), nI_clamp (n := u * 32 + j) (by omega), nI_clamp (n := u * 32 + (j + 1)) (by omega)]
    exact ⟨h2, h1, nm_e ⟨h2, h1, nm_e (nm_r (nI_1 j) (ih (j + 1) m _ _ (by omega) (by omega) hp))⟩⟩
end
section
/-! 18: the relation; edits -/
/-- sizes, tokens, lengths and results are the same on both sides; the uses agree bit by bit -/
def i_Rel (_ : Nat) (u : SX) (v : SY) : Prop :=
  ∃ (U T N : Nat) (on ok fl dp tt pr : Int32) (K V ln ue dc uu ow st w ch no ns nr es nu re oT oP us ds po ps pv rc rd fS fP fN : Nat → Int32), u = (nI U, nI T, nI N, on, ok, fl, dp, tt, pr, K, V, ln, ue, dc, uu, ow, st, w, ch, no, ns, nr, es, nu, re, oT, oP) ∧ v = (nI U, nI T, nI N, K, V, ln, ue, dc, us, ow, st, w, ch, ds, po, ps, pv, rc, rd, fS, fP, fN) ∧ nh_Rel U T N K V ln ue uu us
theorem i_up {k : Nat} {u : SX} {v : SY} (h : i_Rel k u v) : i_Rel (k + 5) u v := h
theorem nh_mkR {k : Nat} {U T N : Nat} {on ok fl dp tt pr : Int32} {K V ln ue dc uu ow st w ch no ns nr es nu re oT oP : Nat → Int32} {us ds po ps pv rc rd fS fP fN : Nat → Int32} (h : nh_Rel U T N K V ln ue uu us) : i_Rel k (nI U, nI T, nI N, on, ok, fl, dp, tt, pr, K, V, ln, ue, dc, uu, ow, st, w, ch, no, ns, nr, es, nu, re, oT, oP) (nI U, nI T, nI N, K, V, ln, ue, dc, us, ow, st, w, ch, ds, po, ps, pv, rc, rd, fS, fP, fN) :=
  ⟨U, T, N, on, ok, fl, dp, tt, pr, K, V, ln, ue, dc, uu, ow, st, w, ch, no, ns, nr, es, nu, re, oT, oP, us, ds, po, ps, pv, rc, rd, fS, fP, fN, rfl, rfl, h⟩
theorem nh_RT {U T N : Nat} {K V ln ue uu us K' V' ln' : Nat → Int32} (h : nh_Rel U T N K V ln ue uu us) (h1 : nh_TV N K' V') (h2 : ∀ u, ∃ l, l ≤ T ∧ ln' u = nI l) : nh_Rel U T N K' V' ln' ue uu us :=
  ⟨h.1, h.2.1, h.2.2.1, h2, h1, h.2.2.2.2.2⟩
theorem nh_lnu {T u l : Nat} {ln : Nat → Int32} (h : ∀ u, ∃ l, l ≤ T ∧ ln u = nI l) (hl : l ≤ T) : ∀ u', ∃ l', l' ≤ T ∧ upd ln u (nI l) u' = nI l' := by
  intro u'
  by_cases e : u' = u
  · rw [e, pk_us]; exact ⟨l, hl, rfl⟩
  · rw [pk_un e]; exact h u'
theorem i_vc_append {k : Nat} {u : SX} {v : SY} (I : i_Rel k u v) (hk : k + 5 ≤ 2563) (v1 : Int32) (v2 : Int32) (v3 : Int32) : wpX_append (fun r u' => wpY_append (fun r' v' => r' = r ∧ i_Rel (k + 5) u' v') v v1 v2 v3) u v1 v2 v3 := by
  obtain ⟨U, T, N, on, ok, fl, dp, tt, pr, K, V, ln, ue, dc, uu, ow, st, w, ch, no, ns, nr, es, nu, re, oT, oP, us, ds, po, ps, pv, rc, rd, fS, fP, fN, rfl, rfl, h⟩ := I
  obtain ⟨⟨hU2, hU⟩, ⟨hT8, hT⟩, ⟨hN4, hN⟩, hln, hTV, _⟩ := id h
  unfold wpX_append
  rcases pk_ix v1 (n := U) (by omega) with ho | ho | ⟨u, hu, rfl⟩
  · refine nx_hu0 hU (Or.inl ho) (br_t rfl ?_)
    unfold wpY_append
    exact ny_bu0 hU (Or.inl ho) (br_f (by decide) ⟨rfl, nh_mkR h⟩)
  · refine nx_hu0 hU (Or.inr ho) (br_t rfl ?_)
    unfold wpY_append
    exact ny_bu0 hU (Or.inr ho) (br_f (by decide) ⟨rfl, nh_mkR h⟩)
  · have h8 : vp_in (nI u) 8 := vp_in_nI (by omega) (by decide)
    obtain ⟨L, hL, hl⟩ := hln u
    refine nx_hu1 hU hu (br_f (by decide) ?_)
    by_cases htk : nh_tk N v2 v3
    · refine nx_tk1 hN htk (br_f (by decide) ⟨h8, ?_⟩)
      rw [nI_clamp (n := u) (by omega), hl]
      by_cases hLT : L < T
      · refine br_t (nI_lt hLT (by omega)) ⟨h8, nx_put (by omega) ⟨h8, h8, ?_⟩⟩
        rw [hl]
        refine nm_r (congrArg (upd ln u) (nI_1 L)) ?_
        unfold wpY_append
        refine ny_bu1 hU hu (br_t rfl (ny_tk1 hN htk (br_f (by decide) ⟨h8, ?_⟩)))
        rw [nI_clamp (n := u) (by omega), hl, nh_c32]
        refine br_t (nI_lt hLT (by omega)) ⟨h8, ny_put (by omega) ⟨h8, h8, ?_⟩⟩
        rw [hl]
        exact nm_r (congrArg (upd ln u) (nI_1 L)) ⟨rfl, nh_mkR (nh_RT h (nh_TVu hTV (nh_tvk htk)) (nh_lnu hln (by omega)))⟩
      · refine br_f (nI_nlt (by omega) (by omega)) ?_
        unfold wpY_append
        refine ny_bu1 hU hu (br_t rfl (ny_tk1 hN htk (br_f (by decide) ⟨h8, ?_⟩)))
        rw [nI_clamp (n := u) (by omega), hl]
        exact br_f (nI_nlt (by omega) (by omega)) ⟨rfl, nh_mkR h⟩
    · refine nx_tk0 hN htk (br_t rfl ?_)
      unfold wpY_append
      exact ny_bu1 hU hu (br_t rfl (ny_tk0 hN htk (br_t rfl ⟨rfl, nh_mkR h⟩)))
theorem i_vc_setToken {k : Nat} {u : SX} {v : SY} (I : i_Rel k u v) (hk : k + 5 ≤ 2563) (v1 : Int32) (v2 : Int32) (v3 : Int32) (v4 : Int32) : wpX_setToken (fun r u' => wpY_setToken (fun r' v' => r' = r ∧ i_Rel (k + 5) u' v') v v1 v2 v3 v4) u v1 v2 v3 v4 := by
  obtain ⟨U, T, N, on, ok, fl, dp, tt, pr, K, V, ln, ue, dc, uu, ow, st, w, ch, no, ns, nr, es, nu, re, oT, oP, us, ds, po, ps, pv, rc, rd, fS, fP, fN, rfl, rfl, h⟩ := I
  obtain ⟨⟨hU2, hU⟩, ⟨hT8, hT⟩, ⟨hN4, hN⟩, hln, hTV, hus, hue⟩ := id h
  unfold wpX_setToken
  rcases pk_ix v1 (n := U) (by omega) with ho | ho | ⟨u, hu, rfl⟩
  · refine nx_htu hU (Or.inl ho) (br_t rfl ?_)
    unfold wpY_setToken
    exact ny_bu0 hU (Or.inl ho) (br_f (by decide) ⟨rfl, nh_mkR h⟩)
  · refine nx_htu hU (Or.inr ho) (br_t rfl ?_)
    unfold wpY_setToken
    exact ny_bu0 hU (Or.inr ho) (br_f (by decide) ⟨rfl, nh_mkR h⟩)
  · have h8 : vp_in (nI u) 8 := vp_in_nI (by omega) (by decide)
    obtain ⟨L, hL, hl⟩ := hln u
    rcases pk_ix v2 (n := L) (by omega) with ho | ho | ⟨i, hi, rfl⟩
    · refine nx_ht0 hU hu hl (by omega) (Or.inl ho) (br_t rfl ?_)
      unfold wpY_setToken
      exact ny_bu1 hU hu (br_t rfl (br_t ho ⟨rfl, nh_mkR h⟩))
    · refine nx_ht0 hU hu hl (by omega) (Or.inr ho) (br_t rfl ?_)
      unfold wpY_setToken
      refine ny_bu1 hU hu (br_t rfl (br_f (nh_nn (by omega) ho) ⟨h8, ?_⟩))
      rw [nI_clamp (n := u) (by omega), hl]
      exact br_t ho ⟨rfl, nh_mkR h⟩
    · refine nx_ht1 hU hu hl (by omega) hi (br_f (by decide) ?_)
      by_cases htk : nh_tk N v3 v4
      · refine nx_tk1 hN htk (br_f (by decide) (nx_put (by omega) ?_))
        unfold wpY_setToken
        refine ny_bu1 hU hu (br_t rfl (br_f (nI_pos (by omega)) ⟨h8, ?_⟩))
        rw [nI_clamp (n := u) (by omega), hl, nh_c32]
        exact br_f (nI_ge hi (by omega)) (ny_tk1 hN htk (br_f (by decide) (ny_put (by omega) ⟨rfl, nh_mkR (nh_RT h (nh_TVu hTV (nh_tvk htk)) hln)⟩)))
      · refine nx_tk0 hN htk (br_t rfl ?_)
        unfold wpY_setToken
        refine ny_bu1 hU hu (br_t rfl (br_f (nI_pos (by omega)) ⟨h8, ?_⟩))
        rw [nI_clamp (n := u) (by omega), hl]
        exact br_f (nI_ge hi (by omega)) (ny_tk0 hN htk (br_t rfl ⟨rfl, nh_mkR h⟩))
theorem i_vc_insertToken {k : Nat} {u : SX} {v : SY} (I : i_Rel k u v) (hk : k + 5 ≤ 2563) (v1 : Int32) (v2 : Int32) (v3 : Int32) (v4 : Int32) : wpX_insertToken (fun r u' => wpY_insertToken (fun r' v' => r' = r ∧ i_Rel (k + 5) u' v') v v1 v2 v3 v4) u v1 v2 v3 v4 := by
  obtain ⟨U, T, N, on, ok, fl, dp, tt, pr, K, V, ln, ue, dc, uu, ow, st, w, ch, no, ns, nr, es, nu, re, oT, oP, us, ds, po, ps, pv, rc, rd, fS, fP, fN, rfl, rfl, h⟩ := I
  obtain ⟨⟨hU2, hU⟩, ⟨hT8, hT⟩, ⟨hN4, hN⟩, hln, hTV, hus, hue⟩ := id h
  unfold wpX_insertToken
  rcases pk_ix v1 (n := U) (by omega) with ho | ho | ⟨u, hu, rfl⟩
  · refine nx_hu0 hU (Or.inl ho) (br_t rfl ?_)
    unfold wpY_insertToken
    exact ny_bu0 hU (Or.inl ho) (br_f (by decide) ⟨rfl, nh_mkR h⟩)
  · refine nx_hu0 hU (Or.inr ho) (br_t rfl ?_)
    unfold wpY_insertToken
    exact ny_bu0 hU (Or.inr ho) (br_f (by decide) ⟨rfl, nh_mkR h⟩)
  · have h8 : vp_in (nI u) 8 := vp_in_nI (by omega) (by decide)
    have hcu : (nI u).toNatClampNeg = u := nI_clamp (by omega)
    obtain ⟨L, hL, hl⟩ := hln u
    refine nx_hu1 hU hu (br_f (by decide) ?_)
    rcases pk_ix v2 (n := L + 1) (by omega) with ho | ho | ⟨i, hi, rfl⟩
    · refine br_t ho ?_
      unfold wpY_insertToken
      exact ny_bu1 hU hu (br_t rfl (br_t ho ⟨rfl, nh_mkR h⟩))
    · have hnle : ¬ v2 ≤ nI L := fun h' => nI_ge (Nat.lt_succ_self L) (by omega) (Int32.le_trans ho h')
      refine br_f (nh_nn (by omega) ho) ⟨h8, ?_⟩
      rw [hcu, hl]
      refine br_f hnle ?_
      unfold wpY_insertToken
      refine ny_bu1 hU hu (br_t rfl (br_f (nh_nn (by omega) ho) ⟨h8, ?_⟩))
      rw [hcu, hl]
      exact br_t (Int32.not_le.mp hnle) ⟨rfl, nh_mkR h⟩
    · refine br_f (nI_pos (by omega)) ⟨h8, ?_⟩
      rw [hcu, hl]
      refine br_t (nI_le (by omega) (by omega)) ?_
      by_cases htk : nh_tk N v3 v4
      · refine nx_tk1 hN htk (br_f (by decide) ⟨h8, ?_⟩)
        by_cases hLT : L < T
        · refine br_t (nI_lt hLT (by omega)) ⟨h8, nm_e ⟨L + 1, ?_⟩⟩
          obtain ⟨d, rfl⟩ : ∃ d, L = i + d := ⟨L - i, by omega⟩
          refine nx_ins (by omega) hl d _ K V (by omega) (by omega) ?_
          unfold wpY_insertToken
          refine ny_bu1 hU hu (br_t rfl (br_f (nI_pos (by omega)) ⟨h8, ?_⟩))
          rw [hcu, hl]
          refine br_f (nI_nlt (by omega) (by omega)) (ny_tk1 hN htk (br_f (by decide) ⟨h8, ?_⟩))
          refine br_t (nI_lt hLT (by omega)) (nm_r (nh_e32 u) ⟨h8, nm_e ⟨i + d + 1, ?_⟩⟩)
          exact ny_ins (by omega) hl d _ K V (by omega) (by omega) ⟨rfl, nh_mkR (nh_RT h (nh_TVu (nh_shT d K V hTV) (nh_tvk htk)) (nh_lnu hln (by omega)))⟩
        · refine br_f (nI_nlt (by omega) (by omega)) ?_
          unfold wpY_insertToken
          refine ny_bu1 hU hu (br_t rfl (br_f (nI_pos (by omega)) ⟨h8, ?_⟩))
          rw [hcu, hl]
          exact br_f (nI_nlt (by omega) (by omega)) (ny_tk1 hN htk (br_f (by decide) ⟨h8, br_f (nI_nlt (by omega) (by omega)) ⟨rfl, nh_mkR h⟩⟩))
      · refine nx_tk0 hN htk (br_t rfl ?_)
        unfold wpY_insertToken
        refine ny_bu1 hU hu (br_t rfl (br_f (nI_pos (by omega)) ⟨h8, ?_⟩))
        rw [hcu, hl]
        exact br_f (nI_nlt (by omega) (by omega)) (ny_tk0 hN htk (br_t rfl ⟨rfl, nh_mkR h⟩))
theorem i_vc_deleteToken {k : Nat} {u : SX} {v : SY} (I : i_Rel k u v) (hk : k + 5 ≤ 2563) (v1 : Int32) (v2 : Int32) : wpX_deleteToken (fun r u' => wpY_deleteToken (fun r' v' => r' = r ∧ i_Rel (k + 5) u' v') v v1 v2) u v1 v2 := by
  obtain ⟨U, T, N, on, ok, fl, dp, tt, pr, K, V, ln, ue, dc, uu, ow, st, w, ch, no, ns, nr, es, nu, re, oT, oP, us, ds, po, ps, pv, rc, rd, fS, fP, fN, rfl, rfl, h⟩ := I
  obtain ⟨⟨hU2, hU⟩, ⟨hT8, hT⟩, ⟨hN4, hN⟩, hln, hTV, hus, hue⟩ := id h
  unfold wpX_deleteToken
  rcases pk_ix v1 (n := U) (by omega) with ho | ho | ⟨u, hu, rfl⟩
  · refine nx_htu hU (Or.inl ho) (br_t rfl ?_)
    unfold wpY_deleteToken
    exact ny_bu0 hU (Or.inl ho) (br_f (by decide) ⟨rfl, nh_mkR h⟩)
  · refine nx_htu hU (Or.inr ho) (br_t rfl ?_)
    unfold wpY_deleteToken
    exact ny_bu0 hU (Or.inr ho) (br_f (by decide) ⟨rfl, nh_mkR h⟩)
  · have h8 : vp_in (nI u) 8 := vp_in_nI (by omega) (by decide)
    have hcu : (nI u).toNatClampNeg = u := nI_clamp (by omega)
    obtain ⟨L, hL, hl⟩ := hln u
    rcases pk_ix v2 (n := L) (by omega) with ho | ho | ⟨i, hi, rfl⟩
    · refine nx_ht0 hU hu hl (by omega) (Or.inl ho) (br_t rfl ?_)
      unfold wpY_deleteToken
      exact ny_bu1 hU hu (br_t rfl (br_t ho ⟨rfl, nh_mkR h⟩))
    · refine nx_ht0 hU hu hl (by omega) (Or.inr ho) (br_t rfl ?_)
      unfold wpY_deleteToken
      refine ny_bu1 hU hu (br_t rfl (br_f (nh_nn (by omega) ho) ⟨h8, ?_⟩))
      rw [hcu, hl]
      exact br_f (Int32.not_lt.mpr ho) ⟨rfl, nh_mkR h⟩
    · refine nx_ht1 hU hu hl (by omega) hi (br_f (by decide) (nm_r (nI_1 i) ⟨L + 1, ?_⟩))
      obtain ⟨d, rfl⟩ : ∃ d, L = i + d + 1 := ⟨L - i - 1, by omega⟩
      refine nx_del (by omega) hl (by omega) d i _ K V rfl (by omega) ?_
      unfold wpY_deleteToken
      refine ny_bu1 hU hu (br_t rfl (br_f (nI_pos (by omega)) ⟨h8, ?_⟩))
      rw [hcu, hl]
      refine br_t (nI_lt hi (by omega)) (nm_r (nh_e32 u) ⟨i + d + 1, ?_⟩)
      exact ny_del (by omega) hl (by omega) d i _ K V rfl (by omega) ⟨rfl, nh_mkR (nh_RT h (nh_sdT d i K V hTV) (nh_lnu hln (by omega)))⟩
theorem i_vc_clearUnit {k : Nat} {u : SX} {v : SY} (I : i_Rel k u v) (hk : k + 5 ≤ 2563) (v1 : Int32) : wpX_clearUnit (fun r u' => wpY_clearUnit (fun r' v' => r' = r ∧ i_Rel (k + 5) u' v') v v1) u v1 := by
  obtain ⟨U, T, N, on, ok, fl, dp, tt, pr, K, V, ln, ue, dc, uu, ow, st, w, ch, no, ns, nr, es, nu, re, oT, oP, us, ds, po, ps, pv, rc, rd, fS, fP, fN, rfl, rfl, h⟩ := I
  obtain ⟨⟨hU2, hU⟩, ⟨hT8, hT⟩, ⟨hN4, hN⟩, hln, hTV, hus, hue⟩ := id h
  unfold wpX_clearUnit
  rcases pk_ix v1 (n := U) (by omega) with ho | ho | ⟨u, hu, rfl⟩
  · refine nx_hu0 hU (Or.inl ho) (br_t rfl ?_)
    unfold wpY_clearUnit
    exact ny_bu0 hU (Or.inl ho) (br_f (by decide) ⟨rfl, nh_mkR h⟩)
  · refine nx_hu0 hU (Or.inr ho) (br_t rfl ?_)
    unfold wpY_clearUnit
    exact ny_bu0 hU (Or.inr ho) (br_f (by decide) ⟨rfl, nh_mkR h⟩)
  · have h8 : vp_in (nI u) 8 := vp_in_nI (by omega) (by decide)
    have hcu : (nI u).toNatClampNeg = u := nI_clamp (by omega)
    refine nx_hu1 hU hu (br_f (by decide) ⟨h8, ?_⟩)
    rw [hcu]
    refine nm_e ?_
    unfold wpY_clearUnit
    refine ny_bu1 hU hu (br_t rfl ⟨h8, ?_⟩)
    rw [hcu]
    exact nm_e ⟨rfl, nh_mkR (nh_RT h hTV (nh_lnu (l := 0) hln (Nat.zero_le T)))⟩
end
section
/-! 19: build and the queries -/
theorem i_vc_build {k : Nat} {u : SX} {v : SY} (I : i_Rel k u v) (hk : k + 5 ≤ 2563) : wpX_build (fun r u' => wpY_build (fun r' v' => r' = r ∧ i_Rel (k + 5) u' v') v) u := by
  obtain ⟨U, T, N, on, ok, fl, dp, tt, pr, K, V, ln, ue, dc, uu, ow, st, w, ch, no, ns, nr, es, nu, re, oT, oP, us, ds, po, ps, pv, rc, rd, fS, fP, fN, rfl, rfl, h⟩ := I
  obtain ⟨⟨hU2, hU⟩, ⟨hT8, hT⟩, ⟨hN4, hN⟩, hln, hTV, hus, hue⟩ := id h
  refine nx_build hU hN hT hln hTV (fun on' ok' fl' dp' tt' pr' uu' no' ns' nr' es' nu' re' oT' oP' hb hOS hsol => ?_)
  refine ny_build hU hN hT hln hTV hOS hsol (fun us' ds' po' ps' pv' rc' rd' fS' fP' fN' hr => ⟨rfl, nh_mkR ⟨⟨hU2, hU⟩, ⟨hT8, hT⟩, ⟨hN4, hN⟩, hln, hTV, fun u m hu hm => ?_, fun u hu he => ?_⟩⟩)
  · rcases hr u hu m (by omega) with ⟨h1, h2⟩ | ⟨h1, h2⟩
    · rw [h1, if_pos ((hb u hu m (by omega)).mpr h2)]
    · rw [h1, if_neg (fun h3 => h2 ((hb u hu m (by omega)).mp h3))]
  · rw [nh_mxl hu] at he
    refine nh_z.mpr (fun m hm => nh_bt0 (fun h3 => ?_))
    exact he ((hb u hu m hm).mp h3).1
theorem i_vc_getLength {k : Nat} {u : SX} {v : SY} (I : i_Rel k u v) (hk : k + 5 ≤ 2563) (v1 : Int32) : wpX_getLength (fun r => wpY_getLength (fun r' => r' = r ∧ i_Rel (k + 5) u v) v v1) u v1 := by
  obtain ⟨U, T, N, on, ok, fl, dp, tt, pr, K, V, ln, ue, dc, uu, ow, st, w, ch, no, ns, nr, es, nu, re, oT, oP, us, ds, po, ps, pv, rc, rd, fS, fP, fN, rfl, rfl, h⟩ := I
  obtain ⟨⟨hU2, hU⟩, ⟨hT8, hT⟩, ⟨hN4, hN⟩, hln, hTV, hus, hue⟩ := id h
  unfold wpX_getLength
  rcases pk_ix v1 (n := U) (by omega) with ho | ho | ⟨u, hu, rfl⟩
  · refine nx_hu0 hU (Or.inl ho) (br_t rfl ?_)
    unfold wpY_getLength
    exact ny_bu0 hU (Or.inl ho) (br_f (by decide) ⟨rfl, nh_mkR h⟩)
  · refine nx_hu0 hU (Or.inr ho) (br_t rfl ?_)
    unfold wpY_getLength
    exact ny_bu0 hU (Or.inr ho) (br_f (by decide) ⟨rfl, nh_mkR h⟩)
  · have h8 : vp_in (nI u) 8 := vp_in_nI (by omega) (by decide)
    refine nx_hu1 hU hu (br_f (by decide) ⟨h8, ?_⟩)
    unfold wpY_getLength
    exact ny_bu1 hU hu (br_t rfl ⟨h8, rfl, nh_mkR h⟩)
theorem i_vc_getUnitError {k : Nat} {u : SX} {v : SY} (I : i_Rel k u v) (hk : k + 5 ≤ 2563) (v1 : Int32) : wpX_getUnitError (fun r => wpY_getUnitError (fun r' => r' = r ∧ i_Rel (k + 5) u v) v v1) u v1 := by
  obtain ⟨U, T, N, on, ok, fl, dp, tt, pr, K, V, ln, ue, dc, uu, ow, st, w, ch, no, ns, nr, es, nu, re, oT, oP, us, ds, po, ps, pv, rc, rd, fS, fP, fN, rfl, rfl, h⟩ := I
  obtain ⟨⟨hU2, hU⟩, ⟨hT8, hT⟩, ⟨hN4, hN⟩, hln, hTV, hus, hue⟩ := id h
  unfold wpX_getUnitError
  rcases pk_ix v1 (n := U) (by omega) with ho | ho | ⟨u, hu, rfl⟩
  · refine nx_hu0 hU (Or.inl ho) (br_t rfl ?_)
    unfold wpY_getUnitError
    exact ny_bu0 hU (Or.inl ho) (br_f (by decide) ⟨rfl, nh_mkR h⟩)
  · refine nx_hu0 hU (Or.inr ho) (br_t rfl ?_)
    unfold wpY_getUnitError
    exact ny_bu0 hU (Or.inr ho) (br_f (by decide) ⟨rfl, nh_mkR h⟩)
  · have h8 : vp_in (nI u) 8 := vp_in_nI (by omega) (by decide)
    refine nx_hu1 hU hu (br_f (by decide) ⟨h8, ?_⟩)
    unfold wpY_getUnitError
    exact ny_bu1 hU hu (br_t rfl ⟨h8, rfl, nh_mkR h⟩)
theorem i_vc_getDefCount {k : Nat} {u : SX} {v : SY} (I : i_Rel k u v) (hk : k + 5 ≤ 2563) (v1 : Int32) : wpX_getDefCount (fun r => wpY_getDefCount (fun r' => r' = r ∧ i_Rel (k + 5) u v) v v1) u v1 := by
  obtain ⟨U, T, N, on, ok, fl, dp, tt, pr, K, V, ln, ue, dc, uu, ow, st, w, ch, no, ns, nr, es, nu, re, oT, oP, us, ds, po, ps, pv, rc, rd, fS, fP, fN, rfl, rfl, h⟩ := I
  obtain ⟨⟨hU2, hU⟩, ⟨hT8, hT⟩, ⟨hN4, hN⟩, hln, hTV, hus, hue⟩ := id h
  unfold wpX_getDefCount
  rcases pk_ix v1 (n := U) (by omega) with ho | ho | ⟨u, hu, rfl⟩
  · refine nx_hu0 hU (Or.inl ho) (br_t rfl ?_)
    unfold wpY_getDefCount
    exact ny_bu0 hU (Or.inl ho) (br_f (by decide) ⟨rfl, nh_mkR h⟩)
  · refine nx_hu0 hU (Or.inr ho) (br_t rfl ?_)
    unfold wpY_getDefCount
    exact ny_bu0 hU (Or.inr ho) (br_f (by decide) ⟨rfl, nh_mkR h⟩)
  · have h8 : vp_in (nI u) 8 := vp_in_nI (by omega) (by decide)
    refine nx_hu1 hU hu (br_f (by decide) ⟨h8, ?_⟩)
    unfold wpY_getDefCount
    exact ny_bu1 hU hu (br_t rfl ⟨h8, rfl, nh_mkR h⟩)
theorem i_vc_getTokenKind {k : Nat} {u : SX} {v : SY} (I : i_Rel k u v) (hk : k + 5 ≤ 2563) (v1 : Int32) (v2 : Int32) : wpX_getTokenKind (fun r => wpY_getTokenKind (fun r' => r' = r ∧ i_Rel (k + 5) u v) v v1 v2) u v1 v2 := by
  obtain ⟨U, T, N, on, ok, fl, dp, tt, pr, K, V, ln, ue, dc, uu, ow, st, w, ch, no, ns, nr, es, nu, re, oT, oP, us, ds, po, ps, pv, rc, rd, fS, fP, fN, rfl, rfl, h⟩ := I
  obtain ⟨⟨hU2, hU⟩, ⟨hT8, hT⟩, ⟨hN4, hN⟩, hln, hTV, hus, hue⟩ := id h
  unfold wpX_getTokenKind
  rcases pk_ix v1 (n := U) (by omega) with ho | ho | ⟨u, hu, rfl⟩
  · refine nx_htu hU (Or.inl ho) (br_t rfl ?_)
    unfold wpY_getTokenKind
    exact ny_bu0 hU (Or.inl ho) (br_f (by decide) ⟨rfl, nh_mkR h⟩)
  · refine nx_htu hU (Or.inr ho) (br_t rfl ?_)
    unfold wpY_getTokenKind
    exact ny_bu0 hU (Or.inr ho) (br_f (by decide) ⟨rfl, nh_mkR h⟩)
  · have h8 : vp_in (nI u) 8 := vp_in_nI (by omega) (by decide)
    have hcu : (nI u).toNatClampNeg = u := nI_clamp (by omega)
    obtain ⟨L, hL, hl⟩ := hln u
    rcases pk_ix v2 (n := L) (by omega) with ho | ho | ⟨i, hi, rfl⟩
    · refine nx_ht0 hU hu hl (by omega) (Or.inl ho) (br_t rfl ?_)
      unfold wpY_getTokenKind
      exact ny_bu1 hU hu (br_t rfl (br_t ho ⟨rfl, nh_mkR h⟩))
    · refine nx_ht0 hU hu hl (by omega) (Or.inr ho) (br_t rfl ?_)
      unfold wpY_getTokenKind
      refine ny_bu1 hU hu (br_t rfl (br_f (nh_nn (by omega) ho) ⟨h8, ?_⟩))
      rw [hcu, hl]
      exact br_f (Int32.not_lt.mpr ho) ⟨rfl, nh_mkR h⟩
    · have hin : vp_in (nI u * 32 + nI i) 256 := by rw [nh_c32]; exact vp_in_nI (by omega) (by decide)
      refine nx_ht1 hU hu hl (by omega) hi (br_f (by decide) ⟨hin, ?_⟩)
      unfold wpY_getTokenKind
      refine ny_bu1 hU hu (br_t rfl (br_f (nI_pos (by omega)) ⟨h8, ?_⟩))
      rw [hcu, hl]
      exact br_t (nI_lt hi (by omega)) ⟨hin, rfl, nh_mkR h⟩
theorem i_vc_getTokenValue {k : Nat} {u : SX} {v : SY} (I : i_Rel k u v) (hk : k + 5 ≤ 2563) (v1 : Int32) (v2 : Int32) : wpX_getTokenValue (fun r => wpY_getTokenValue (fun r' => r' = r ∧ i_Rel (k + 5) u v) v v1 v2) u v1 v2 := by
  obtain ⟨U, T, N, on, ok, fl, dp, tt, pr, K, V, ln, ue, dc, uu, ow, st, w, ch, no, ns, nr, es, nu, re, oT, oP, us, ds, po, ps, pv, rc, rd, fS, fP, fN, rfl, rfl, h⟩ := I
  obtain ⟨⟨hU2, hU⟩, ⟨hT8, hT⟩, ⟨hN4, hN⟩, hln, hTV, hus, hue⟩ := id h
  unfold wpX_getTokenValue
  rcases pk_ix v1 (n := U) (by omega) with ho | ho | ⟨u, hu, rfl⟩
  · refine nx_htu hU (Or.inl ho) (br_t rfl ?_)
    unfold wpY_getTokenValue
    exact ny_bu0 hU (Or.inl ho) (br_f (by decide) ⟨rfl, nh_mkR h⟩)
  · refine nx_htu hU (Or.inr ho) (br_t rfl ?_)
    unfold wpY_getTokenValue
    exact ny_bu0 hU (Or.inr ho) (br_f (by decide) ⟨rfl, nh_mkR h⟩)
  · have h8 : vp_in (nI u) 8 := vp_in_nI (by omega) (by decide)
    have hcu : (nI u).toNatClampNeg = u := nI_clamp (by omega)
    obtain ⟨L, hL, hl⟩ := hln u
    rcases pk_ix v2 (n := L) (by omega) with ho | ho | ⟨i, hi, rfl⟩
    · refine nx_ht0 hU hu hl (by omega) (Or.inl ho) (br_t rfl ?_)
      unfold wpY_getTokenValue
      exact ny_bu1 hU hu (br_t rfl (br_t ho ⟨rfl, nh_mkR h⟩))
    · refine nx_ht0 hU hu hl (by omega) (Or.inr ho) (br_t rfl ?_)
      unfold wpY_getTokenValue
      refine ny_bu1 hU hu (br_t rfl (br_f (nh_nn (by omega) ho) ⟨h8, ?_⟩))
      rw [hcu, hl]
      exact br_f (Int32.not_lt.mpr ho) ⟨rfl, nh_mkR h⟩
    · have hin : vp_in (nI u * 32 + nI i) 256 := by rw [nh_c32]; exact vp_in_nI (by omega) (by decide)
      refine nx_ht1 hU hu hl (by omega) hi (br_f (by decide) ⟨hin, ?_⟩)
      unfold wpY_getTokenValue
      refine ny_bu1 hU hu (br_t rfl (br_f (nI_pos (by omega)) ⟨h8, ?_⟩))
      rw [hcu, hl]
      exact br_t (nI_lt hi (by omega)) ⟨hin, rfl, nh_mkR h⟩
theorem i_vc_getOwner {k : Nat} {u : SX} {v : SY} (I : i_Rel k u v) (hk : k + 5 ≤ 2563) (v1 : Int32) : wpX_getOwner (fun r => wpY_getOwner (fun r' => r' = r ∧ i_Rel (k + 5) u v) v v1) u v1 := by
  obtain ⟨U, T, N, on, ok, fl, dp, tt, pr, K, V, ln, ue, dc, uu, ow, st, w, ch, no, ns, nr, es, nu, re, oT, oP, us, ds, po, ps, pv, rc, rd, fS, fP, fN, rfl, rfl, h⟩ := I
  obtain ⟨⟨hU2, hU⟩, ⟨hT8, hT⟩, ⟨hN4, hN⟩, hln, hTV, hus, hue⟩ := id h
  unfold wpX_getOwner
  rcases pk_ix v1 (n := N) (by omega) with ho | ho | ⟨n, hn, rfl⟩
  · exact nx_hn0 hN (Or.inl ho) (br_t rfl (br_t ho ⟨rfl, nh_mkR h⟩))
  · exact nx_hn0 hN (Or.inr ho) (br_t rfl (br_f (nh_nn (by omega) ho) (br_f (Int32.not_lt.mpr ho) ⟨rfl, nh_mkR h⟩)))
  · have h16 : vp_in (nI n) 16 := vp_in_nI (by omega) (by decide)
    exact nx_hn1 hN hn (br_f (by decide) ⟨h16, br_f (nI_pos (by omega)) (br_t (nI_lt hn (by omega)) ⟨h16, rfl, nh_mkR h⟩)⟩)
theorem i_vc_getStatus {k : Nat} {u : SX} {v : SY} (I : i_Rel k u v) (hk : k + 5 ≤ 2563) (v1 : Int32) : wpX_getStatus (fun r => wpY_getStatus (fun r' => r' = r ∧ i_Rel (k + 5) u v) v v1) u v1 := by
  obtain ⟨U, T, N, on, ok, fl, dp, tt, pr, K, V, ln, ue, dc, uu, ow, st, w, ch, no, ns, nr, es, nu, re, oT, oP, us, ds, po, ps, pv, rc, rd, fS, fP, fN, rfl, rfl, h⟩ := I
  obtain ⟨⟨hU2, hU⟩, ⟨hT8, hT⟩, ⟨hN4, hN⟩, hln, hTV, hus, hue⟩ := id h
  unfold wpX_getStatus
  rcases pk_ix v1 (n := N) (by omega) with ho | ho | ⟨n, hn, rfl⟩
  · exact nx_hn0 hN (Or.inl ho) (br_t rfl (br_t ho ⟨rfl, nh_mkR h⟩))
  · exact nx_hn0 hN (Or.inr ho) (br_t rfl (br_f (nh_nn (by omega) ho) (br_f (Int32.not_lt.mpr ho) ⟨rfl, nh_mkR h⟩)))
  · have h16 : vp_in (nI n) 16 := vp_in_nI (by omega) (by decide)
    exact nx_hn1 hN hn (br_f (by decide) ⟨h16, br_f (nI_pos (by omega)) (br_t (nI_lt hn (by omega)) ⟨h16, rfl, nh_mkR h⟩)⟩)
theorem i_vc_getValue {k : Nat} {u : SX} {v : SY} (I : i_Rel k u v) (hk : k + 5 ≤ 2563) (v1 : Int32) : wpX_getValue (fun r => wpY_getValue (fun r' => r' = r ∧ i_Rel (k + 5) u v) v v1) u v1 := by
  obtain ⟨U, T, N, on, ok, fl, dp, tt, pr, K, V, ln, ue, dc, uu, ow, st, w, ch, no, ns, nr, es, nu, re, oT, oP, us, ds, po, ps, pv, rc, rd, fS, fP, fN, rfl, rfl, h⟩ := I
  obtain ⟨⟨hU2, hU⟩, ⟨hT8, hT⟩, ⟨hN4, hN⟩, hln, hTV, hus, hue⟩ := id h
  unfold wpX_getValue
  rcases pk_ix v1 (n := N) (by omega) with ho | ho | ⟨n, hn, rfl⟩
  · exact nx_hn0 hN (Or.inl ho) (br_t rfl (br_t ho ⟨rfl, nh_mkR h⟩))
  · exact nx_hn0 hN (Or.inr ho) (br_t rfl (br_f (nh_nn (by omega) ho) (br_f (Int32.not_lt.mpr ho) ⟨rfl, nh_mkR h⟩)))
  · have h16 : vp_in (nI n) 16 := vp_in_nI (by omega) (by decide)
    exact nx_hn1 hN hn (br_f (by decide) ⟨h16, br_f (nI_pos (by omega)) (br_t (nI_lt hn (by omega)) ⟨h16, rfl, nh_mkR h⟩)⟩)
theorem i_vc_isChanged {k : Nat} {u : SX} {v : SY} (I : i_Rel k u v) (hk : k + 5 ≤ 2563) (v1 : Int32) : wpX_isChanged (fun r => wpY_isChanged (fun r' => r' = r ∧ i_Rel (k + 5) u v) v v1) u v1 := by
  obtain ⟨U, T, N, on, ok, fl, dp, tt, pr, K, V, ln, ue, dc, uu, ow, st, w, ch, no, ns, nr, es, nu, re, oT, oP, us, ds, po, ps, pv, rc, rd, fS, fP, fN, rfl, rfl, h⟩ := I
  obtain ⟨⟨hU2, hU⟩, ⟨hT8, hT⟩, ⟨hN4, hN⟩, hln, hTV, hus, hue⟩ := id h
  unfold wpX_isChanged
  rcases pk_ix v1 (n := N) (by omega) with ho | ho | ⟨n, hn, rfl⟩
  · exact nx_hn0 hN (Or.inl ho) (br_t rfl (br_t ho ⟨rfl, nh_mkR h⟩))
  · exact nx_hn0 hN (Or.inr ho) (br_t rfl (br_f (nh_nn (by omega) ho) (br_t ho ⟨rfl, nh_mkR h⟩)))
  · have h16 : vp_in (nI n) 16 := vp_in_nI (by omega) (by decide)
    refine nx_hn1 hN hn (br_f (by decide) ⟨h16, br_c (fun hc => ?_) (fun hc => ?_)⟩)
    · exact br_f (nI_pos (by omega)) (br_f (nI_ge hn (by omega)) ⟨h16, br_t hc ⟨rfl, nh_mkR h⟩⟩)
    · exact br_f (nI_pos (by omega)) (br_f (nI_ge hn (by omega)) ⟨h16, br_f hc ⟨rfl, nh_mkR h⟩⟩)
theorem i_vc_usesName {k : Nat} {u : SX} {v : SY} (I : i_Rel k u v) (hk : k + 5 ≤ 2563) (v1 : Int32) (v2 : Int32) : wpX_usesName (fun r => wpY_usesName (fun r' => r' = r ∧ i_Rel (k + 5) u v) v v1 v2) u v1 v2 := by
  obtain ⟨U, T, N, on, ok, fl, dp, tt, pr, K, V, ln, ue, dc, uu, ow, st, w, ch, no, ns, nr, es, nu, re, oT, oP, us, ds, po, ps, pv, rc, rd, fS, fP, fN, rfl, rfl, h⟩ := I
  obtain ⟨⟨hU2, hU⟩, ⟨hT8, hT⟩, ⟨hN4, hN⟩, hln, hTV, hus, hue⟩ := id h
  unfold wpX_usesName
  rcases pk_ix v1 (n := U) (by omega) with ho | ho | ⟨u, hu, rfl⟩
  · refine nx_hu0 hU (Or.inl ho) (br_t rfl ?_)
    unfold wpY_usesName
    exact ny_bu0 hU (Or.inl ho) (br_f (by decide) ⟨rfl, nh_mkR h⟩)
  · refine nx_hu0 hU (Or.inr ho) (br_t rfl ?_)
    unfold wpY_usesName
    exact ny_bu0 hU (Or.inr ho) (br_f (by decide) ⟨rfl, nh_mkR h⟩)
  · have h8 : vp_in (nI u) 8 := vp_in_nI (by omega) (by decide)
    have hcu : (nI u).toNatClampNeg = u := nI_clamp (by omega)
    refine nx_hu1 hU hu (br_f (by decide) ?_)
    rcases pk_ix v2 (n := N) (by omega) with ho | ho | ⟨m, hm, rfl⟩
    · refine nx_hn0 hN (Or.inl ho) (br_t rfl ?_)
      unfold wpY_usesName
      exact ny_bu1 hU hu (br_t rfl (br_t ho ⟨rfl, nh_mkR h⟩))
    · refine nx_hn0 hN (Or.inr ho) (br_t rfl ?_)
      unfold wpY_usesName
      exact ny_bu1 hU hu (br_t rfl (br_f (nh_nn (by omega) ho) (br_t ho ⟨rfl, nh_mkR h⟩)))
    · have hin : vp_in (nI u * 16 + nI m) 128 := by rw [nh_c16]; exact vp_in_nI (by omega) (by decide)
      have hu16 := hus u m hu hm
      refine nx_hn1 hN hm (br_f (by decide) ⟨h8, ?_⟩)
      rw [hcu]
      refine nx_has (by omega) (fun hb => br_f (by decide) ?_) (fun hb => br_t rfl ?_)
      · rw [if_pos hb] at hu16
        unfold wpY_usesName
        refine ny_bu1 hU hu (br_t rfl (br_f (nI_pos (by omega)) (br_f (nI_ge hm (by omega)) ⟨h8, ?_⟩)))
        rw [hcu, nh_c16, nI_clamp (n := u * 16 + m) (by omega), hu16]
        refine br_c (fun _ => ⟨vp_in_nI (by omega) (by decide), rfl, rfl, nh_mkR h⟩) (fun he => ?_)
        rw [hue u hu he, b_0] at hb
        exact absurd hb (by decide)
      · rw [if_neg (by rw [hb]; decide)] at hu16
        unfold wpY_usesName
        refine ny_bu1 hU hu (br_t rfl (br_f (nI_pos (by omega)) (br_f (nI_ge hm (by omega)) ⟨h8, ?_⟩)))
        rw [hcu, nh_c16, nI_clamp (n := u * 16 + m) (by omega), hu16]
        exact br_c (fun _ => ⟨vp_in_nI (by omega) (by decide), rfl, rfl, nh_mkR h⟩) (fun he => ⟨rfl, nh_mkR h⟩)
end
section
/-! 20: the constructors -/
theorem nh_clamp (p : Int32) (lo hi : Nat) (h : lo ≤ hi) (hh : hi < 2 ^ 31) : ∃ c, lo ≤ c ∧ c ≤ hi ∧ (∀ post : Int32 → Prop, post (nI c) → wpX_clamp post p (nI lo) (nI hi)) ∧
    (∀ A : Int32 → Prop, A (nI c) → ((nI lo ≤ p → ((p ≤ nI hi → A p) ∧ (¬ p ≤ nI hi → A (nI hi)))) ∧ (¬ nI lo ≤ p → A (nI lo)))) := by
  by_cases h1 : nI lo ≤ p
  · by_cases h2 : p ≤ nI hi
    · obtain ⟨c, hc, rfl⟩ := nI_of2 (nI_toInt hh) (nh_nn (by omega) h1) h2
      exact ⟨c, (nI_leI (by omega) (by omega)).mp h1, hc, fun post hp => br_t h1 (br_t h2 hp), fun A hp => br_t h1 (br_t h2 hp)⟩
    · exact ⟨hi, h, Nat.le_refl hi, fun post hp => br_t h1 (br_f h2 hp), fun A hp => br_t h1 (br_f h2 hp)⟩
  · exact ⟨lo, Nat.le_refl lo, h, fun post hp => br_f h1 hp, fun A hp => br_f h1 hp⟩
theorem nh_mxz (N : Nat) : nh_mx N nh_z0 nh_z0 = nh_z0 := by
  funext n
  by_cases e : n < N
  · exact nh_mxl e
  · exact nh_mxg (by omega)
def nh_m1 : Nat → Int32 := fun _ => -1
theorem nx_i211 {U T N : Nat} {on ok fl dp tt pr : Int32} {K V ln ue dc uu ow st w ch no ns nr es nu re oT oP : Nat → Int32} {post : SX → Prop} (hp : post (nI U, nI T, nI N, on, ok, fl, dp, tt, pr, K, V, ln, ue, dc, uu, nh_mx 16 nh_m1 ow, nh_mx 16 nh_z0 st, w, ch, no, ns, nr, es, nu, re, oT, oP)) : ∃ n, wX_init_211 post (nI U) (nI T) (nI N) on ok fl dp tt pr n 0 K V ln ue dc uu ow st w ch no ns nr es nu re oT oP := by
  have key : ∀ (d i n : Nat), i + d = 16 → d < n → wX_init_211 post (nI U) (nI T) (nI N) on ok fl dp tt pr n (nI i) K V ln ue dc uu (nh_mx i nh_m1 ow) (nh_mx i nh_z0 st) w ch no ns nr es nu re oT oP := by
    intro d
    induction d with
    | zero =>
      intro i n hi hn
      obtain ⟨m, rfl⟩ : ∃ m, n = m + 1 := ⟨n - 1, by omega⟩
      have e : i = 16 := by omega
      subst e
      exact br_t (nI_le (a := 16) (Nat.le_refl 16) (by decide)) hp
    | succ d ih =>
      intro i n hi hn
      obtain ⟨m, rfl⟩ : ∃ m, n = m + 1 := ⟨n - 1, by omega⟩
      have h16 : vp_in (nI i) 16 := vp_in_nI (by omega) (by decide)
      refine br_f (nI_ge (b := 16) (by omega) (by decide)) ⟨h16, ?_⟩
      rw [nI_clamp (n := i) (by omega)]
      exact nm_r (nh_mxs i nh_m1 ow) ⟨h16, nm_r (nh_mxs i nh_z0 st) (nm_r (nI_1 i) (ih (i + 1) m (by omega) (by omega)))⟩
  have h0 := key 16 0 17 (by omega) (by omega)
  rw [nh_mx0, nh_mx0] at h0
  exact ⟨17, h0⟩
theorem nx_i187 {U T N : Nat} {on ok fl dp tt pr : Int32} {K V ln ue dc uu ow st w ch no ns nr es nu re oT oP : Nat → Int32} {post : SX → Prop} (hp : post (nI U, nI T, nI N, on, ok, fl, dp, tt, pr, K, V, ln, nh_mx 8 nh_m1 ue, dc, uu, nh_mx 16 nh_m1 ow, nh_mx 16 nh_z0 st, w, ch, no, ns, nr, es, nu, re, oT, oP)) : ∃ n, wX_init_187 post (nI U) (nI T) (nI N) on ok fl dp tt pr n 0 K V ln ue dc uu ow st w ch no ns nr es nu re oT oP := by
  have key : ∀ (d i n : Nat), i + d = 8 → d < n → wX_init_187 post (nI U) (nI T) (nI N) on ok fl dp tt pr n (nI i) K V ln (nh_mx i nh_m1 ue) dc uu ow st w ch no ns nr es nu re oT oP := by
    intro d
    induction d with
    | zero =>
      intro i n hi hn
      obtain ⟨m, rfl⟩ : ∃ m, n = m + 1 := ⟨n - 1, by omega⟩
      have e : i = 8 := by omega
      subst e
      exact br_t (nI_le (a := 8) (Nat.le_refl 8) (by decide)) (nx_i211 hp)
    | succ d ih =>
      intro i n hi hn
      obtain ⟨m, rfl⟩ : ∃ m, n = m + 1 := ⟨n - 1, by omega⟩
      have h8 : vp_in (nI i) 8 := vp_in_nI (by omega) (by decide)
      refine br_f (nI_ge (b := 8) (by omega) (by decide)) ⟨h8, ?_⟩
      rw [nI_clamp (n := i) (by omega)]
      exact nm_r (nh_mxs i nh_m1 ue) (nm_r (nI_1 i) (ih (i + 1) m (by omega) (by omega)))
  have h0 := key 8 0 9 (by omega) (by omega)
  rw [nh_mx0] at h0
  exact ⟨9, h0⟩
theorem ny_i264 {U T N : Nat} {K V ln ue dc us ow st w ch ds po ps pv rc rd fS fP fN : Nat → Int32} {post : SY → Prop} (hp : post (nI U, nI T, nI N, K, V, ln, ue, dc, us, nh_mx 16 nh_m1 ow, st, w, ch, ds, po, ps, pv, rc, rd, fS, fP, fN)) : ∃ n, wY_init_264 post (nI U) (nI T) (nI N) n 0 K V ln ue dc us ow st w ch ds po ps pv rc rd fS fP fN := by
  have key : ∀ (d i n : Nat), i + d = 16 → d < n → wY_init_264 post (nI U) (nI T) (nI N) n (nI i) K V ln ue dc us (nh_mx i nh_m1 ow) st w ch ds po ps pv rc rd fS fP fN := by
    intro d
    induction d with
    | zero =>
      intro i n hi hn
      obtain ⟨m, rfl⟩ : ∃ m, n = m + 1 := ⟨n - 1, by omega⟩
      have e : i = 16 := by omega
      subst e
      exact br_t (nI_le (a := 16) (Nat.le_refl 16) (by decide)) hp
    | succ d ih =>
      intro i n hi hn
      obtain ⟨m, rfl⟩ : ∃ m, n = m + 1 := ⟨n - 1, by omega⟩
      have h16 : vp_in (nI i) 16 := vp_in_nI (by omega) (by decide)
      refine br_f (nI_ge (b := 16) (by omega) (by decide)) ⟨h16, ?_⟩
      rw [nI_clamp (n := i) (by omega)]
      exact nm_r (nh_mxs i nh_m1 ow) (nm_r (nI_1 i) (ih (i + 1) m (by omega) (by omega)))
  have h0 := key 16 0 17 (by omega) (by omega)
  rw [nh_mx0] at h0
  exact ⟨17, h0⟩
theorem ny_i240 {U T N : Nat} {K V ln ue dc us ow st w ch ds po ps pv rc rd fS fP fN : Nat → Int32} {post : SY → Prop} (hp : post (nI U, nI T, nI N, K, V, ln, nh_mx 8 nh_m1 ue, dc, us, nh_mx 16 nh_m1 ow, st, w, ch, ds, po, ps, pv, rc, rd, fS, fP, fN)) : ∃ n, wY_init_240 post (nI U) (nI T) (nI N) n 0 K V ln ue dc us ow st w ch ds po ps pv rc rd fS fP fN := by
  have key : ∀ (d i n : Nat), i + d = 8 → d < n → wY_init_240 post (nI U) (nI T) (nI N) n (nI i) K V ln (nh_mx i nh_m1 ue) dc us ow st w ch ds po ps pv rc rd fS fP fN := by
    intro d
    induction d with
    | zero =>
      intro i n hi hn
      obtain ⟨m, rfl⟩ : ∃ m, n = m + 1 := ⟨n - 1, by omega⟩
      have e : i = 8 := by omega
      subst e
      exact br_t (nI_le (a := 8) (Nat.le_refl 8) (by decide)) (ny_i264 hp)
    | succ d ih =>
      intro i n hi hn
      obtain ⟨m, rfl⟩ : ∃ m, n = m + 1 := ⟨n - 1, by omega⟩
      have h8 : vp_in (nI i) 8 := vp_in_nI (by omega) (by decide)
      refine br_f (nI_ge (b := 8) (by omega) (by decide)) ⟨h8, ?_⟩
      rw [nI_clamp (n := i) (by omega)]
      exact nm_r (nh_mxs i nh_m1 ue) (nm_r (nI_1 i) (ih (i + 1) m (by omega) (by omega)))
  have h0 := key 8 0 9 (by omega) (by omega)
  rw [nh_mx0] at h0
  exact ⟨9, h0⟩
theorem nh_R0 {U T N : Nat} (hU : 2 ≤ U ∧ U ≤ 8) (hT : 8 ≤ T ∧ T ≤ 32) (hN : 4 ≤ N ∧ N ≤ 16) : nh_Rel U T N nh_z0 nh_z0 nh_z0 (nh_mx 8 nh_m1 nh_z0) nh_z0 nh_z0 := by
  refine ⟨hU, hT, hN, fun u => ⟨0, Nat.zero_le T, rfl⟩, fun p hp => absurd (show (0 : Int32) = 2 from hp) (by decide), fun u m _ _ => ?_, fun u hu he => absurd (nh_mxl (by omega)) he⟩
  rw [show nh_z0 u = 0 from rfl, b_0]
  rfl
theorem i_vc0 (k0 : Int32) (k1 : Int32) (k2 : Int32) : wpX_init (fun u => wpY_init (fun v => i_Rel 3 u v) k0 k1 k2) k0 k1 k2 := by
  obtain ⟨U, hU1, hU2, xU, yU⟩ := nh_clamp k0 2 8 (by decide) (by decide)
  obtain ⟨T, hT1, hT2, xT, yT⟩ := nh_clamp k1 8 32 (by decide) (by decide)
  obtain ⟨N, hN1, hN2, xN, yN⟩ := nh_clamp k2 4 16 (by decide) (by decide)
  have hR := nh_R0 (U := U) (T := T) (N := N) ⟨hU1, hU2⟩ ⟨hT1, hT2⟩ ⟨hN1, hN2⟩
  unfold wpX_init
  refine xU _ (xT _ (xN _ (nx_i187 ?_)))
  have hY : wpY_init (fun v => i_Rel 3 (nI U, nI T, nI N, 0, 0, 0, 0, 0, 0, nh_z0, nh_z0, nh_z0, nh_mx 8 nh_m1 nh_z0, nh_z0, nh_z0, nh_mx 16 nh_m1 nh_z0, nh_mx 16 nh_z0 nh_z0, nh_z0, nh_z0, nh_z0, nh_z0, nh_z0, nh_z0, nh_z0, nh_z0, nh_z0, nh_z0) v) k0 k1 k2 := by
    rw [nh_mxz]
    exact yU (fun z => wY_init_182 _ k1 k2 z 0 0 0 (fun _ => 0) (fun _ => 0) (fun _ => 0) (fun _ => 0) (fun _ => 0) (fun _ => 0) (fun _ => 0) (fun _ => 0) (fun _ => 0) (fun _ => 0) (fun _ => 0) (fun _ => 0) (fun _ => 0) (fun _ => 0) (fun _ => 0) (fun _ => 0) (fun _ => 0) (fun _ => 0) (fun _ => 0))
      (yT (fun z => wY_init_209 _ k2 z (nI U) 0 0 (fun _ => 0) (fun _ => 0) (fun _ => 0) (fun _ => 0) (fun _ => 0) (fun _ => 0) (fun _ => 0) (fun _ => 0) (fun _ => 0) (fun _ => 0) (fun _ => 0) (fun _ => 0) (fun _ => 0) (fun _ => 0) (fun _ => 0) (fun _ => 0) (fun _ => 0) (fun _ => 0) (fun _ => 0))
        (yN (fun z => ∃ n240, wY_init_240 _ (nI U) (nI T) z n240 0 (fun _ => 0) (fun _ => 0) (fun _ => 0) (fun _ => 0) (fun _ => 0) (fun _ => 0) (fun _ => 0) (fun _ => 0) (fun _ => 0) (fun _ => 0) (fun _ => 0) (fun _ => 0) (fun _ => 0) (fun _ => 0) (fun _ => 0) (fun _ => 0) (fun _ => 0) (fun _ => 0) (fun _ => 0))
          (ny_i240 (nh_mkR hR))))
  exact hY
end
