/-! 02: numbers, bits, mixed arrays, the automaton, definitions and uses: pure -/
theorem nh_ne1 {a : Nat} (h : a < 2 ^ 31) : ¬ nI a = -1 := by
  intro e
  have h1 := nI_pos (n := a) h
  rw [e] at h1
  exact h1 (by decide)
theorem nh_im {a b : Nat} (h : nI a = nI b) (ha : a < 2 ^ 31) (hb : b < 2 ^ 31) : a = b := (nI_eq ha hb).mp h
theorem nh_b1 : ∀ n, n < 32 → ∀ i, i < 32 → bt ((1 : Int32) <<< (nI n &&& 31)) i = decide (i = n) := by decide +kernel
theorem nh_z {x : Int32} : x = 0 ↔ ∀ i, i < 32 → bt x i = false :=
  ⟨fun h i _ => by rw [h]; exact b_0 i, fun h => b_ext (fun i hi => by rw [h i hi, b_0])⟩
theorem nh_has {x : Int32} {n : Nat} (hn : n < 32) : (x &&& ((1 : Int32) <<< (nI n &&& 31))) = 0 ↔ bt x n = false := by
  rw [nh_z]
  constructor
  · intro h
    have h1 := h n hn
    rw [b_and, nh_b1 n hn n hn] at h1
    simpa using h1
  · intro h i hi
    rw [b_and, nh_b1 n hn i hi]
    by_cases e : i = n
    · rw [e, h]; rfl
    · simp [e]
theorem nh_or1 {x : Int32} {n i : Nat} (hn : n < 32) (hi : i < 32) : bt (x ||| ((1 : Int32) <<< (nI n &&& 31))) i = true ↔ (bt x i = true ∨ i = n) := by
  rw [b_or, nh_b1 n hn i hi]
  simp
theorem nh_az {x y : Int32} : (x &&& y) = 0 ↔ ∀ i, i < 32 → bt x i = true → bt y i = true → False := by
  rw [nh_z]
  constructor
  · intro h i hi hx hy
    have h1 := h i hi
    rw [b_and, hx, hy] at h1
    exact absurd h1 (by decide)
  · intro h i hi
    rw [b_and]
    cases hx : bt x i
    · rfl
    · cases hy : bt y i
      · rfl
      · exact (h i hi hx hy).elim
theorem nh_anz {x y : Int32} : (x &&& (y ^^^ (-1))) = 0 ↔ ∀ i, i < 32 → bt x i = true → bt y i = true := by
  rw [nh_z]
  constructor
  · intro h i hi hx
    have h1 := h i hi
    rw [b_and, b_xor, b_m1 i hi, hx] at h1
    simpa using h1
  · intro h i hi
    rw [b_and, b_xor, b_m1 i hi]
    cases hx : bt x i
    · rfl
    · rw [h i hi hx]; rfl
theorem nh_bf0 {x : Bool} (h : ¬ x = false) : x = true := by cases x <;> simp_all
theorem nh_bt0 {x : Bool} (h : ¬ x = true) : x = false := by cases x <;> simp_all
/-! mixed arrays -/
def nh_mx (N : Nat) (f g : Nat → Int32) : Nat → Int32 := fun n => if n < N then f n else g n
theorem nh_mx0 (f g : Nat → Int32) : nh_mx 0 f g = g := funext fun n => if_neg (Nat.not_lt_zero n)
theorem nh_mxs (N : Nat) (f g : Nat → Int32) : upd (nh_mx N f g) N (f N) = nh_mx (N + 1) f g := by
  funext n
  show (if n = N then f N else if n < N then f n else g n) = if n < N + 1 then f n else g n
  by_cases e : n = N
  · rw [if_pos e, if_pos (by omega), e]
  · by_cases h : n < N
    · rw [if_neg e, if_pos h, if_pos (by omega)]
    · rw [if_neg e, if_neg h, if_neg (by omega)]
theorem nh_mxl {N n : Nat} {f g : Nat → Int32} (h : n < N) : nh_mx N f g n = f n := if_pos h
theorem nh_mxg {N n : Nat} {f g : Nat → Int32} (h : N ≤ n) : nh_mx N f g n = g n := if_neg (by omega)
theorem nh_mxe {N : Nat} {f f' g : Nat → Int32} (h : ∀ n, n < N → f n = f' n) : nh_mx N f g = nh_mx N f' g := by
  funext n
  by_cases e : n < N
  · rw [nh_mxl e, nh_mxl e, h n e]
  · rw [nh_mxg (by omega), nh_mxg (by omega)]
/-! the automaton -/
def nh_nx (k : Int32) (st d : Nat) : Nat :=
  if st = 0 then (if k = 2 then 1 else 4)
  else if st = 1 then (if k = 8 then 2 else 4)
  else if st = 2 then (if k = 1 then 3 else if k = 2 then 3 else if k = 4 then 2 else if k = 6 then 2 else 4)
  else (if k = 3 then 2 else if k = 4 then 2 else if k = 5 then 2 else if k = 7 then (if 0 < d then 3 else 4) else if k = 9 then (if d = 0 then 0 else 4) else 4)
def nh_dp (k : Int32) (d : Nat) : Nat := if k = 6 then d + 1 else if k = 7 then d - 1 else d
def nh_au (K : Nat → Int32) (b : Nat) : Nat → Nat × Nat
  | 0 => (0, 0)
  | i + 1 => (nh_nx (K (b + i)) (nh_au K b i).1 (nh_au K b i).2, nh_dp (K (b + i)) (nh_au K b i).2)
def nh_S (K : Nat → Int32) (b i : Nat) : Nat := (nh_au K b i).1
def nh_D (K : Nat → Int32) (b i : Nat) : Nat := (nh_au K b i).2
theorem nh_S0 (K : Nat → Int32) (b : Nat) : nh_S K b 0 = 0 := rfl
theorem nh_D0 (K : Nat → Int32) (b : Nat) : nh_D K b 0 = 0 := rfl
theorem nh_S1 (K : Nat → Int32) (b i : Nat) : nh_S K b (i + 1) = nh_nx (K (b + i)) (nh_S K b i) (nh_D K b i) := rfl
theorem nh_D1 (K : Nat → Int32) (b i : Nat) : nh_D K b (i + 1) = nh_dp (K (b + i)) (nh_D K b i) := rfl
theorem nh_n0 (k : Int32) (d : Nat) : nh_nx k 0 d = if k = 2 then 1 else 4 := rfl
theorem nh_n1 (k : Int32) (d : Nat) : nh_nx k 1 d = if k = 8 then 2 else 4 := rfl
theorem nh_n2 (k : Int32) (d : Nat) : nh_nx k 2 d = if k = 1 then 3 else if k = 2 then 3 else if k = 4 then 2 else if k = 6 then 2 else 4 := rfl
theorem nh_n3 (k : Int32) (d : Nat) : nh_nx k 3 d = if k = 3 then 2 else if k = 4 then 2 else if k = 5 then 2 else if k = 7 then (if 0 < d then 3 else 4) else if k = 9 then (if d = 0 then 0 else 4) else 4 := rfl
theorem nh_x0 {k : Int32} {d : Nat} (h : nh_nx k 0 d ≠ 4) : k = 2 ∧ nh_nx k 0 d = 1 := by
  rw [nh_n0] at h ⊢
  by_cases e : k = 2
  · exact ⟨e, if_pos e⟩
  · exact absurd (if_neg e) h
theorem nh_x1 {k : Int32} {d : Nat} (h : nh_nx k 1 d ≠ 4) : k = 8 ∧ nh_nx k 1 d = 2 := by
  rw [nh_n1] at h ⊢
  by_cases e : k = 8
  · exact ⟨e, if_pos e⟩
  · exact absurd (if_neg e) h
theorem nh_x2 {k : Int32} {d : Nat} (h : nh_nx k 2 d ≠ 4) : ((k = 1 ∨ k = 2) ∧ nh_nx k 2 d = 3) ∨ ((k = 4 ∨ k = 6) ∧ nh_nx k 2 d = 2) := by
  rw [nh_n2] at h ⊢
  grind
theorem nh_x3 {k : Int32} {d : Nat} (h : nh_nx k 3 d ≠ 4) : ((k = 3 ∨ k = 4 ∨ k = 5) ∧ nh_nx k 3 d = 2) ∨ (k = 7 ∧ 0 < d ∧ nh_nx k 3 d = 3) ∨ (k = 9 ∧ d = 0 ∧ nh_nx k 3 d = 0) := by
  rw [nh_n3] at h ⊢
  grind (splits := 30)
theorem nh_xle (k : Int32) (st d : Nat) : nh_nx k st d ≤ 4 := by
  unfold nh_nx
  grind (splits := 30)
theorem nh_xz {k : Int32} {st d : Nat} (h : nh_nx k st d = 0) : k = 9 ∧ d = 0 := by
  unfold nh_nx at h
  grind (splits := 30)
theorem nh_xo {k : Int32} {st d : Nat} (h : nh_nx k st d = 1) : st = 0 ∧ k = 2 := by
  unfold nh_nx at h
  grind (splits := 30)
theorem nh_pre {K : Nat → Int32} {b i : Nat} (h : nh_S K b (i + 1) = 0) : K (b + i) = 9 := (nh_xz (by rw [← nh_S1]; exact h)).1
theorem nh_D00 (K : Nat → Int32) (b : Nat) : ∀ i, nh_S K b i ≤ 1 → nh_D K b i = 0 := by
  intro i
  induction i with
  | zero => intro _; rfl
  | succ i ih =>
    intro h
    rw [nh_D1]
    rw [nh_S1] at h
    rcases Nat.lt_or_ge 0 (nh_nx (K (b + i)) (nh_S K b i) (nh_D K b i)) with h1 | h1
    · have ⟨e1, e2⟩ := nh_xo (Nat.le_antisymm h h1)
      rw [ih (by omega), e2]
      decide
    · have ⟨e1, e2⟩ := nh_xz (Nat.le_antisymm h1 (Nat.zero_le _))
      rw [e1, e2]
      decide
/-! the error position -/
def nh_er (K : Nat → Int32) (b : Nat) : Nat → Nat → Int32
  | 0, i => if nh_S K b i = 0 then -1 else nI i
  | d + 1, i => if nh_S K b (i + 1) = 4 then nI i else nh_er K b d (i + 1)
def nh_ok (K : Nat → Int32) (b L : Nat) : Prop := (∀ j, j ≤ L → nh_S K b j ≠ 4) ∧ nh_S K b L = 0
theorem nh_er_ok {K : Nat → Int32} {b : Nat} : ∀ (d i : Nat), i + d < 2 ^ 31 → nh_er K b d i = -1 → (∀ j, i < j → j ≤ i + d → nh_S K b j ≠ 4) ∧ nh_S K b (i + d) = 0 := by
  intro d
  induction d with
  | zero =>
    intro i hb h
    refine ⟨fun j h1 h2 => by omega, ?_⟩
    by_cases e : nh_S K b i = 0
    · exact e
    · rw [nh_er, if_neg e] at h
      exact absurd h (nh_ne1 (by omega))
  | succ d ih =>
    intro i hb h
    by_cases e : nh_S K b (i + 1) = 4
    · rw [nh_er, if_pos e] at h
      exact absurd h (nh_ne1 (by omega))
    · rw [nh_er, if_neg e] at h
      have ⟨h1, h2⟩ := ih (i + 1) (by omega) h
      refine ⟨fun j hj hj2 => ?_, by rw [show i + (d + 1) = i + 1 + d by omega]; exact h2⟩
      by_cases e2 : j = i + 1
      · rw [e2]; exact e
      · exact h1 j (by omega) (by omega)
theorem nh_ok_of {K : Nat → Int32} {b L : Nat} (hL : L < 2 ^ 31) (h : nh_er K b L 0 = -1) : nh_ok K b L := by
  have ⟨h1, h2⟩ := nh_er_ok L 0 (by omega) h
  rw [Nat.zero_add] at h1 h2
  refine ⟨fun j hj => ?_, h2⟩
  by_cases e : j = 0
  · rw [e, nh_S0]; decide
  · exact h1 j (by omega) hj
theorem nh_er_n {K : Nat → Int32} {b : Nat} : ∀ (d i : Nat), (∀ j, i < j → j ≤ i + d → nh_S K b j ≠ 4) → nh_S K b (i + d) = 0 → nh_er K b d i = -1 := by
  intro d
  induction d with
  | zero => intro i _ h; exact if_pos h
  | succ d ih =>
    intro i h h2
    rw [nh_er, if_neg (h (i + 1) (by omega) (by omega))]
    exact ih (i + 1) (fun j h3 h4 => h j (by omega) (by omega)) (by rw [show i + 1 + d = i + (d + 1) by omega]; exact h2)
theorem nh_ok_er {K : Nat → Int32} {b L : Nat} (h : nh_ok K b L) : nh_er K b L 0 = -1 :=
  nh_er_n L 0 (fun j _ h2 => h.1 j (by omega)) (by rw [Nat.zero_add]; exact h.2)
theorem nh_okS {K : Nat → Int32} {b L i : Nat} (h : nh_ok K b L) (hi : i ≤ L) : nh_S K b i ≤ 3 := by
  have h1 := h.1 i hi
  have h2 : nh_S K b i ≤ 4 := by
    cases i with
    | zero => rw [nh_S0]; decide
    | succ i => rw [nh_S1]; exact nh_xle _ _ _
  omega
theorem nh_st0 {K : Nat → Int32} {b L i : Nat} (h : nh_ok K b L) (hi : i < L) (h0 : nh_S K b i = 0) : K (b + i) = 2 ∧ nh_S K b (i + 1) = 1 := by
  have h4 := h.1 (i + 1) hi
  rw [nh_S1, h0] at h4 ⊢
  exact nh_x0 h4
theorem nh_st1 {K : Nat → Int32} {b L i : Nat} (h : nh_ok K b L) (hi : i < L) (h0 : nh_S K b i = 1) : K (b + i) = 8 ∧ nh_S K b (i + 1) = 2 := by
  have h4 := h.1 (i + 1) hi
  rw [nh_S1, h0] at h4 ⊢
  exact nh_x1 h4
theorem nh_st2 {K : Nat → Int32} {b L i : Nat} (h : nh_ok K b L) (hi : i < L) (h0 : nh_S K b i = 2) : ((K (b + i) = 1 ∨ K (b + i) = 2) ∧ nh_S K b (i + 1) = 3) ∨ ((K (b + i) = 4 ∨ K (b + i) = 6) ∧ nh_S K b (i + 1) = 2) := by
  have h4 := h.1 (i + 1) hi
  rw [nh_S1, h0] at h4 ⊢
  exact nh_x2 h4
theorem nh_st3 {K : Nat → Int32} {b L i : Nat} (h : nh_ok K b L) (hi : i < L) (h0 : nh_S K b i = 3) : ((K (b + i) = 3 ∨ K (b + i) = 4 ∨ K (b + i) = 5) ∧ nh_S K b (i + 1) = 2) ∨ (K (b + i) = 7 ∧ 0 < nh_D K b i ∧ nh_S K b (i + 1) = 3) ∨ (K (b + i) = 9 ∧ nh_D K b i = 0 ∧ nh_S K b (i + 1) = 0) := by
  have h4 := h.1 (i + 1) hi
  rw [nh_S1, h0] at h4 ⊢
  exact nh_x3 h4
theorem nh_nine {K : Nat → Int32} {b L i : Nat} (h : nh_ok K b L) (hi : i < L) (h9 : K (b + i) = 9) : nh_S K b i = 3 ∧ nh_S K b (i + 1) = 0 := by
  have h3 := nh_okS h (Nat.le_of_lt hi)
  have hc : nh_S K b i = 0 ∨ nh_S K b i = 1 ∨ nh_S K b i = 2 ∨ nh_S K b i = 3 := by omega
  rcases hc with e | e | e | e
  · have h1 := (nh_st0 h hi e).1; rw [h9] at h1; exact absurd h1 (by decide)
  · have h1 := (nh_st1 h hi e).1; rw [h9] at h1; exact absurd h1 (by decide)
  · have h1 := nh_st2 h hi e
    rw [h9] at h1
    rcases h1 with ⟨h1, _⟩ | ⟨h1, _⟩
    · exact absurd h1 (by decide)
    · exact absurd h1 (by decide)
  · have h1 := nh_st3 h hi e
    rw [h9] at h1
    rcases h1 with ⟨h1, _⟩ | ⟨h1, _⟩ | ⟨_, _, h1⟩
    · exact absurd h1 (by decide)
    · exact absurd h1 (by decide)
    · exact ⟨e, h1⟩
theorem nh_n9 {K : Nat → Int32} {b i : Nat} (h9 : ¬ K (b + i) = 9) : nh_S K b (i + 1) ≠ 0 := fun h => h9 (nh_pre h)
/-- two starts whose runs without a semicolon reach i are one -/
theorem nh_seg {K : Nat → Int32} {b L i s s' : Nat} (h : nh_ok K b L) (hi : i ≤ L) (hs : s < i) (hs' : s' < i) (h0 : nh_S K b s = 0) (h0' : nh_S K b s' = 0)
    (hn : ∀ t, s < t → t < i → K (b + t) ≠ 9) (hn' : ∀ t, s' < t → t < i → K (b + t) ≠ 9) : s = s' := by
  rcases Nat.lt_trichotomy s s' with e | e | e
  · obtain ⟨q, rfl⟩ : ∃ q, s' = q + 1 := ⟨s' - 1, by omega⟩
    have h9 := nh_pre h0'
    by_cases e2 : q = s
    · rw [e2, (nh_st0 h (by omega) h0).1] at h9; exact absurd h9 (by decide)
    · exact absurd h9 (hn q (by omega) (by omega))
  · exact e
  · obtain ⟨q, rfl⟩ : ∃ q, s = q + 1 := ⟨s - 1, by omega⟩
    have h9 := nh_pre h0
    by_cases e2 : q = s'
    · rw [e2, (nh_st0 h (by omega) h0').1] at h9; exact absurd h9 (by decide)
    · exact absurd h9 (hn' q (by omega) (by omega))
