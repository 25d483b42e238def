section
/-! 01: rows pasted from kit/laws/BITS -/
def bt (x : Int32) (i : Nat) : Bool := x.toBitVec.getLsbD i
theorem b_ext {x y : Int32} (h : ∀ i, i < 32 → bt x i = bt y i) : x = y := Int32.toBitVec_inj.mp (BitVec.eq_of_getLsbD_eq (fun i hi => h i hi))
theorem b_or (x y : Int32) (i : Nat) : bt (x ||| y) i = (bt x i || bt y i) := by unfold bt; rw [Int32.toBitVec_or, BitVec.getLsbD_or]
theorem b_and (x y : Int32) (i : Nat) : bt (x &&& y) i = (bt x i && bt y i) := by unfold bt; rw [Int32.toBitVec_and, BitVec.getLsbD_and]
theorem b_xor (x y : Int32) (i : Nat) : bt (x ^^^ y) i = (bt x i ^^ bt y i) := by unfold bt; rw [Int32.toBitVec_xor, BitVec.getLsbD_xor]
theorem b_m1 : ∀ i, i < 32 → bt (-1) i = true := by decide +kernel
theorem b_0 (i : Nat) : bt 0 i = false := BitVec.getLsbD_zero
theorem s_l : ∀ n, n < 32 → ((nI n &&& 31).toBitVec.smod 32).toNat = n := by decide +kernel
theorem b_shl (n : Nat) (hn : n < 32) (x : Int32) {i : Nat} (hi : i < 32) : bt (x <<< (nI n &&& 31)) i = (decide (n ≤ i) && bt x (i - n)) := by
  unfold bt
  rw [Int32.toBitVec_shiftLeft]
  show (x.toBitVec <<< ((nI n &&& 31).toBitVec.smod 32).toNat).getLsbD i = _
  rw [s_l n hn, BitVec.getLsbD_shiftLeft]
  rcases Nat.lt_or_ge i n with h | h
  · simp [h, Nat.not_le.mpr h]
  · simp [hi, h, Nat.not_lt.mpr h]
end
section
/-! 02: numbers, bits, mixed arrays, the automaton, definitions and uses: pure -/
theorem nh_ne1 {a : Nat} (h : a < 2 ^ 31) : ¬ nI a = -1 := by
  intro e
  have h1 := nI_pos (n := a) h
  rw [e] at h1
  exact h1 (by decide)
theorem nh_im {a b : Nat} (h : nI a = nI b) (ha : a < 2 ^ 31) (hb : b < 2 ^ 31) : a = b := (nI_eq ha hb).mp h
theorem nh_b1 : ∀ n, n < 32 → ∀ i, i < 32 → bt ((1 : Int32) <<< (nI n &&& 31)) i = decide (i = n) := by decide +kernel
theorem nh_z {x : Int32} : x = 0 ↔ ∀ i, i < 32 → bt x i = false :=
  ⟨fun h i _ => by rw [h]; exact b_0 i, fun h => b_ext (fun i hi => by rw [h i hi, b_0])⟩
theorem nh_has {x : Int32} {n : Nat} (hn : n < 32) : (x &&& ((1 : Int32) <<< (nI n &&& 31))) = 0 ↔ bt x n = false := by
  rw [nh_z]
  constructor
  · intro h
    have h1 := h n hn
    rw [b_and, nh_b1 n hn n hn] at h1
    simpa using h1
  · intro h i hi
    rw [b_and, nh_b1 n hn i hi]
    by_cases e : i = n
    · rw [e, h]; rfl
    · simp [e]
theorem nh_or1 {x : Int32} {n i : Nat} (hn : n < 32) (hi : i < 32) : bt (x ||| ((1 : Int32) <<< (nI n &&& 31))) i = true ↔ (bt x i = true ∨ i = n) := by
  rw [b_or, nh_b1 n hn i hi]
  simp
theorem nh_az {x y : Int32} : (x &&& y) = 0 ↔ ∀ i, i < 32 → bt x i = true → bt y i = true → False := by
  rw [nh_z]
  constructor
  · intro h i hi hx hy
    have h1 := h i hi
    rw [b_and, hx, hy] at h1
    exact absurd h1 (by decide)
  · intro h i hi
    rw [b_and]
    cases hx : bt x i
    · rfl
    · cases hy : bt y i
      · rfl
      · exact (h i hi hx hy).elim
theorem nh_anz {x y : Int32} : (x &&& (y ^^^ (-1))) = 0 ↔ ∀ i, i < 32 → bt x i = true → bt y i = true := by
  rw [nh_z]
  constructor
  · intro h i hi hx
    have h1 := h i hi
    rw [b_and, b_xor, b_m1 i hi, hx] at h1
    simpa using h1
  · intro h i hi
    rw [b_and, b_xor, b_m1 i hi]
    cases hx : bt x i
    · rfl
    · rw [h i hi hx]; rfl
theorem nh_bf0 {x : Bool} (h : ¬ x = false) : x = true := by cases x <;> simp_all
theorem nh_bt0 {x : Bool} (h : ¬ x = true) : x = false := by cases x <;> simp_all
/-! mixed arrays -/
def nh_mx (N : Nat) (f g : Nat → Int32) : Nat → Int32 := fun n => if n < N then f n else g n
theorem nh_mx0 (f g : Nat → Int32) : nh_mx 0 f g = g := funext fun n => if_neg (Nat.not_lt_zero n)
theorem nh_mxs (N : Nat) (f g : Nat → Int32) : upd (nh_mx N f g) N (f N) = nh_mx (N + 1) f g := by
  funext n
  show (if n = N then f N else if n < N then f n else g n) = if n < N + 1 then f n else g n
  by_cases e : n = N
  · rw [if_pos e, if_pos (by omega), e]
  · by_cases h : n < N
    · rw [if_neg e, if_pos h, if_pos (by omega)]
    · rw [if_neg e, if_neg h, if_neg (by omega)]
theorem nh_mxl {N n : Nat} {f g : Nat → Int32} (h : n < N) : nh_mx N f g n = f n := if_pos h
theorem nh_mxg {N n : Nat} {f g : Nat → Int32} (h : N ≤ n) : nh_mx N f g n = g n := if_neg (by omega)
theorem nh_mxe {N : Nat} {f f' g : Nat → Int32} (h : ∀ n, n < N → f n = f' n) : nh_mx N f g = nh_mx N f' g := by
  funext n
  by_cases e : n < N
  · rw [nh_mxl e, nh_mxl e, h n e]
  · rw [nh_mxg (by omega), nh_mxg (by omega)]
/-! the automaton -/
def nh_nx (k : Int32) (st d : Nat) : Nat :=
  if st = 0 then (if k = 2 then 1 else 4)
  else if st = 1 then (if k = 8 then 2 else 4)
  else if st = 2 then (if k = 1 then 3 else if k = 2 then 3 else if k = 4 then 2 else if k = 6 then 2 else 4)
  else (if k = 3 then 2 else if k = 4 then 2 else if k = 5 then 2 else if k = 7 then (if 0 < d then 3 else 4) else if k = 9 then (if d = 0 then 0 else 4) else 4)
def nh_dp (k : Int32) (d : Nat) : Nat := if k = 6 then d + 1 else if k = 7 then d - 1 else d
def nh_au (K : Nat → Int32) (b : Nat) : Nat → Nat × Nat
  | 0 => (0, 0)
  | i + 1 => (nh_nx (K (b + i)) (nh_au K b i).1 (nh_au K b i).2, nh_dp (K (b + i)) (nh_au K b i).2)
def nh_S (K : Nat → Int32) (b i : Nat) : Nat := (nh_au K b i).1
def nh_D (K : Nat → Int32) (b i : Nat) : Nat := (nh_au K b i).2
theorem nh_S0 (K : Nat → Int32) (b : Nat) : nh_S K b 0 = 0 := rfl
theorem nh_D0 (K : Nat → Int32) (b : Nat) : nh_D K b 0 = 0 := rfl
theorem nh_S1 (K : Nat → Int32) (b i : Nat) : nh_S K b (i + 1) = nh_nx (K (b + i)) (nh_S K b i) (nh_D K b i) := rfl
theorem nh_D1 (K : Nat → Int32) (b i : Nat) : nh_D K b (i + 1) = nh_dp (K (b + i)) (nh_D K b i) := rfl
theorem nh_n0 (k : Int32) (d : Nat) : nh_nx k 0 d = if k = 2 then 1 else 4 := rfl
theorem nh_n1 (k : Int32) (d : Nat) : nh_nx k 1 d = if k = 8 then 2 else 4 := rfl
theorem nh_n2 (k : Int32) (d : Nat) : nh_nx k 2 d = if k = 1 then 3 else if k = 2 then 3 else if k = 4 then 2 else if k = 6 then 2 else 4 := rfl
theorem nh_n3 (k : Int32) (d : Nat) : nh_nx k 3 d = if k = 3 then 2 else if k = 4 then 2 else if k = 5 then 2 else if k = 7 then (if 0 < d then 3 else 4) else if k = 9 then (if d = 0 then 0 else 4) else 4 := rfl
theorem nh_x0 {k : Int32} {d : Nat} (h : nh_nx k 0 d ≠ 4) : k = 2 ∧ nh_nx k 0 d = 1 := by
  rw [nh_n0] at h ⊢
  by_cases e : k = 2
  · exact ⟨e, if_pos e⟩
  · exact absurd (if_neg e) h
theorem nh_x1 {k : Int32} {d : Nat} (h : nh_nx k 1 d ≠ 4) : k = 8 ∧ nh_nx k 1 d = 2 := by
  rw [nh_n1] at h ⊢
  by_cases e : k = 8
  · exact ⟨e, if_pos e⟩
  · exact absurd (if_neg e) h
theorem nh_x2 {k : Int32} {d : Nat} (h : nh_nx k 2 d ≠ 4) : ((k = 1 ∨ k = 2) ∧ nh_nx k 2 d = 3) ∨ ((k = 4 ∨ k = 6) ∧ nh_nx k 2 d = 2) := by
  rw [nh_n2] at h ⊢
  grind
theorem nh_x3 {k : Int32} {d : Nat} (h : nh_nx k 3 d ≠ 4) : ((k = 3 ∨ k = 4 ∨ k = 5) ∧ nh_nx k 3 d = 2) ∨ (k = 7 ∧ 0 < d ∧ nh_nx k 3 d = 3) ∨ (k = 9 ∧ d = 0 ∧ nh_nx k 3 d = 0) := by
  rw [nh_n3] at h ⊢
  grind (splits := 30)
theorem nh_xle (k : Int32) (st d : Nat) : nh_nx k st d ≤ 4 := by
  unfold nh_nx
  grind (splits := 30)
theorem nh_xz {k : Int32} {st d : Nat} (h : nh_nx k st d = 0) : k = 9 ∧ d = 0 := by
  unfold nh_nx at h
  grind (splits := 30)
theorem nh_xo {k : Int32} {st d : Nat} (h : nh_nx k st d = 1) : st = 0 ∧ k = 2 := by
  unfold nh_nx at h
  grind (splits := 30)
theorem nh_pre {K : Nat → Int32} {b i : Nat} (h : nh_S K b (i + 1) = 0) : K (b + i) = 9 := (nh_xz (by rw [← nh_S1]; exact h)).1
theorem nh_D00 (K : Nat → Int32) (b : Nat) : ∀ i, nh_S K b i ≤ 1 → nh_D K b i = 0 := by
  intro i
  induction i with
  | zero => intro _; rfl
  | succ i ih =>
    intro h
    rw [nh_D1]
    rw [nh_S1] at h
    rcases Nat.lt_or_ge 0 (nh_nx (K (b + i)) (nh_S K b i) (nh_D K b i)) with h1 | h1
    · have ⟨e1, e2⟩ := nh_xo (Nat.le_antisymm h h1)
      rw [ih (by omega), e2]
      decide
    · have ⟨e1, e2⟩ := nh_xz (Nat.le_antisymm h1 (Nat.zero_le _))
      rw [e1, e2]
      decide
/-! the error position -/
def nh_er (K : Nat → Int32) (b : Nat) : Nat → Nat → Int32
  | 0, i => if nh_S K b i = 0 then -1 else nI i
  | d + 1, i => if nh_S K b (i + 1) = 4 then nI i else nh_er K b d (i + 1)
def nh_ok (K : Nat → Int32) (b L : Nat) : Prop := (∀ j, j ≤ L → nh_S K b j ≠ 4) ∧ nh_S K b L = 0
theorem nh_er_ok {K : Nat → Int32} {b : Nat} : ∀ (d i : Nat), i + d < 2 ^ 31 → nh_er K b d i = -1 → (∀ j, i < j → j ≤ i + d → nh_S K b j ≠ 4) ∧ nh_S K b (i + d) = 0 := by
  intro d
  induction d with
  | zero =>
    intro i hb h
    refine ⟨fun j h1 h2 => by omega, ?_⟩
    by_cases e : nh_S K b i = 0
    · exact e
    · rw [nh_er, if_neg e] at h
      exact absurd h (nh_ne1 (by omega))
  | succ d ih =>
    intro i hb h
    by_cases e : nh_S K b (i + 1) = 4
    · rw [nh_er, if_pos e] at h
      exact absurd h (nh_ne1 (by omega))
    · rw [nh_er, if_neg e] at h
      have ⟨h1, h2⟩ := ih (i + 1) (by omega) h
      refine ⟨fun j hj hj2 => ?_, by rw [show i + (d + 1) = i + 1 + d by omega]; exact h2⟩
      by_cases e2 : j = i + 1
      · rw [e2]; exact e
      · exact h1 j (by omega) (by omega)
theorem nh_ok_of {K : Nat → Int32} {b L : Nat} (hL : L < 2 ^ 31) (h : nh_er K b L 0 = -1) : nh_ok K b L := by
  have ⟨h1, h2⟩ := nh_er_ok L 0 (by omega) h
  rw [Nat.zero_add] at h1 h2
  refine ⟨fun j hj => ?_, h2⟩
  by_cases e : j = 0
  · rw [e, nh_S0]; decide
  · exact h1 j (by omega) hj
theorem nh_er_n {K : Nat → Int32} {b : Nat} : ∀ (d i : Nat), (∀ j, i < j → j ≤ i + d → nh_S K b j ≠ 4) → nh_S K b (i + d) = 0 → nh_er K b d i = -1 := by
  intro d
  induction d with
  | zero => intro i _ h; exact if_pos h
  | succ d ih =>
    intro i h h2
    rw [nh_er, if_neg (h (i + 1) (by omega) (by omega))]
    exact ih (i + 1) (fun j h3 h4 => h j (by omega) (by omega)) (by rw [show i + 1 + d = i + (d + 1) by omega]; exact h2)
theorem nh_ok_er {K : Nat → Int32} {b L : Nat} (h : nh_ok K b L) : nh_er K b L 0 = -1 :=
  nh_er_n L 0 (fun j _ h2 => h.1 j (by omega)) (by rw [Nat.zero_add]; exact h.2)
theorem nh_okS {K : Nat → Int32} {b L i : Nat} (h : nh_ok K b L) (hi : i ≤ L) : nh_S K b i ≤ 3 := by
  have h1 := h.1 i hi
  have h2 : nh_S K b i ≤ 4 := by
    cases i with
    | zero => rw [nh_S0]; decide
    | succ i => rw [nh_S1]; exact nh_xle _ _ _
  omega
theorem nh_st0 {K : Nat → Int32} {b L i : Nat} (h : nh_ok K b L) (hi : i < L) (h0 : nh_S K b i = 0) : K (b + i) = 2 ∧ nh_S K b (i + 1) = 1 := by
  have h4 := h.1 (i + 1) hi
  rw [nh_S1, h0] at h4 ⊢
  exact nh_x0 h4
theorem nh_st1 {K : Nat → Int32} {b L i : Nat} (h : nh_ok K b L) (hi : i < L) (h0 : nh_S K b i = 1) : K (b + i) = 8 ∧ nh_S K b (i + 1) = 2 := by
  have h4 := h.1 (i + 1) hi
  rw [nh_S1, h0] at h4 ⊢
  exact nh_x1 h4
theorem nh_st2 {K : Nat → Int32} {b L i : Nat} (h : nh_ok K b L) (hi : i < L) (h0 : nh_S K b i = 2) : ((K (b + i) = 1 ∨ K (b + i) = 2) ∧ nh_S K b (i + 1) = 3) ∨ ((K (b + i) = 4 ∨ K (b + i) = 6) ∧ nh_S K b (i + 1) = 2) := by
  have h4 := h.1 (i + 1) hi
  rw [nh_S1, h0] at h4 ⊢
  exact nh_x2 h4
theorem nh_st3 {K : Nat → Int32} {b L i : Nat} (h : nh_ok K b L) (hi : i < L) (h0 : nh_S K b i = 3) : ((K (b + i) = 3 ∨ K (b + i) = 4 ∨ K (b + i) = 5) ∧ nh_S K b (i + 1) = 2) ∨ (K (b + i) = 7 ∧ 0 < nh_D K b i ∧ nh_S K b (i + 1) = 3) ∨ (K (b + i) = 9 ∧ nh_D K b i = 0 ∧ nh_S K b (i + 1) = 0) := by
  have h4 := h.1 (i + 1) hi
  rw [nh_S1, h0] at h4 ⊢
  exact nh_x3 h4
theorem nh_nine {K : Nat → Int32} {b L i : Nat} (h : nh_ok K b L) (hi : i < L) (h9 : K (b + i) = 9) : nh_S K b i = 3 ∧ nh_S K b (i + 1) = 0 := by
  have h3 := nh_okS h (Nat.le_of_lt hi)
  have hc : nh_S K b i = 0 ∨ nh_S K b i = 1 ∨ nh_S K b i = 2 ∨ nh_S K b i = 3 := by omega
  rcases hc with e | e | e | e
  · have h1 := (nh_st0 h hi e).1; rw [h9] at h1; exact absurd h1 (by decide)
  · have h1 := (nh_st1 h hi e).1; rw [h9] at h1; exact absurd h1 (by decide)
  · have h1 := nh_st2 h hi e
    rw [h9] at h1
    rcases h1 with ⟨h1, _⟩ | ⟨h1, _⟩
    · exact absurd h1 (by decide)
    · exact absurd h1 (by decide)
  · have h1 := nh_st3 h hi e
    rw [h9] at h1
    rcases h1 with ⟨h1, _⟩ | ⟨h1, _⟩ | ⟨_, _, h1⟩
    · exact absurd h1 (by decide)
    · exact absurd h1 (by decide)
    · exact ⟨e, h1⟩
theorem nh_n9 {K : Nat → Int32} {b i : Nat} (h9 : ¬ K (b + i) = 9) : nh_S K b (i + 1) ≠ 0 := fun h => h9 (nh_pre h)
/-- two starts whose runs without a semicolon reach i are one -/
theorem nh_seg {K : Nat → Int32} {b L i s s' : Nat} (h : nh_ok K b L) (hi : i ≤ L) (hs : s < i) (hs' : s' < i) (h0 : nh_S K b s = 0) (h0' : nh_S K b s' = 0)
    (hn : ∀ t, s < t → t < i → K (b + t) ≠ 9) (hn' : ∀ t, s' < t → t < i → K (b + t) ≠ 9) : s = s' := by
  rcases Nat.lt_trichotomy s s' with e | e | e
  · obtain ⟨q, rfl⟩ : ∃ q, s' = q + 1 := ⟨s' - 1, by omega⟩
    have h9 := nh_pre h0'
    by_cases e2 : q = s
    · rw [e2, (nh_st0 h (by omega) h0).1] at h9; exact absurd h9 (by decide)
    · exact absurd h9 (hn q (by omega) (by omega))
  · exact e
  · obtain ⟨q, rfl⟩ : ∃ q, s = q + 1 := ⟨s - 1, by omega⟩
    have h9 := nh_pre h0
    by_cases e2 : q = s'
    · rw [e2, (nh_st0 h (by omega) h0').1] at h9; exact absurd h9 (by decide)
    · exact absurd h9 (hn' q (by omega) (by omega))
end
section
/-! 03: definitions of names, their uses, and the scan that finds them: pure -/
def nh_df (K V : Nat → Int32) (Ln : Nat → Nat) (u i n : Nat) : Prop := nh_ok K (u * 32) (Ln u) ∧ i < Ln u ∧ nh_S K (u * 32) i = 0 ∧ V (u * 32 + i) = nI n
def nh_bf (u i u' i' : Nat) : Prop := u' < u ∨ (u' = u ∧ i' < i)
def nh_fs (K V : Nat → Int32) (Ln : Nat → Nat) (U n u i : Nat) : Prop := u < U ∧ nh_df K V Ln u i n ∧ ∀ u' i', nh_df K V Ln u' i' n → ¬ nh_bf u i u' i'
def nh_us (K V : Nat → Int32) (Ln : Nat → Nat) (u s j m : Nat) : Prop := s < j ∧ j < Ln u ∧ (∀ t, s < t → t ≤ j → K (u * 32 + t) ≠ 9) ∧ K (u * 32 + j) = 2 ∧ V (u * 32 + j) = nI m
def nh_uq (K V : Nat → Int32) (Ln : Nat → Nat) (U n m : Nat) : Prop := ∃ u s j, nh_fs K V Ln U n u s ∧ nh_us K V Ln u s j m
def nh_ow (K V : Nat → Int32) (Ln : Nat → Nat) (U n : Nat) : Prop := ∃ u s, nh_fs K V Ln U n u s
theorem nh_bfs {u i u' i' : Nat} (h : nh_bf u (i + 1) u' i') : nh_bf u i u' i' ∨ (u' = u ∧ i' = i) := by
  unfold nh_bf at *; omega
theorem nh_bfm {u i u' i' : Nat} (h : nh_bf u i u' i') : nh_bf u (i + 1) u' i' := by
  unfold nh_bf at *; omega
theorem nh_fs1 {K V : Nat → Int32} {Ln : Nat → Nat} {U n u i u' i' : Nat} (h : nh_fs K V Ln U n u i) (h' : nh_fs K V Ln U n u' i') : u' = u ∧ i' = i := by
  have h1 := h.2.2 u' i' h'.2.1
  have h2 := h'.2.2 u i h.2.1
  unfold nh_bf at *; omega
/-- no run from an earlier start reaches a start -/
theorem nh_us0 {K V : Nat → Int32} {Ln : Nat → Nat} {u s i n m : Nat} (hd : nh_df K V Ln u s n) (h0 : nh_S K (u * 32) i = 0) (h : nh_us K V Ln u s i m) : False := by
  obtain ⟨h1, h2, h3, _, _⟩ := h
  obtain ⟨hk, hs, hs0, _⟩ := hd
  obtain ⟨q, rfl⟩ : ∃ q, i = q + 1 := ⟨i - 1, by omega⟩
  have h9 := nh_pre h0
  by_cases e : q = s
  · rw [e, (nh_st0 hk hs hs0).1] at h9; exact absurd h9 (by decide)
  · exact h3 q (by omega) (by omega) h9
/-- what X's scan has found of name n before (u, i): its owner o, start e, uses x, owned or not b -/
def nh_XN (K V : Nat → Int32) (Ln : Nat → Nat) (U u i n : Nat) (o e x : Int32) (b : Bool) : Prop :=
  (o = -1 ∧ b = false ∧ x = 0 ∧ ∀ u' i', nh_df K V Ln u' i' n → ¬ nh_bf u i u' i') ∨
    (∃ u' i', nh_bf u i u' i' ∧ nh_fs K V Ln U n u' i' ∧ o = nI u' ∧ e = nI (i' + 2) ∧ b = true ∧
      ∀ m, m < 32 → (bt x m = true ↔ ∃ j, nh_bf u i u' j ∧ nh_us K V Ln u' i' j m))
def nh_XI (K V : Nat → Int32) (Ln : Nat → Nat) (U N u i : Nat) (no es nu : Nat → Int32) (ow : Int32) : Prop :=
  ∀ n, n < N → nh_XN K V Ln U u i n (no n) (es n) (nu n) (bt ow n)
theorem nh_XI0 {K V : Nat → Int32} {Ln : Nat → Nat} {U N : Nat} {no es nu : Nat → Int32} {ow : Int32} (h : ∀ n, n < N → no n = -1 ∧ nu n = 0) (h0 : ow = 0) : nh_XI K V Ln U N 0 0 no es nu ow := by
  intro n hn
  refine Or.inl ⟨(h n hn).1, by rw [h0]; exact b_0 n, (h n hn).2, fun u' i' _ hb => ?_⟩
  unfold nh_bf at hb; omega
/-- a token that neither claims the name nor is a use of its definition -/
theorem nh_XNa {K V : Nat → Int32} {Ln : Nat → Nat} {U u i n : Nat} {o e x : Int32} {b : Bool} (h : nh_XN K V Ln U u i n o e x b)
    (hd : nh_df K V Ln u i n → ¬ o = -1) (hk : ∀ s m, nh_fs K V Ln U n u s → ¬ nh_us K V Ln u s i m) : nh_XN K V Ln U u (i + 1) n o e x b := by
  rcases h with ⟨h1, h2, h3, h4⟩ | ⟨u', i', hb, hf, h1, h2, h3, h4⟩
  · refine Or.inl ⟨h1, h2, h3, fun u' i' hdf hb => ?_⟩
    rcases nh_bfs hb with hb | ⟨e1, e2⟩
    · exact h4 u' i' hdf hb
    · rw [e1, e2] at hdf; exact hd hdf h1
  · refine Or.inr ⟨u', i', nh_bfm hb, hf, h1, h2, h3, fun m hm => ?_⟩
    rw [h4 m hm]
    constructor
    · rintro ⟨j, hj, hu⟩; exact ⟨j, nh_bfm hj, hu⟩
    · rintro ⟨j, hj, hu⟩
      rcases nh_bfs hj with hj | ⟨e1, e2⟩
      · exact ⟨j, hj, hu⟩
      · rw [e1, e2] at hu; rw [e1] at hf; exact (hk _ _ hf hu).elim
theorem nh_XIa {K V : Nat → Int32} {Ln : Nat → Nat} {U N u i : Nat} {no es nu : Nat → Int32} {ow : Int32} (h : nh_XI K V Ln U N u i no es nu ow)
    (hd : ∀ n, n < N → nh_df K V Ln u i n → ¬ no n = -1) (hk : ∀ s n m, n < N → nh_fs K V Ln U n u s → ¬ nh_us K V Ln u s i m) : nh_XI K V Ln U N u (i + 1) no es nu ow :=
  fun n hn => nh_XNa (h n hn) (hd n hn) (fun s m => hk s n m hn)
/-- a start whose name is free: it is claimed -/
theorem nh_XIc {K V : Nat → Int32} {Ln : Nat → Nat} {U N u i n0 : Nat} {no es nu : Nat → Int32} {ow : Int32} (h : nh_XI K V Ln U N u i no es nu ow)
    (hU : U ≤ 8) (hN : N ≤ 16) (hu : u < U) (hn0 : n0 < N) (hdf : nh_df K V Ln u i n0) (hno : no n0 = -1) :
    nh_fs K V Ln U n0 u i ∧ nh_XI K V Ln U N u (i + 1) (upd no n0 (nI u)) (upd es n0 (nI (i + 2))) nu (ow ||| ((1 : Int32) <<< (nI n0 &&& 31))) := by
  have hfs : nh_fs K V Ln U n0 u i ∧ nu n0 = 0 := by
    rcases h n0 hn0 with ⟨h1, h2, h3, h4⟩ | ⟨u', i', hb, hf, h1, h2, h3, h4⟩
    · exact ⟨⟨hu, hdf, h4⟩, h3⟩
    · rw [h1] at hno; exact absurd hno (nh_ne1 (by have := hf.1; omega))
  refine ⟨hfs.1, fun n hn => ?_⟩
  by_cases e : n = n0
  · subst e
    refine Or.inr ⟨u, i, Or.inr ⟨rfl, by omega⟩, hfs.1, pk_us, pk_us, (nh_or1 (by omega) (by omega)).mpr (Or.inr rfl), fun m hm => ?_⟩
    rw [hfs.2, b_0]
    constructor
    · intro h; exact absurd h (by decide)
    · rintro ⟨j, hj, hu⟩
      have h1 := hu.1
      unfold nh_bf at hj; omega
  · have hob : bt (ow ||| ((1 : Int32) <<< (nI n0 &&& 31))) n = bt ow n := by
      cases hb : bt ow n
      · refine nh_bt0 (fun h1 => ?_)
        rcases (nh_or1 (by omega) (by omega)).mp h1 with h2 | h2
        · rw [hb] at h2; exact absurd h2 (by decide)
        · exact e h2
      · exact (nh_or1 (by omega) (by omega)).mpr (Or.inl hb)
    rw [pk_un e, pk_un e, hob]
    refine nh_XNa (h n hn) (fun hd => ?_) (fun s m hf hu => nh_us0 hf.2.1 hdf.2.2.1 hu)
    have h5 := hd.2.2.2
    rw [hdf.2.2.2] at h5
    exact absurd (nh_im h5 (by omega) (by omega)).symm e
/-- the current definition of a unit: its start, and whether it is the first of its name -/
def nh_cur (K V : Nat → Int32) (Ln : Nat → Nat) (U N u i : Nat) (x : Int32) : Prop :=
  ∃ s n, s < i ∧ n < N ∧ nh_df K V Ln u s n ∧ (∀ t, s < t → t < i → K (u * 32 + t) ≠ 9) ∧ ((nh_fs K V Ln U n u s ∧ x = nI n) ∨ (¬ nh_fs K V Ln U n u s ∧ x = -1))
theorem nh_cur1 {K V : Nat → Int32} {Ln : Nat → Nat} {U N u i : Nat} {x : Int32} (h : nh_cur K V Ln U N u i x) (h9 : ¬ K (u * 32 + i) = 9) : nh_cur K V Ln U N u (i + 1) x := by
  obtain ⟨s, n, h1, h2, h3, h4, h5⟩ := h
  refine ⟨s, n, by omega, h2, h3, fun t ht ht2 => ?_, h5⟩
  by_cases e : t = i
  · rw [e]; exact h9
  · exact h4 t ht (by omega)
theorem nh_segu {K V : Nat → Int32} {Ln : Nat → Nat} {u i s s' n n' m : Nat} (hs : s < i) (hd : nh_df K V Ln u s n) (hn : ∀ t, s < t → t < i → K (u * 32 + t) ≠ 9)
    (hd' : nh_df K V Ln u s' n') (hu : nh_us K V Ln u s' i m) : s = s' :=
  nh_seg hd.1 (Nat.le_of_lt hu.2.1) hs hu.1 hd.2.2.1 hd'.2.2.1 hn (fun t h1 h2 => hu.2.2.1 t h1 (by omega))
/-- a use in a definition that is not the first of its name -/
theorem nh_XIn {K V : Nat → Int32} {Ln : Nat → Nat} {U N u i s n0 : Nat} {no es nu : Nat → Int32} {ow : Int32} (h : nh_XI K V Ln U N u i no es nu ow)
    (hN : N ≤ 16) (hs : s < i) (hn0 : n0 < N) (hd : nh_df K V Ln u s n0) (hn : ∀ t, s < t → t < i → K (u * 32 + t) ≠ 9) (hf0 : ¬ nh_fs K V Ln U n0 u s) (h0 : ¬ nh_S K (u * 32) i = 0) :
    nh_XI K V Ln U N u (i + 1) no es nu ow := by
  refine nh_XIa h (fun n _ hdf => absurd hdf.2.2.1 h0) (fun s' n m hnN hf hu => ?_)
  have e := nh_segu hs hd hn hf.2.1 hu
  subst e
  have e2 : n = n0 := nh_im (by rw [← hf.2.1.2.2.2, hd.2.2.2]) (by omega) (by omega)
  subst e2
  exact hf0 hf
/-- a use in the definition of a name -/
theorem nh_XIu {K V : Nat → Int32} {Ln : Nat → Nat} {U N u i s n0 m0 : Nat} {no es nu : Nat → Int32} {ow : Int32} (h : nh_XI K V Ln U N u i no es nu ow)
    (hN : N ≤ 16) (hi : i < Ln u) (hs : s < i) (hn0 : n0 < N) (hf0 : nh_fs K V Ln U n0 u s) (hn : ∀ t, s < t → t < i → K (u * 32 + t) ≠ 9) (h0 : ¬ nh_S K (u * 32) i = 0)
    (hK : K (u * 32 + i) = 2) (hV : V (u * 32 + i) = nI m0) (hm0 : m0 < N) :
    nh_XI K V Ln U N u (i + 1) no es (upd nu n0 (nu n0 ||| ((1 : Int32) <<< (nI m0 &&& 31)))) ow := by
  intro n hnN
  by_cases e : n = n0
  · subst e
    rcases h n hnN with ⟨h1, h2, h3, h4⟩ | ⟨u', i', hb, hf, h1, h2, h3, h4⟩
    · exact absurd (Or.inr ⟨rfl, hs⟩) (h4 u s hf0.2.1)
    · obtain ⟨e1, e2⟩ := nh_fs1 hf0 hf
      subst e1 e2
      refine Or.inr ⟨_, _, nh_bfm hb, hf, h1, h2, h3, fun m hm => ?_⟩
      rw [pk_us, nh_or1 (by omega) hm, h4 m hm]
      constructor
      · rintro (⟨j, hj, hu⟩ | e3)
        · exact ⟨j, nh_bfm hj, hu⟩
        · subst e3
          refine ⟨i, Or.inr ⟨rfl, by omega⟩, hs, hi, fun t ht ht2 => ?_, hK, hV⟩
          by_cases e4 : t = i
          · rw [e4, hK]; decide
          · exact hn t ht (by omega)
      · rintro ⟨j, hj, hu⟩
        rcases nh_bfs hj with hj | ⟨e1, e2⟩
        · exact Or.inl ⟨j, hj, hu⟩
        · subst e2
          refine Or.inr (nh_im ?_ (by omega) (by omega))
          rw [← hu.2.2.2.2, hV]
  · rw [pk_un e]
    refine nh_XNa (h n hnN) (fun hdf => absurd hdf.2.2.1 h0) (fun s' m hf hu => ?_)
    have e1 := nh_segu hs hf0.2.1 hn hf.2.1 hu
    subst e1
    exact e (nh_im (by rw [← hf.2.1.2.2.2, hf0.2.1.2.2.2]) (by omega) (by omega))
theorem nh_XNe {K V : Nat → Int32} {Ln : Nat → Nat} {U u i u1 i1 n : Nat} {o e x : Int32} {b : Bool} (h : nh_XN K V Ln U u i n o e x b)
    (hb : ∀ u' j, nh_ok K (u' * 32) (Ln u') → j < Ln u' → (nh_bf u i u' j ↔ nh_bf u1 i1 u' j)) : nh_XN K V Ln U u1 i1 n o e x b := by
  rcases h with ⟨h1, h2, h3, h4⟩ | ⟨u', i', hb', hf, h1, h2, h3, h4⟩
  · exact Or.inl ⟨h1, h2, h3, fun u' i' hd hb1 => h4 u' i' hd ((hb u' i' hd.1 hd.2.1).mpr hb1)⟩
  · refine Or.inr ⟨u', i', (hb u' i' hf.2.1.1 hf.2.1.2.1).mp hb', hf, h1, h2, h3, fun m hm => ?_⟩
    rw [h4 m hm]
    constructor
    · rintro ⟨j, hj, hu⟩; exact ⟨j, (hb u' j hf.2.1.1 hu.2.1).mp hj, hu⟩
    · rintro ⟨j, hj, hu⟩; exact ⟨j, (hb u' j hf.2.1.1 hu.2.1).mpr hj, hu⟩
theorem nh_XIe {K V : Nat → Int32} {Ln : Nat → Nat} {U N u : Nat} {no es nu : Nat → Int32} {ow : Int32} (h : nh_XI K V Ln U N u (Ln u) no es nu ow) : nh_XI K V Ln U N (u + 1) 0 no es nu ow := by
  intro n hn
  refine nh_XNe (h n hn) (fun u' j _ hj => ?_)
  unfold nh_bf
  by_cases e : u' = u
  · subst e; omega
  · omega
theorem nh_XIb {K V : Nat → Int32} {Ln : Nat → Nat} {U N u : Nat} {no es nu : Nat → Int32} {ow : Int32} (h : nh_XI K V Ln U N u 0 no es nu ow) (hk : ¬ nh_ok K (u * 32) (Ln u)) : nh_XI K V Ln U N (u + 1) 0 no es nu ow := by
  intro n hn
  refine nh_XNe (h n hn) (fun u' j h1 hj => ?_)
  unfold nh_bf
  by_cases e : u' = u
  · subst e; exact absurd h1 hk
  · omega
/-- what the scan has found at its end -/
def nh_XF (K V : Nat → Int32) (Ln : Nat → Nat) (U N : Nat) (no es nu : Nat → Int32) (ow : Int32) : Prop :=
  ∀ n, n < N → (bt ow n = true ↔ nh_ow K V Ln U n) ∧ (∀ m, m < 32 → (bt (nu n) m = true ↔ nh_uq K V Ln U n m)) ∧ (¬ nh_ow K V Ln U n → no n = -1) ∧ (∀ u s, nh_fs K V Ln U n u s → no n = nI u ∧ es n = nI (s + 2))
theorem nh_XIf {K V : Nat → Int32} {Ln : Nat → Nat} {U N : Nat} {no es nu : Nat → Int32} {ow : Int32} (h : nh_XI K V Ln U N U 0 no es nu ow) : nh_XF K V Ln U N no es nu ow := by
  intro n hn
  rcases h n hn with ⟨h1, h2, h3, h4⟩ | ⟨u', i', hb, hf, h1, h2, h3, h4⟩
  · have hno : ¬ nh_ow K V Ln U n := by
      rintro ⟨u, s, hf⟩
      exact h4 u s hf.2.1 (Or.inl hf.1)
    refine ⟨?_, fun m hm => ?_, fun _ => h1, fun u s hf => absurd ⟨u, s, hf⟩ hno⟩
    · rw [h2]; exact ⟨fun h => absurd h (by decide), fun h => absurd h hno⟩
    · rw [h3, b_0]
      exact ⟨fun h => absurd h (by decide), fun ⟨u, s, j, hf, _⟩ => absurd ⟨u, s, hf⟩ hno⟩
  · refine ⟨?_, fun m hm => ?_, fun hno => absurd ⟨u', i', hf⟩ hno, fun u s hf2 => ?_⟩
    · rw [h3]; exact ⟨fun _ => ⟨u', i', hf⟩, fun _ => rfl⟩
    · rw [h4 m hm]
      constructor
      · rintro ⟨j, _, hu⟩; exact ⟨u', i', j, hf, hu⟩
      · rintro ⟨u, s, j, hf2, hu⟩
        obtain ⟨e1, e2⟩ := nh_fs1 hf hf2
        subst e1 e2
        exact ⟨j, Or.inl hf.1, hu⟩
    · obtain ⟨e1, e2⟩ := nh_fs1 hf hf2
      subst e1 e2
      exact ⟨h1, h2⟩
/-- the names a unit uses, before token i -/
def nh_uu (K V : Nat → Int32) (b i m : Nat) : Prop := ∃ j, j < i ∧ nh_S K b j ≠ 0 ∧ K (b + j) = 2 ∧ V (b + j) = nI m
theorem nh_uu0 {K V : Nat → Int32} {b m : Nat} : ¬ nh_uu K V b 0 m := fun ⟨j, h, _⟩ => absurd h (Nat.not_lt_zero j)
theorem nh_uus {K V : Nat → Int32} {b i m : Nat} : nh_uu K V b (i + 1) m ↔ nh_uu K V b i m ∨ (nh_S K b i ≠ 0 ∧ K (b + i) = 2 ∧ V (b + i) = nI m) := by
  constructor
  · rintro ⟨j, h, h2⟩
    by_cases e : j = i
    · subst e; exact Or.inr h2
    · exact Or.inl ⟨j, by omega, h2⟩
  · rintro (⟨j, h, h2⟩ | h2)
    · exact ⟨j, by omega, h2⟩
    · exact ⟨i, by omega, h2⟩
theorem nh_uun {K V : Nat → Int32} {b i m : Nat} (h : ¬ (nh_S K b i ≠ 0 ∧ K (b + i) = 2)) : nh_uu K V b (i + 1) m ↔ nh_uu K V b i m := by
  rw [nh_uus]
  exact ⟨fun h1 => h1.elim id (fun h2 => absurd ⟨h2.1, h2.2.1⟩ h), Or.inl⟩
/-- the number of definitions -/
def nh_ct (K : Nat → Int32) (b : Nat) : Nat → Nat
  | 0 => 0
  | i + 1 => if K (b + i) = 9 then nh_ct K b i + 1 else nh_ct K b i
theorem nh_ctle (K : Nat → Int32) (b : Nat) : ∀ i, nh_ct K b i ≤ i := by
  intro i
  induction i with
  | zero => exact Nat.le_refl 0
  | succ i ih => rw [nh_ct]; split <;> omega
end
section
/-! 04: the graph, its closure, and why N rounds decide every name: pure -/
def nh_rl (O : Nat → Prop) (Q : Nat → Nat → Prop) : Nat → Nat → Nat → Prop
  | 0, a, c => Q a c ∧ O a ∧ O c
  | k + 1, a, c => nh_rl O Q k a c ∨ (nh_rl O Q k a k ∧ nh_rl O Q k k c)
theorem nh_rl0 {O : Nat → Prop} {Q : Nat → Nat → Prop} {a c : Nat} (h : nh_rl O Q 0 a c) : ∀ k, nh_rl O Q k a c := by
  intro k
  induction k with
  | zero => exact h
  | succ k ih => exact Or.inl ih
theorem nh_rlk {O : Nat → Prop} {Q : Nat → Nat → Prop} {k a : Nat} (h : nh_rl O Q (k + 1) a k) : nh_rl O Q k a k := Or.elim h id (fun h => h.1)
theorem nh_rlk' {O : Nat → Prop} {Q : Nat → Nat → Prop} {k c : Nat} (h : nh_rl O Q (k + 1) k c) : nh_rl O Q k k c := Or.elim h id (fun h => h.2)
theorem nh_rlt {O : Nat → Prop} {Q : Nat → Nat → Prop} : ∀ k a j c, j < k → nh_rl O Q k a j → nh_rl O Q k j c → nh_rl O Q k a c := by
  intro k
  induction k with
  | zero => intro a j c h; exact absurd h (Nat.not_lt_zero j)
  | succ k ih =>
    intro a j c hj h1 h2
    by_cases e : j = k
    · subst e
      exact Or.inr ⟨nh_rlk h1, nh_rlk' h2⟩
    · have hjk : j < k := by omega
      rcases h1 with h1 | ⟨h1, h1'⟩
      · rcases h2 with h2 | ⟨h2, h2'⟩
        · exact Or.inl (ih a j c hjk h1 h2)
        · exact Or.inr ⟨ih a j k hjk h1 h2, h2'⟩
      · rcases h2 with h2 | ⟨h2, h2'⟩
        · exact Or.inr ⟨h1, ih k j c hjk h1' h2⟩
        · exact Or.inr ⟨h1, h2'⟩
/-- a set each of whose members leads to a member holds a member that leads to itself -/
theorem nh_cyc {R : Nat → Nat → Prop} {M : Nat} (ht : ∀ a b c, b < M → R a b → R b c → R a c) : ∀ (N : Nat), N ≤ M → ∀ (P : Nat → Prop), (∀ n, n < N → P n → ∃ m, m < N ∧ P m ∧ R n m) → (∃ n, n < N ∧ P n) → ∃ n, n < N ∧ P n ∧ R n n := by
  intro N
  induction N with
  | zero => rintro _ P _ ⟨n, hn, _⟩; exact absurd hn (Nat.not_lt_zero n)
  | succ N ih =>
    intro hM P hs hex
    by_cases hP : P N
    · by_cases hR : R N N
      · exact ⟨N, by omega, hP, hR⟩
      · obtain ⟨m, hm, hPm, hRm⟩ := hs N (by omega) hP
        have hmN : m < N := by
          rcases Nat.lt_or_ge m N with h | h
          · exact h
          · have e : m = N := by omega
            subst e; exact absurd hRm hR
        obtain ⟨n, h1, h2, h3⟩ := ih (by omega) P (fun n hn hPn => by
          obtain ⟨q, hq, hPq, hRq⟩ := hs n (by omega) hPn
          rcases Nat.lt_or_ge q N with h | h
          · exact ⟨q, h, hPq, hRq⟩
          · have e : q = N := by omega
            subst e
            exact ⟨m, hmN, hPm, ht n q m (by omega) hRq hRm⟩) ⟨m, hmN, hPm⟩
        exact ⟨n, by omega, h2, h3⟩
    · obtain ⟨n0, h0, hP0⟩ := hex
      have hn0 : n0 < N := by
        rcases Nat.lt_or_ge n0 N with h | h
        · exact h
        · have e : n0 = N := by omega
          subst e; exact absurd hP0 hP
      obtain ⟨n, h1, h2, h3⟩ := ih (by omega) P (fun n hn hPn => by
        obtain ⟨q, hq, hPq, hRq⟩ := hs n (by omega) hPn
        rcases Nat.lt_or_ge q N with h | h
        · exact ⟨q, h, hPq, hRq⟩
        · have e : q = N := by omega
          subst e; exact absurd hPq hP) ⟨n0, hn0, hP0⟩
      exact ⟨n, by omega, h2, h3⟩
/-! counting -/
noncomputable def nh_b (p : Prop) : Nat := @ite Nat p (Classical.propDecidable p) 1 0
theorem nh_bT {p : Prop} (h : p) : nh_b p = 1 := @if_pos p (Classical.propDecidable p) h Nat 1 0
theorem nh_bF {p : Prop} (h : ¬ p) : nh_b p = 0 := @if_neg p (Classical.propDecidable p) h Nat 1 0
theorem nh_ble (p : Prop) : nh_b p ≤ 1 := by
  by_cases h : p
  · rw [nh_bT h]; exact Nat.le_refl 1
  · rw [nh_bF h]; exact Nat.zero_le 1
theorem nh_bm {p q : Prop} (h : p → q) : nh_b p ≤ nh_b q := by
  by_cases hp : p
  · rw [nh_bT hp, nh_bT (h hp)]; exact Nat.le_refl 1
  · rw [nh_bF hp]; exact Nat.zero_le _
noncomputable def nh_cn (p : Nat → Prop) : Nat → Nat
  | 0 => 0
  | n + 1 => nh_cn p n + nh_b (p n)
theorem nh_cnle (p : Nat → Prop) : ∀ n, nh_cn p n ≤ n := by
  intro n
  induction n with
  | zero => exact Nat.le_refl 0
  | succ n ih => rw [nh_cn]; have := nh_ble (p n); omega
theorem nh_cnm {p q : Nat → Prop} : ∀ n, (∀ i, i < n → p i → q i) → nh_cn p n ≤ nh_cn q n := by
  intro n
  induction n with
  | zero => intro _; exact Nat.le_refl 0
  | succ n ih =>
    intro h
    rw [nh_cn, nh_cn]
    have h1 := ih (fun i hi => h i (by omega))
    have h2 := nh_bm (h n (by omega))
    omega
theorem nh_cnlt {p q : Nat → Prop} : ∀ n, (∀ i, i < n → p i → q i) → (∃ i, i < n ∧ q i ∧ ¬ p i) → nh_cn p n < nh_cn q n := by
  intro n
  induction n with
  | zero => rintro _ ⟨i, hi, _⟩; exact absurd hi (Nat.not_lt_zero i)
  | succ n ih =>
    rintro h ⟨i, hi, hq, hp⟩
    rw [nh_cn, nh_cn]
    by_cases e : i = n
    · subst e
      rw [nh_bT hq, nh_bF hp]
      have h1 := nh_cnm i (fun j hj => h j (by omega))
      omega
    · have h1 := ih (fun j hj => h j (by omega)) ⟨i, by omega, hq, hp⟩
      have h2 := nh_bm (h n (by omega))
      omega
theorem nh_cn0 {p : Nat → Prop} : ∀ n, nh_cn p n = 0 → ∀ i, i < n → ¬ p i := by
  intro n
  induction n with
  | zero => intro _ i hi; exact absurd hi (Nat.not_lt_zero i)
  | succ n ih =>
    intro h i hi hp
    rw [nh_cn] at h
    by_cases e : i = n
    · subst e; rw [nh_bT hp] at h; omega
    · exact ih (by omega) i (by omega) hp
/-! pending names, and the round by which each is decided -/
def nh_pd (O : Nat → Prop) (Q : Nat → Nat → Prop) (N n : Nat) : Prop := O n ∧ ¬ nh_rl O Q N n n ∧ ∀ m, m < N → Q n m → O m
def nh_dn (O : Nat → Prop) (Q : Nat → Nat → Prop) (N : Nat) : Nat → Nat → Prop
  | 0, n => ¬ nh_pd O Q N n
  | r + 1, n => nh_dn O Q N r n ∨ ∀ m, m < N → Q n m → nh_dn O Q N r m
theorem nh_dn0 {O : Nat → Prop} {Q : Nat → Nat → Prop} {N n : Nat} (h : ¬ nh_pd O Q N n) : ∀ r, nh_dn O Q N r n := by
  intro r
  induction r with
  | zero => exact h
  | succ r ih => exact Or.inl ih
theorem nh_dnp {O : Nat → Prop} {Q : Nat → Nat → Prop} {N n r : Nat} (h : ¬ nh_dn O Q N r n) : nh_pd O Q N n := by
  rcases Classical.em (nh_pd O Q N n) with h1 | h1
  · exact h1
  · exact absurd (nh_dn0 h1 r) h
theorem nh_dng {O : Nat → Prop} {Q : Nat → Nat → Prop} {N r : Nat} (hex : ∃ n, n < N ∧ ¬ nh_dn O Q N r n) : ∃ n, n < N ∧ ¬ nh_dn O Q N r n ∧ nh_dn O Q N (r + 1) n := by
  rcases Classical.em (∃ n, n < N ∧ ¬ nh_dn O Q N r n ∧ nh_dn O Q N (r + 1) n) with h | h
  · exact h
  · exfalso
    obtain ⟨n, hn, h1, h2⟩ := nh_cyc (R := nh_rl O Q N) (M := N) (fun a b c hb => nh_rlt N a b c hb) N (Nat.le_refl N) (fun n => ¬ nh_dn O Q N r n) (fun n hn h1 => by
      have h2 : ¬ nh_dn O Q N (r + 1) n := fun h2 => h ⟨n, hn, h1, h2⟩
      have h3 : ¬ ∀ m, m < N → Q n m → nh_dn O Q N r m := fun h3 => h2 (Or.inr h3)
      rcases Classical.em (∃ m, m < N ∧ Q n m ∧ ¬ nh_dn O Q N r m) with h4 | h4
      · obtain ⟨m, hm, hQ, hd⟩ := h4
        exact ⟨m, hm, hd, nh_rl0 ⟨hQ, (nh_dnp h1).1, (nh_dnp hd).1⟩ N⟩
      · refine absurd (fun m hm hQ => ?_) h3
        rcases Classical.em (nh_dn O Q N r m) with h5 | h5
        · exact h5
        · exact absurd ⟨m, hm, hQ, h5⟩ h4) hex
    exact (nh_dnp h1).2.1 h2
theorem nh_dnc {O : Nat → Prop} {Q : Nat → Nat → Prop} {N : Nat} : ∀ r, nh_cn (fun n => ¬ nh_dn O Q N r n) N = 0 ∨ nh_cn (fun n => ¬ nh_dn O Q N r n) N + r ≤ N := by
  intro r
  induction r with
  | zero => exact Or.inr (nh_cnle _ N)
  | succ r ih =>
    have hm : ∀ i, i < N → ¬ nh_dn O Q N (r + 1) i → ¬ nh_dn O Q N r i := fun i _ h h1 => h (Or.inl h1)
    rcases Classical.em (∃ n, n < N ∧ ¬ nh_dn O Q N r n) with h | h
    · obtain ⟨n, hn, h1, h2⟩ := nh_dng h
      have h3 : nh_cn (fun n => ¬ nh_dn O Q N (r + 1) n) N < nh_cn (fun n => ¬ nh_dn O Q N r n) N := nh_cnlt N hm ⟨n, hn, h1, fun h4 => h4 h2⟩
      omega
    · have h4 : nh_cn (fun n => ¬ nh_dn O Q N r n) N = 0 := by
        have h5 := nh_cnm (p := fun n => ¬ nh_dn O Q N r n) (q := fun _ => False) N (fun i hi h6 => h ⟨i, hi, h6⟩)
        have h7 : ∀ k, nh_cn (fun _ => False) k = 0 := by
          intro k
          induction k with
          | zero => rfl
          | succ k ihk => rw [nh_cn, ihk, nh_bF (fun h => h)]
        have h8 := h7 N
        omega
      have h9 := nh_cnm N hm
      exact Or.inl (by omega)
theorem nh_dna {O : Nat → Prop} {Q : Nat → Nat → Prop} {N n : Nat} (hn : n < N) : nh_dn O Q N N n := by
  have h0 : nh_cn (fun n => ¬ nh_dn O Q N N n) N = 0 := by
    rcases nh_dnc (O := O) (Q := Q) (N := N) N with h | h
    · exact h
    · omega
  rcases Classical.em (nh_dn O Q N N n) with h | h
  · exact h
  · exact absurd h (nh_cn0 (p := fun n => ¬ nh_dn O Q N N n) N h0 n hn)
/-- statuses s and values w are those the document asks for; E n w x: x is the value of the definition of n, the names' values being w -/
def nh_sol (O : Nat → Prop) (Q : Nat → Nat → Prop) (E : Nat → (Nat → Int32) → Int32 → Prop) (N : Nat) (s w : Nat → Int32) : Prop :=
  ∀ n, n < N → (¬ O n → s n = 0 ∧ w n = 0) ∧ (O n → nh_rl O Q N n n → s n = 3 ∧ w n = 0) ∧ (O n → ¬ nh_rl O Q N n n → (∃ m, m < N ∧ Q n m ∧ ¬ O m) → s n = 2 ∧ w n = 0) ∧
    (nh_pd O Q N n → (s n = 4 ∧ w n = 0 ∧ ∃ m, m < N ∧ Q n m ∧ ¬ s m = 1) ∨ (s n = 1 ∧ (∀ m, m < N → Q n m → s m = 1) ∧ E n w (w n)))
end
section
/-! 05: the value of an expr, as X reckons it: pure -/
def nh_pe (K V w : Nat → Int32) : Nat → Nat → Bool → Nat → Int32 → Int32 → (Nat → Int32) → (Nat → Int32) → Int32
  | 0, _, _, _, t, q, _, _ => t + q
  | f + 1, p, af, d, t, q, oT, oP =>
    if K p = 9 then t + q
    else if K p = 1 then nh_pe K V w f (p + 1) true d t (q * V p) oT oP
    else if K p = 2 then nh_pe K V w f (p + 1) true d t (q * w (V p).toNatClampNeg) oT oP
    else if K p = 3 then nh_pe K V w f (p + 1) false d (t + q) 1 oT oP
    else if K p = 4 then (if af = true then nh_pe K V w f (p + 1) false d (t + q) (-1) oT oP else nh_pe K V w f (p + 1) false d t (-q) oT oP)
    else if K p = 6 then nh_pe K V w f (p + 1) false (d + 1) 0 1 (upd oT d t) (upd oP d q)
    else if K p = 7 then (if d = 0 then nh_pe K V w f (p + 1) true d t q oT oP else nh_pe K V w f (p + 1) true (d - 1) (oT (d - 1)) (oP (d - 1) * (t + q)) oT oP)
    else nh_pe K V w f (p + 1) false d t q oT oP
theorem nh_peS (K V w : Nat → Int32) (f p : Nat) (af : Bool) (d : Nat) (t q : Int32) (oT oP : Nat → Int32) : nh_pe K V w (f + 1) p af d t q oT oP =
    if K p = 9 then t + q
    else if K p = 1 then nh_pe K V w f (p + 1) true d t (q * V p) oT oP
    else if K p = 2 then nh_pe K V w f (p + 1) true d t (q * w (V p).toNatClampNeg) oT oP
    else if K p = 3 then nh_pe K V w f (p + 1) false d (t + q) 1 oT oP
    else if K p = 4 then (if af = true then nh_pe K V w f (p + 1) false d (t + q) (-1) oT oP else nh_pe K V w f (p + 1) false d t (-q) oT oP)
    else if K p = 6 then nh_pe K V w f (p + 1) false (d + 1) 0 1 (upd oT d t) (upd oP d q)
    else if K p = 7 then (if d = 0 then nh_pe K V w f (p + 1) true d t q oT oP else nh_pe K V w f (p + 1) true (d - 1) (oT (d - 1)) (oP (d - 1) * (t + q)) oT oP)
    else nh_pe K V w f (p + 1) false d t q oT oP := rfl
/-- only the values of the names used count, and no stored level that is not open -/
theorem nh_pec {K V w w' : Nat → Int32} : ∀ (f p : Nat) (af : Bool) (d : Nat) (t q : Int32) (oT oP oT' oP' : Nat → Int32),
    (∀ j, p ≤ j → j < p + f → (∀ t, p ≤ t → t ≤ j → K t ≠ 9) → K j = 2 → w (V j).toNatClampNeg = w' (V j).toNatClampNeg) → (∀ j, j < d → oT j = oT' j ∧ oP j = oP' j) →
    nh_pe K V w f p af d t q oT oP = nh_pe K V w' f p af d t q oT' oP' := by
  intro f
  induction f with
  | zero => intros; rfl
  | succ f ih =>
    intro p af d t q oT oP oT' oP' h ho
    rw [nh_peS, nh_peS]
    by_cases h9 : K p = 9
    · rw [if_pos h9, if_pos h9]
    · have hr : ∀ j, p + 1 ≤ j → j < p + 1 + f → (∀ t, p + 1 ≤ t → t ≤ j → K t ≠ 9) → K j = 2 → w (V j).toNatClampNeg = w' (V j).toNatClampNeg := fun j h1 h2 h3 h4 =>
        h j (by omega) (by omega) (fun t ht ht2 => by
          by_cases e : t = p
          · rw [e]; exact h9
          · exact h3 t (by omega) ht2) h4
      rw [if_neg h9, if_neg h9]
      by_cases h1 : K p = 1
      · rw [if_pos h1, if_pos h1]; exact ih _ _ _ _ _ _ _ _ _ hr ho
      rw [if_neg h1, if_neg h1]
      by_cases h2 : K p = 2
      · rw [if_pos h2, if_pos h2, h p (Nat.le_refl p) (by omega) (fun t ht ht2 => by rw [show t = p by omega]; exact h9) h2]
        exact ih _ _ _ _ _ _ _ _ _ hr ho
      rw [if_neg h2, if_neg h2]
      by_cases h3 : K p = 3
      · rw [if_pos h3, if_pos h3]; exact ih _ _ _ _ _ _ _ _ _ hr ho
      rw [if_neg h3, if_neg h3]
      by_cases h4 : K p = 4
      · rw [if_pos h4, if_pos h4]
        by_cases ha : af = true
        · rw [if_pos ha, if_pos ha]; exact ih _ _ _ _ _ _ _ _ _ hr ho
        · rw [if_neg ha, if_neg ha]; exact ih _ _ _ _ _ _ _ _ _ hr ho
      rw [if_neg h4, if_neg h4]
      by_cases h6 : K p = 6
      · rw [if_pos h6, if_pos h6]
        refine ih _ _ _ _ _ _ _ _ _ hr (fun j hj => ?_)
        by_cases e : j = d
        · subst e; rw [pk_us, pk_us, pk_us, pk_us]; exact ⟨rfl, rfl⟩
        · rw [pk_un e, pk_un e, pk_un e, pk_un e]; exact ho j (by omega)
      rw [if_neg h6, if_neg h6]
      by_cases h7 : K p = 7
      · rw [if_pos h7, if_pos h7]
        by_cases hd : d = 0
        · rw [if_pos hd, if_pos hd]; exact ih _ _ _ _ _ _ _ _ _ hr ho
        · rw [if_neg hd, if_neg hd, (ho (d - 1) (by omega)).1, (ho (d - 1) (by omega)).2]
          exact ih _ _ _ _ _ _ _ _ _ hr (fun j hj => ho j (by omega))
      rw [if_neg h7, if_neg h7]
      exact ih _ _ _ _ _ _ _ _ _ hr ho
def nh_z0 : Nat → Int32 := fun _ => 0
def nh_ev (K V : Nat → Int32) (Ln : Nat → Nat) (w : Nat → Int32) (u s : Nat) : Int32 := nh_pe K V w (Ln u - (s + 2)) (u * 32 + s + 2) false 0 0 1 nh_z0 nh_z0
theorem nh_evc {K V w w' : Nat → Int32} {Ln : Nat → Nat} {U N n u s : Nat} (hT : ∀ p, K p = 2 → ∃ m, m < N ∧ V p = nI m) (hN : N ≤ 16) (hf : nh_fs K V Ln U n u s)
    (h : ∀ m, m < N → nh_uq K V Ln U n m → w m = w' m) : nh_ev K V Ln w u s = nh_ev K V Ln w' u s := by
  refine nh_pec _ _ _ _ _ _ _ _ _ _ (fun j h1 h2 h3 h4 => ?_) (fun j hj => absurd hj (Nat.not_lt_zero j))
  obtain ⟨m, hm, hv⟩ := hT j h4
  rw [hv, nI_clamp (by omega)]
  obtain ⟨hk, hs, hs0, _⟩ := hf.2.1
  have ⟨_, hs1⟩ := nh_st0 hk hs hs0
  refine h m hm ⟨u, s, j - u * 32, hf, by omega, by omega, fun t ht ht2 => ?_, by rw [show u * 32 + (j - u * 32) = j by omega]; exact h4, by rw [show u * 32 + (j - u * 32) = j by omega]; exact hv⟩
  by_cases e : t = s + 1
  · rw [e, (nh_st1 hk (by omega) hs1).1]; decide
  · exact h3 (u * 32 + t) (by omega) (by omega)
/-- x is the value of the definition of n -/
def nh_vl (K V : Nat → Int32) (Ln : Nat → Nat) (U n : Nat) (w : Nat → Int32) (x : Int32) : Prop := ∃ u s, nh_fs K V Ln U n u s ∧ x = nh_ev K V Ln w u s
theorem nh_vlc {K V w w' : Nat → Int32} {Ln : Nat → Nat} {U N n : Nat} {x : Int32} (hT : ∀ p, K p = 2 → ∃ m, m < N ∧ V p = nI m) (hN : N ≤ 16) (h : nh_vl K V Ln U n w x)
    (hw : ∀ m, m < N → nh_uq K V Ln U n m → w m = w' m) : nh_vl K V Ln U n w' x := by
  obtain ⟨u, s, hf, he⟩ := h
  exact ⟨u, s, hf, he.trans (nh_evc hT hN hf hw)⟩
theorem nh_vl1 {K V w : Nat → Int32} {Ln : Nat → Nat} {U n : Nat} {x y : Int32} (h : nh_vl K V Ln U n w x) (h' : nh_vl K V Ln U n w y) : x = y := by
  obtain ⟨u, s, hf, he⟩ := h
  obtain ⟨u', s', hf', he'⟩ := h'
  obtain ⟨e1, e2⟩ := nh_fs1 hf hf'
  subst e1 e2
  rw [he, he']
end
section
/-! 06: what the loops over names keep: pure -/
def nh_RR (O : Nat → Prop) (Q : Nat → Nat → Prop) (N k : Nat) (re : Nat → Int32) : Prop := ∀ a c, a < N → c < N → (bt (re a) c = true ↔ nh_rl O Q k a c)
def nh_RI (O : Nat → Prop) (Q : Nat → Nat → Prop) (N k i : Nat) (re : Nat → Int32) : Prop := ∀ a c, a < N → c < N → (bt (re a) c = true ↔ (nh_rl O Q k a c ∨ (a < i ∧ nh_rl O Q k a k ∧ nh_rl O Q k k c)))
theorem nh_RI0 {O : Nat → Prop} {Q : Nat → Nat → Prop} {N k : Nat} {re : Nat → Int32} (h : nh_RR O Q N k re) : nh_RI O Q N k 0 re := by
  intro a c ha hc
  rw [h a c ha hc]
  exact ⟨Or.inl, fun h => h.elim id (fun h => absurd h.1 (Nat.not_lt_zero a))⟩
theorem nh_RIe {O : Nat → Prop} {Q : Nat → Nat → Prop} {N k : Nat} {re : Nat → Int32} (h : nh_RI O Q N k N re) : nh_RR O Q N (k + 1) re := by
  intro a c ha hc
  rw [h a c ha hc]
  exact ⟨fun h => h.elim Or.inl (fun h => Or.inr h.2), fun h => Or.elim h Or.inl (fun h => Or.inr ⟨ha, h⟩)⟩
theorem nh_RIk {O : Nat → Prop} {Q : Nat → Nat → Prop} {N k i c : Nat} {re : Nat → Int32} (h : nh_RI O Q N k i re) (hk : k < N) (hc : c < N) : bt (re k) c = true ↔ nh_rl O Q k k c := by
  rw [h k c hk hc]
  exact ⟨fun h => h.elim id (fun h => h.2.2), Or.inl⟩
theorem nh_RIi {O : Nat → Prop} {Q : Nat → Nat → Prop} {N k i : Nat} {re : Nat → Int32} (h : nh_RI O Q N k i re) (hk : k < N) (hi : i < N) : bt (re i) k = true ↔ nh_rl O Q k i k := by
  rw [h i k hi hk]
  exact ⟨fun h => h.elim id (fun h => h.2.1), Or.inl⟩
theorem nh_RIt {O : Nat → Prop} {Q : Nat → Nat → Prop} {N k i : Nat} {re : Nat → Int32} (h : nh_RI O Q N k i re) (hk : k < N) (hi : i < N) (hb : bt (re i) k = true) : nh_RI O Q N k (i + 1) (upd re i (re i ||| re k)) := by
  have hik := (nh_RIi h hk hi).mp hb
  intro a c ha hc
  by_cases e : a = i
  · subst e
    rw [pk_us, b_or, Bool.or_eq_true, h a c ha hc, nh_RIk h hk hc]
    constructor
    · rintro ((h1 | h1) | h1)
      · exact Or.inl h1
      · exact Or.inr ⟨by omega, h1.2⟩
      · exact Or.inr ⟨by omega, hik, h1⟩
    · rintro (h1 | h1)
      · exact Or.inl (Or.inl h1)
      · exact Or.inr h1.2.2
  · rw [pk_un e, h a c ha hc]
    constructor
    · rintro (h1 | h1)
      · exact Or.inl h1
      · exact Or.inr ⟨by omega, h1.2⟩
    · rintro (h1 | h1)
      · exact Or.inl h1
      · exact Or.inr ⟨by omega, h1.2⟩
theorem nh_RIf {O : Nat → Prop} {Q : Nat → Nat → Prop} {N k i : Nat} {re : Nat → Int32} (h : nh_RI O Q N k i re) (hk : k < N) (hi : i < N) (hb : bt (re i) k = false) : nh_RI O Q N k (i + 1) re := by
  have hik : ¬ nh_rl O Q k i k := fun h1 => by rw [(nh_RIi h hk hi).mpr h1] at hb; exact absurd hb (by decide)
  intro a c ha hc
  rw [h a c ha hc]
  constructor
  · rintro (h1 | h1)
    · exact Or.inl h1
    · exact Or.inr ⟨by omega, h1.2⟩
  · rintro (h1 | h1)
    · exact Or.inl h1
    · refine Or.inr ⟨?_, h1.2⟩
      by_cases e : a = i
      · subst e; exact absurd h1.2.1 hik
      · omega
/-! the same in the reference's table: cell a * 16 + c -/
def nh_TR (O : Nat → Prop) (Q : Nat → Nat → Prop) (N k : Nat) (rc : Nat → Int32) : Prop := ∀ a c, a < N → c < N → (rc (a * 16 + c) = 0 ↔ ¬ nh_rl O Q k a c)
def nh_TI (O : Nat → Prop) (Q : Nat → Nat → Prop) (N k i j : Nat) (rc : Nat → Int32) : Prop :=
  ∀ a c, a < N → c < N → (rc (a * 16 + c) = 0 ↔ ¬ (nh_rl O Q k a c ∨ (nh_bf i j a c ∧ nh_rl O Q k a k ∧ nh_rl O Q k k c)))
theorem nh_TI0 {O : Nat → Prop} {Q : Nat → Nat → Prop} {N k : Nat} {rc : Nat → Int32} (h : nh_TR O Q N k rc) : nh_TI O Q N k 0 0 rc := by
  intro a c ha hc
  rw [h a c ha hc]
  refine not_congr ⟨Or.inl, fun h => h.elim id (fun h => ?_)⟩
  have h1 := h.1
  unfold nh_bf at h1
  omega
theorem nh_TIe {O : Nat → Prop} {Q : Nat → Nat → Prop} {N k : Nat} {rc : Nat → Int32} (h : nh_TI O Q N k N 0 rc) : nh_TR O Q N (k + 1) rc := by
  intro a c ha hc
  rw [h a c ha hc]
  exact not_congr ⟨fun h => h.elim Or.inl (fun h => Or.inr h.2), fun h => Or.elim h Or.inl (fun h => Or.inr ⟨Or.inl ha, h⟩)⟩
theorem nh_TIk {O : Nat → Prop} {Q : Nat → Nat → Prop} {N k i j c : Nat} {rc : Nat → Int32} (h : nh_TI O Q N k i j rc) (hk : k < N) (hc : c < N) : rc (k * 16 + c) = 0 ↔ ¬ nh_rl O Q k k c := by
  rw [h k c hk hc]
  exact not_congr ⟨fun h => h.elim id (fun h => h.2.2), Or.inl⟩
theorem nh_TIi {O : Nat → Prop} {Q : Nat → Nat → Prop} {N k i j a : Nat} {rc : Nat → Int32} (h : nh_TI O Q N k i j rc) (hk : k < N) (ha : a < N) : rc (a * 16 + k) = 0 ↔ ¬ nh_rl O Q k a k := by
  rw [h a k ha hk]
  exact not_congr ⟨fun h => h.elim id (fun h => h.2.1), Or.inl⟩
/-- row i is left out -/
theorem nh_TIs {O : Nat → Prop} {Q : Nat → Nat → Prop} {N k i : Nat} {rc : Nat → Int32} (h : nh_TI O Q N k i 0 rc) (hik : ¬ nh_rl O Q k i k) : nh_TI O Q N k (i + 1) 0 rc := by
  intro a c ha hc
  rw [h a c ha hc]
  refine not_congr ⟨fun h => h.elim Or.inl (fun h => Or.inr ⟨?_, h.2⟩), fun h => h.elim Or.inl (fun h => Or.inr ⟨?_, h.2⟩)⟩
  · have h1 := h.1
    unfold nh_bf at *
    omega
  · have h1 := h.1
    unfold nh_bf at *
    by_cases e : a = i
    · subst e; exact absurd h.2.1 hik
    · omega
/-- the end of row i -/
theorem nh_TIn {O : Nat → Prop} {Q : Nat → Nat → Prop} {N k i : Nat} {rc : Nat → Int32} (h : nh_TI O Q N k i N rc) : nh_TI O Q N k (i + 1) 0 rc := by
  intro a c ha hc
  rw [h a c ha hc]
  refine not_congr ⟨fun h => h.elim Or.inl (fun h => Or.inr ⟨?_, h.2⟩), fun h => h.elim Or.inl (fun h => Or.inr ⟨?_, h.2⟩)⟩
  · have h1 := h.1
    unfold nh_bf at *
    omega
  · have h1 := h.1
    unfold nh_bf at *
    omega
theorem nh_TIt {O : Nat → Prop} {Q : Nat → Nat → Prop} {N k i j : Nat} {rc : Nat → Int32} (h : nh_TI O Q N k i j rc) (hN : N ≤ 16) (hj : j < N) (hik : nh_rl O Q k i k) (hkj : nh_rl O Q k k j) {x : Int32} (hx : ¬ x = 0) : nh_TI O Q N k i (j + 1) (upd rc (i * 16 + j) x) := by
  intro a c ha hc
  by_cases e : a = i ∧ c = j
  · obtain ⟨e1, e2⟩ := e
    subst e1 e2
    rw [pk_us]
    exact ⟨fun h => absurd h hx, fun h => absurd (Or.inr ⟨Or.inr ⟨rfl, by omega⟩, hik, hkj⟩) h⟩
  · rw [pk_un (by omega), h a c ha hc]
    refine not_congr ⟨fun h => h.elim Or.inl (fun h => Or.inr ⟨?_, h.2⟩), fun h => h.elim Or.inl (fun h => Or.inr ⟨?_, h.2⟩)⟩
    · have h1 := h.1
      unfold nh_bf at *
      omega
    · have h1 := h.1
      unfold nh_bf at *
      omega
theorem nh_TIf {O : Nat → Prop} {Q : Nat → Nat → Prop} {N k i j : Nat} {rc : Nat → Int32} (h : nh_TI O Q N k i j rc) (hkj : ¬ nh_rl O Q k k j) : nh_TI O Q N k i (j + 1) rc := by
  intro a c ha hc
  rw [h a c ha hc]
  refine not_congr ⟨fun h => h.elim Or.inl (fun h => Or.inr ⟨?_, h.2⟩), fun h => h.elim Or.inl (fun h => Or.inr ⟨?_, h.2⟩)⟩
  · have h1 := h.1
    unfold nh_bf at *
    omega
  · have h1 := h.1
    unfold nh_bf at *
    by_cases e : c = j
    · subst e; exact absurd h.2.2 hkj
    · omega
/-! X decides from the graph -/
def nh_gs (O : Nat → Prop) (Q : Nat → Nat → Prop) (N n : Nat) (s : Int32) : Prop :=
  (¬ O n ∧ s = 0) ∨ (O n ∧ nh_rl O Q N n n ∧ s = 3) ∨ (O n ∧ ¬ nh_rl O Q N n n ∧ (∃ m, m < N ∧ Q n m ∧ ¬ O m) ∧ s = 2) ∨ (nh_pd O Q N n ∧ s = -1)
def nh_XG (O : Nat → Prop) (Q : Nat → Nat → Prop) (N i : Nat) (ns nr : Nat → Int32) (fl : Int32) : Prop :=
  ∀ n, n < N → (n < i → nh_gs O Q N n (ns n) ∧ nr n = 0) ∧ (bt fl n = true ↔ (n < i ∧ (ns n = 2 ∨ ns n = 3)))
theorem nh_XG0 {O : Nat → Prop} {Q : Nat → Nat → Prop} {N : Nat} {ns nr : Nat → Int32} : nh_XG O Q N 0 ns nr 0 := by
  intro n hn
  refine ⟨fun h => absurd h (Nat.not_lt_zero n), ?_⟩
  rw [b_0]
  exact ⟨fun h => absurd h (by decide), fun h => absurd h.1 (Nat.not_lt_zero n)⟩
theorem nh_XGs {O : Nat → Prop} {Q : Nat → Nat → Prop} {N i : Nat} {ns nr : Nat → Int32} {fl x : Int32} (h : nh_XG O Q N i ns nr fl) (hx : nh_gs O Q N i x) (h2 : ¬ x = 2) (h3 : ¬ x = 3) : nh_XG O Q N (i + 1) (upd ns i x) (upd nr i 0) fl := by
  intro n hn
  have hn1 := h n hn
  by_cases e : n = i
  · subst e
    rw [pk_us, pk_us]
    refine ⟨fun _ => ⟨hx, rfl⟩, ?_⟩
    rw [hn1.2]
    exact ⟨fun h1 => absurd h1.1 (by omega), fun h1 => h1.2.elim (fun h => absurd h h2) (fun h => absurd h h3)⟩
  · rw [pk_un e, pk_un e]
    refine ⟨fun h1 => hn1.1 (by omega), ?_⟩
    rw [hn1.2]
    exact ⟨fun h1 => ⟨by omega, h1.2⟩, fun h1 => ⟨by omega, h1.2⟩⟩
theorem nh_XGf {O : Nat → Prop} {Q : Nat → Nat → Prop} {N i : Nat} {ns nr : Nat → Int32} {fl x : Int32} (h : nh_XG O Q N i ns nr fl) (hN : N ≤ 16) (hi : i < N) (hx : nh_gs O Q N i x) (h2 : x = 2 ∨ x = 3) : nh_XG O Q N (i + 1) (upd ns i x) (upd nr i 0) (fl ||| ((1 : Int32) <<< (nI i &&& 31))) := by
  intro n hn
  have hn1 := h n hn
  rw [nh_or1 (by omega) (by omega)]
  by_cases e : n = i
  · subst e
    rw [pk_us, pk_us]
    exact ⟨fun _ => ⟨hx, rfl⟩, ⟨fun _ => ⟨by omega, h2⟩, fun _ => Or.inr rfl⟩⟩
  · rw [pk_un e, pk_un e]
    refine ⟨fun h1 => hn1.1 (by omega), ?_⟩
    rw [hn1.2]
    exact ⟨fun h1 => h1.elim (fun h1 => ⟨by omega, h1.2⟩) (fun h1 => absurd h1 e), fun h1 => Or.inl ⟨by omega, h1.2⟩⟩
/-! X decides the rest -/
def nh_XR (O : Nat → Prop) (Q : Nat → Nat → Prop) (E : Nat → (Nat → Int32) → Int32 → Prop) (N r i : Nat) (ns nr : Nat → Int32) (fl ok : Int32) : Prop :=
  ∀ n, n < N → (¬ nh_pd O Q N n → nh_gs O Q N n (ns n) ∧ nr n = 0) ∧
    (nh_pd O Q N n → (ns n = -1 ∧ nr n = 0) ∨ (ns n = 4 ∧ nr n = 0 ∧ ∃ m, m < N ∧ Q n m ∧ bt fl m = true) ∨ (ns n = 1 ∧ (∀ m, m < N → Q n m → ns m = 1) ∧ E n nr (nr n))) ∧
    (bt fl n = true ↔ (ns n = 2 ∨ ns n = 3 ∨ ns n = 4)) ∧ (bt ok n = true ↔ ns n = 1) ∧ (nh_dn O Q N r n → ¬ ns n = -1) ∧ (n < i → nh_dn O Q N (r + 1) n → ¬ ns n = -1)
theorem nh_gsp {O : Nat → Prop} {Q : Nat → Nat → Prop} {N n : Nat} {s : Int32} (h : nh_gs O Q N n s) : (nh_pd O Q N n → s = -1) ∧ (¬ nh_pd O Q N n → (¬ O n ∧ s = 0) ∨ (O n ∧ (s = 2 ∨ s = 3))) := by
  rcases h with ⟨h1, h2⟩ | ⟨h1, h2, h3⟩ | ⟨h1, h2, ⟨m, hm, hq, ho⟩, h3⟩ | ⟨h1, h2⟩
  · exact ⟨fun hp => absurd hp.1 h1, fun _ => Or.inl ⟨h1, h2⟩⟩
  · exact ⟨fun hp => absurd h2 hp.2.1, fun _ => Or.inr ⟨h1, Or.inr h3⟩⟩
  · exact ⟨fun hp => absurd (hp.2.2 m hm hq) ho, fun _ => Or.inr ⟨h1, Or.inl h3⟩⟩
  · exact ⟨fun _ => h2, fun hp => absurd h1 hp⟩
theorem nh_XR0 {O : Nat → Prop} {Q : Nat → Nat → Prop} {E : Nat → (Nat → Int32) → Int32 → Prop} {N : Nat} {ns nr : Nat → Int32} {fl : Int32} (h : nh_XG O Q N N ns nr fl) : nh_XR O Q E N 0 0 ns nr fl 0 := by
  intro n hn
  have ⟨h1, h2⟩ := h n hn
  have ⟨hg, hr⟩ := h1 hn
  have ⟨g1, g2⟩ := nh_gsp hg
  refine ⟨fun _ => ⟨hg, hr⟩, fun hp => Or.inl ⟨g1 hp, hr⟩, ?_, ?_, fun hp hm => ?_, fun h3 => absurd h3 (Nat.not_lt_zero n)⟩
  · rw [h2]
    constructor
    · rintro ⟨_, h3 | h3⟩
      · exact Or.inl h3
      · exact Or.inr (Or.inl h3)
    · rintro (h3 | h3 | h3)
      · exact ⟨hn, Or.inl h3⟩
      · exact ⟨hn, Or.inr h3⟩
      · rcases Classical.em (nh_pd O Q N n) with hp | hp
        · rw [g1 hp] at h3; exact absurd h3 (by decide)
        · rcases g2 hp with ⟨_, h4⟩ | ⟨_, h4 | h4⟩ <;> (rw [h4] at h3; exact absurd h3 (by decide))
  · rw [b_0]
    refine ⟨fun h => absurd h (by decide), fun h3 => ?_⟩
    rcases Classical.em (nh_pd O Q N n) with hp | hp
    · rw [g1 hp] at h3; exact absurd h3 (by decide)
    · rcases g2 hp with ⟨_, h4⟩ | ⟨_, h4 | h4⟩ <;> (rw [h4] at h3; exact absurd h3 (by decide))
  · rcases g2 hp with ⟨_, h4⟩ | ⟨_, h4 | h4⟩ <;> (rw [h4] at hm; exact absurd hm (by decide))
theorem nh_XRk {O : Nat → Prop} {Q : Nat → Nat → Prop} {E : Nat → (Nat → Int32) → Int32 → Prop} {N r i : Nat} {ns nr : Nat → Int32} {fl ok : Int32} (h : nh_XR O Q E N r i ns nr fl ok) (hs : ¬ ns i = -1) : nh_XR O Q E N r (i + 1) ns nr fl ok := by
  intro n hn
  have ⟨h1, h2, h3, h4, h5, h6⟩ := h n hn
  refine ⟨h1, h2, h3, h4, h5, fun h7 h8 => ?_⟩
  by_cases e : n = i
  · rw [e]; exact hs
  · exact h6 (by omega) h8
theorem nh_XRp {O : Nat → Prop} {Q : Nat → Nat → Prop} {E : Nat → (Nat → Int32) → Int32 → Prop} {N r i n : Nat} {ns nr : Nat → Int32} {fl ok : Int32} (h : nh_XR O Q E N r i ns nr fl ok) (hn : n < N) (hs : ns n = -1) : nh_pd O Q N n ∧ nr n = 0 := by
  have ⟨h1, h2, h3, h4, h5, h6⟩ := h n hn
  rcases Classical.em (nh_pd O Q N n) with hp | hp
  · refine ⟨hp, ?_⟩
    rcases h2 hp with h7 | h7 | h7
    · exact h7.2
    · exact h7.2.1
    · rw [h7.1] at hs; exact absurd hs (by decide)
  · rcases (nh_gsp (h1 hp).1).2 hp with ⟨_, h4⟩ | ⟨_, h4 | h4⟩ <;> (rw [h4] at hs; exact absurd hs (by decide))
theorem nh_XRb {O : Nat → Prop} {Q : Nat → Nat → Prop} {E : Nat → (Nat → Int32) → Int32 → Prop} {N r i : Nat} {ns nr : Nat → Int32} {fl ok : Int32} (h : nh_XR O Q E N r i ns nr fl ok) (hN : N ≤ 16) (hi : i < N) (hs : ns i = -1) (hm : ∃ m, m < N ∧ Q i m ∧ bt fl m = true) :
    nh_XR O Q E N r (i + 1) (upd ns i 4) nr (fl ||| ((1 : Int32) <<< (nI i &&& 31))) ok := by
  have hp := nh_XRp h hi hs
  have hfl : ∀ m, m < N → bt fl m = true → bt (fl ||| ((1 : Int32) <<< (nI i &&& 31))) m = true := fun m hm hb => (nh_or1 (by omega) (by omega)).mpr (Or.inl hb)
  intro n hn
  have ⟨h1, h2, h3, h4, h5, h6⟩ := h n hn
  by_cases e : n = i
  · subst e
    rw [pk_us]
    refine ⟨fun hnp => absurd hp.1 hnp, fun _ => Or.inr (Or.inl ⟨rfl, hp.2, ?_⟩), ⟨fun _ => Or.inr (Or.inr rfl), fun _ => (nh_or1 (by omega) (by omega)).mpr (Or.inr rfl)⟩, ?_, fun _ => by decide, fun _ _ => by decide⟩
    · obtain ⟨m, hm, hq, hb⟩ := hm
      exact ⟨m, hm, hq, hfl m hm hb⟩
    · rw [h4, hs]
      exact ⟨fun h => absurd h (by decide), fun h => absurd h (by decide)⟩
  · rw [pk_un e, nh_or1 (by omega) (by omega), h3]
    refine ⟨h1, fun hpn => ?_, ⟨fun h7 => h7.elim id (fun h7 => absurd h7 e), Or.inl⟩, h4, h5, fun h7 h8 => h6 (by omega) h8⟩
    rcases h2 hpn with h7 | ⟨h7, h8, m, hm, hq, hb⟩ | ⟨h7, h8, h9⟩
    · exact Or.inl h7
    · exact Or.inr (Or.inl ⟨h7, h8, m, hm, hq, hfl m hm hb⟩)
    · refine Or.inr (Or.inr ⟨h7, fun m hm hq => ?_, h9⟩)
      have h10 := h8 m hm hq
      rw [pk_un (fun e2 => by rw [e2, hs] at h10; exact absurd h10 (by decide))]
      exact h10
theorem nh_XRo {O : Nat → Prop} {Q : Nat → Nat → Prop} {E : Nat → (Nat → Int32) → Int32 → Prop} {N r i : Nat} {ns nr : Nat → Int32} {fl ok v : Int32} (hE : ∀ n w w' x, E n w x → (∀ m, m < N → Q n m → w m = w' m) → E n w' x)
    (h : nh_XR O Q E N r i ns nr fl ok) (hN : N ≤ 16) (hi : i < N) (hs : ns i = -1) (hq : ∀ m, m < N → Q i m → bt ok m = true) (he : E i nr v) :
    nh_XR O Q E N r (i + 1) (upd ns i 1) (upd nr i v) fl (ok ||| ((1 : Int32) <<< (nI i &&& 31))) := by
  have hp := nh_XRp h hi hs
  have hne : ∀ m, m < N → ns m = 1 → m ≠ i := fun m hm h1 e => by rw [e, hs] at h1; exact absurd h1 (by decide)
  have hq1 : ∀ m, m < N → Q i m → ns m = 1 := fun m hm hQ => (h m hm).2.2.2.1.mp (hq m hm hQ)
  intro n hn
  have ⟨h1, h2, h3, h4, h5, h6⟩ := h n hn
  by_cases e : n = i
  · subst e
    rw [pk_us, pk_us]
    refine ⟨fun hnp => absurd hp.1 hnp, fun _ => Or.inr (Or.inr ⟨rfl, fun m hm hQ => ?_, ?_⟩), ?_, ⟨fun _ => rfl, fun _ => (nh_or1 (by omega) (by omega)).mpr (Or.inr rfl)⟩, fun _ => by decide, fun _ _ => by decide⟩
    · rw [pk_un (hne m hm (hq1 m hm hQ))]; exact hq1 m hm hQ
    · refine hE n nr _ v he (fun m hm hQ => ?_)
      rw [pk_un (hne m hm (hq1 m hm hQ))]
    · rw [h3, hs]
      exact ⟨fun h => by rcases h with h | h | h <;> exact absurd h (by decide), fun h => by rcases h with h | h | h <;> exact absurd h (by decide)⟩
  · rw [pk_un e, pk_un e, nh_or1 (by omega) (by omega), h4]
    refine ⟨h1, fun hpn => ?_, h3, ⟨fun h7 => h7.elim id (fun h7 => absurd h7 e), Or.inl⟩, h5, fun h7 h8 => h6 (by omega) h8⟩
    rcases h2 hpn with h7 | h7 | ⟨h7, h8, h9⟩
    · exact Or.inl h7
    · exact Or.inr (Or.inl h7)
    · refine Or.inr (Or.inr ⟨h7, fun m hm hQ => ?_, ?_⟩)
      · rw [pk_un (hne m hm (h8 m hm hQ))]; exact h8 m hm hQ
      · refine hE n nr _ _ h9 (fun m hm hQ => ?_)
        rw [pk_un (hne m hm (h8 m hm hQ))]
theorem nh_XRs {O : Nat → Prop} {Q : Nat → Nat → Prop} {E : Nat → (Nat → Int32) → Int32 → Prop} {N r i : Nat} {ns nr : Nat → Int32} {fl ok : Int32} (h : nh_XR O Q E N r i ns nr fl ok) (hi : i < N) (hs : ns i = -1)
    (hf : ∀ m, m < N → Q i m → ¬ bt fl m = true) (hm : ∃ m, m < N ∧ Q i m ∧ ¬ bt ok m = true) : nh_XR O Q E N r (i + 1) ns nr fl ok := by
  have hp := nh_XRp h hi hs
  intro n hn
  have ⟨h1, h2, h3, h4, h5, h6⟩ := h n hn
  refine ⟨h1, h2, h3, h4, h5, fun h7 h8 => ?_⟩
  by_cases e : n = i
  · subst e
    rcases h8 with h8 | h8
    · exact h5 h8
    · exfalso
      obtain ⟨m, hm, hQ, hb⟩ := hm
      have ⟨g1, g2, g3, g4, g5, g6⟩ := h m hm
      have hnf := hf m hm hQ
      have hm1 := g5 (h8 m hm hQ)
      rw [g3] at hnf
      rw [g4] at hb
      rcases Classical.em (nh_pd O Q N m) with hpm | hpm
      · rcases g2 hpm with h9 | h9 | h9
        · exact hm1 h9.1
        · exact hnf (Or.inr (Or.inr h9.1))
        · exact hb h9.1
      · rcases (nh_gsp (g1 hpm).1).2 hpm with ⟨h9, _⟩ | ⟨_, h9 | h9⟩
        · exact h9 (hp.1.2.2 m hm hQ)
        · exact hnf (Or.inl h9)
        · exact hnf (Or.inr (Or.inl h9))
  · exact h6 (by omega) h8
theorem nh_XRe {O : Nat → Prop} {Q : Nat → Nat → Prop} {E : Nat → (Nat → Int32) → Int32 → Prop} {N r : Nat} {ns nr : Nat → Int32} {fl ok : Int32} (h : nh_XR O Q E N r N ns nr fl ok) : nh_XR O Q E N (r + 1) 0 ns nr fl ok := by
  intro n hn
  have ⟨h1, h2, h3, h4, h5, h6⟩ := h n hn
  exact ⟨h1, h2, h3, h4, h6 hn, fun h7 => absurd h7 (Nat.not_lt_zero n)⟩
theorem nh_XRf {O : Nat → Prop} {Q : Nat → Nat → Prop} {E : Nat → (Nat → Int32) → Int32 → Prop} {N : Nat} {ns nr : Nat → Int32} {fl ok : Int32} (h : nh_XR O Q E N N 0 ns nr fl ok) : nh_sol O Q E N ns nr := by
  intro n hn
  have ⟨h1, h2, h3, h4, h5, h6⟩ := h n hn
  have hd := h5 (nh_dna hn)
  refine ⟨fun ho => ?_, fun ho hr => ?_, fun ho hr hm => ?_, fun hp => ?_⟩
  · have ⟨g, z⟩ := h1 (fun hp => ho hp.1)
    refine ⟨?_, z⟩
    rcases g with g | g | g | g
    · exact g.2
    · exact absurd g.1 ho
    · exact absurd g.1 ho
    · exact absurd g.1.1 ho
  · have ⟨g, z⟩ := h1 (fun hp => hp.2.1 hr)
    refine ⟨?_, z⟩
    rcases g with g | g | g | g
    · exact absurd ho g.1
    · exact g.2.2
    · exact absurd hr g.2.1
    · exact absurd hr g.1.2.1
  · have ⟨g, z⟩ := h1 (fun hp => by
      obtain ⟨m, hm, hq, hno⟩ := hm
      exact hno (hp.2.2 m hm hq))
    refine ⟨?_, z⟩
    rcases g with g | g | g | g
    · exact absurd ho g.1
    · exact absurd g.2.1 hr
    · exact g.2.2.2
    · exact absurd g.2 hd
  · rcases h2 hp with h7 | ⟨h7, h8, m, hm, hq, hb⟩ | h7
    · exact absurd h7.1 hd
    · refine Or.inl ⟨h7, h8, m, hm, hq, fun h9 => ?_⟩
      have h10 := (h m hm).2.2.1.mp hb
      rw [h9] at h10
      rcases h10 with h10 | h10 | h10 <;> exact absurd h10 (by decide)
    · exact Or.inr h7
/-! the reference, beside X's solution s, x -/
def nh_YG (O : Nat → Prop) (Q : Nat → Nat → Prop) (N i : Nat) (st w rd : Nat → Int32) : Prop :=
  ∀ n, n < N → n < i → w n = 0 ∧ ((¬ nh_pd O Q N n ∧ nh_gs O Q N n (st n) ∧ ¬ rd n = 0) ∨ (nh_pd O Q N n ∧ rd n = 0))
theorem nh_YGs {O : Nat → Prop} {Q : Nat → Nat → Prop} {N i : Nat} {st w rd : Nat → Int32} {a b : Int32} (h : nh_YG O Q N i st w rd) (hx : (¬ nh_pd O Q N i ∧ nh_gs O Q N i a ∧ ¬ b = 0) ∨ (nh_pd O Q N i ∧ b = 0)) : nh_YG O Q N (i + 1) (upd st i a) (upd w i 0) (upd rd i b) := by
  intro n hn hi
  by_cases e : n = i
  · subst e
    rw [pk_us, pk_us, pk_us]
    exact ⟨rfl, hx⟩
  · rw [pk_un e, pk_un e, pk_un e]
    exact h n hn (by omega)
def nh_YS (O : Nat → Prop) (Q : Nat → Nat → Prop) (N r i : Nat) (s x st w rd : Nat → Int32) : Prop :=
  ∀ n, n < N → (¬ rd n = 0 → st n = s n ∧ w n = x n) ∧ (rd n = 0 → nh_pd O Q N n ∧ w n = 0) ∧ (nh_dn O Q N r n → ¬ rd n = 0) ∧ (n < i → nh_dn O Q N (r + 1) n → ¬ rd n = 0)
theorem nh_YS0 {O : Nat → Prop} {Q : Nat → Nat → Prop} {E : Nat → (Nat → Int32) → Int32 → Prop} {N : Nat} {s x st w rd : Nat → Int32} (hs : nh_sol O Q E N s x) (h : nh_YG O Q N N st w rd) : nh_YS O Q N 0 0 s x st w rd := by
  intro n hn
  have ⟨h1, h2⟩ := h n hn hn
  have ⟨s1, s2, s3, s4⟩ := hs n hn
  rcases h2 with ⟨hp, hg, hr⟩ | ⟨hp, hr⟩
  · refine ⟨fun _ => ?_, fun h => absurd h hr, fun _ => hr, fun h => absurd h (Nat.not_lt_zero n)⟩
    rcases hg with g | g | g | g
    · exact ⟨g.2.trans (s1 g.1).1.symm, h1.trans (s1 g.1).2.symm⟩
    · exact ⟨g.2.2.trans (s2 g.1 g.2.1).1.symm, h1.trans (s2 g.1 g.2.1).2.symm⟩
    · exact ⟨g.2.2.2.trans (s3 g.1 g.2.1 g.2.2.1).1.symm, h1.trans (s3 g.1 g.2.1 g.2.2.1).2.symm⟩
    · exact absurd g.1 hp
  · exact ⟨fun h => absurd hr h, fun _ => ⟨hp, h1⟩, fun h => absurd hp h, fun h => absurd h (Nat.not_lt_zero n)⟩
theorem nh_YSk {O : Nat → Prop} {Q : Nat → Nat → Prop} {N r i : Nat} {s x st w rd : Nat → Int32} (h : nh_YS O Q N r i s x st w rd) (hr : ¬ rd i = 0) : nh_YS O Q N r (i + 1) s x st w rd := by
  intro n hn
  have ⟨h1, h2, h3, h4⟩ := h n hn
  refine ⟨h1, h2, h3, fun h7 h8 => ?_⟩
  by_cases e : n = i
  · rw [e]; exact hr
  · exact h4 (by omega) h8
theorem nh_YSs {O : Nat → Prop} {Q : Nat → Nat → Prop} {N r i : Nat} {s x st w rd : Nat → Int32} (h : nh_YS O Q N r i s x st w rd) (hm : ∃ m, m < N ∧ Q i m ∧ rd m = 0) : nh_YS O Q N r (i + 1) s x st w rd := by
  intro n hn
  have ⟨h1, h2, h3, h4⟩ := h n hn
  refine ⟨h1, h2, h3, fun h7 h8 => ?_⟩
  by_cases e : n = i
  · subst e
    rcases h8 with h8 | h8
    · exact h3 h8
    · obtain ⟨m, hm, hq, hr⟩ := hm
      exact absurd hr ((h m hm).2.2.1 (h8 m hm hq))
  · exact h4 (by omega) h8
theorem nh_YSd {O : Nat → Prop} {Q : Nat → Nat → Prop} {N r i : Nat} {s x st w rd : Nat → Int32} {a b c : Int32} (h : nh_YS O Q N r i s x st w rd) (ha : a = s i) (hb : b = x i) (hc : ¬ c = 0) : nh_YS O Q N r (i + 1) s x (upd st i a) (upd w i b) (upd rd i c) := by
  intro n hn
  have ⟨h1, h2, h3, h4⟩ := h n hn
  by_cases e : n = i
  · subst e
    rw [pk_us, pk_us, pk_us]
    exact ⟨fun _ => ⟨ha, hb⟩, fun h => absurd h hc, fun _ => hc, fun _ _ => hc⟩
  · rw [pk_un e, pk_un e, pk_un e]
    exact ⟨h1, h2, h3, fun h7 h8 => h4 (by omega) h8⟩
theorem nh_YSo {O : Nat → Prop} {Q : Nat → Nat → Prop} {E : Nat → (Nat → Int32) → Int32 → Prop} {N r i : Nat} {s x st w rd : Nat → Int32} {v : Int32} (hE : ∀ n w w' x, E n w x → (∀ m, m < N → Q n m → w m = w' m) → E n w' x) (hE1 : ∀ n w x y, E n w x → E n w y → x = y)
    (hs : nh_sol O Q E N s x) (h : nh_YS O Q N r i s x st w rd) (hi : i < N) (hr : rd i = 0) (hm : ∀ m, m < N → Q i m → ¬ rd m = 0 ∧ st m = 1) (he : E i w v) : 1 = s i ∧ v = x i := by
  have hp := ((h i hi).2.1 hr).1
  rcases (hs i hi).2.2.2 hp with ⟨_, _, m, hm1, hq, h1⟩ | ⟨h1, h2, h3⟩
  · have ⟨h4, h5⟩ := hm m hm1 hq
    exact absurd (((h m hm1).1 h4).1.symm.trans h5) h1
  · refine ⟨h1.symm, hE1 i x v (x i) (hE i w x v he (fun m hm1 hq => ?_)) h3⟩
    exact ((h m hm1).1 (hm m hm1 hq).1).2
theorem nh_YSb {O : Nat → Prop} {Q : Nat → Nat → Prop} {E : Nat → (Nat → Int32) → Int32 → Prop} {N r i : Nat} {s x st w rd : Nat → Int32}
    (hs : nh_sol O Q E N s x) (h : nh_YS O Q N r i s x st w rd) (hi : i < N) (hr : rd i = 0) (hm : ∃ m, m < N ∧ Q i m ∧ ¬ rd m = 0 ∧ ¬ st m = 1) : 4 = s i ∧ w i = x i := by
  have ⟨hp, hw⟩ := (h i hi).2.1 hr
  rcases (hs i hi).2.2.2 hp with ⟨h1, h2, _⟩ | ⟨h1, h2, h3⟩
  · exact ⟨h1.symm, hw.trans h2.symm⟩
  · obtain ⟨m, hm1, hq, h4, h5⟩ := hm
    exact absurd (((h m hm1).1 h4).1.trans (h2 m hm1 hq)) h5
theorem nh_YSe {O : Nat → Prop} {Q : Nat → Nat → Prop} {N r : Nat} {s x st w rd : Nat → Int32} (h : nh_YS O Q N r N s x st w rd) : nh_YS O Q N (r + 1) 0 s x st w rd := by
  intro n hn
  have ⟨h1, h2, h3, h4⟩ := h n hn
  exact ⟨h1, h2, h4 hn, fun h7 => absurd h7 (Nat.not_lt_zero n)⟩
theorem nh_YSf {O : Nat → Prop} {Q : Nat → Nat → Prop} {N : Nat} {s x st w rd : Nat → Int32} (h : nh_YS O Q N (N + 1) 0 s x st w rd) : ∀ n, n < N → st n = s n ∧ w n = x n := by
  intro n hn
  have ⟨h1, h2, h3, h4⟩ := h n hn
  exact h1 (h3 (Or.inl (nh_dna hn)))
/-- two solutions are one -/
theorem nh_sol1 {O : Nat → Prop} {Q : Nat → Nat → Prop} {E : Nat → (Nat → Int32) → Int32 → Prop} {N : Nat} {s x s' x' : Nat → Int32} (hE : ∀ n w w' x, E n w x → (∀ m, m < N → Q n m → w m = w' m) → E n w' x) (hE1 : ∀ n w x y, E n w x → E n w y → x = y)
    (h : nh_sol O Q E N s x) (h' : nh_sol O Q E N s' x') : ∀ n, n < N → s n = s' n ∧ x n = x' n := by
  have key : ∀ n, n < N → ¬ nh_pd O Q N n → s n = s' n ∧ x n = x' n := by
    intro n hn hp
    have ⟨a1, a2, a3, a4⟩ := h n hn
    have ⟨b1, b2, b3, b4⟩ := h' n hn
    rcases Classical.em (O n) with ho | ho
    · rcases Classical.em (nh_rl O Q N n n) with hr | hr
      · exact ⟨(a2 ho hr).1.trans (b2 ho hr).1.symm, (a2 ho hr).2.trans (b2 ho hr).2.symm⟩
      · have hm : ∃ m, m < N ∧ Q n m ∧ ¬ O m := by
          rcases Classical.em (∃ m, m < N ∧ Q n m ∧ ¬ O m) with hm | hm
          · exact hm
          · refine absurd ⟨ho, hr, fun m h1 h2 => ?_⟩ hp
            rcases Classical.em (O m) with h3 | h3
            · exact h3
            · exact absurd ⟨m, h1, h2, h3⟩ hm
        exact ⟨(a3 ho hr hm).1.trans (b3 ho hr hm).1.symm, (a3 ho hr hm).2.trans (b3 ho hr hm).2.symm⟩
    · exact ⟨(a1 ho).1.trans (b1 ho).1.symm, (a1 ho).2.trans (b1 ho).2.symm⟩
  have step : ∀ r n, n < N → nh_dn O Q N r n → s n = s' n ∧ x n = x' n := by
    intro r
    induction r with
    | zero => exact fun n hn hd => key n hn hd
    | succ r ih =>
      intro n hn hd
      rcases hd with hd | hd
      · exact ih n hn hd
      · rcases Classical.em (nh_pd O Q N n) with hp | hp
        · rcases (h n hn).2.2.2 hp with ⟨a1, a2, m, hm, hq, a3⟩ | ⟨a1, a2, a3⟩
          · rcases (h' n hn).2.2.2 hp with ⟨b1, b2, _⟩ | ⟨b1, b2, b3⟩
            · exact ⟨a1.trans b1.symm, a2.trans b2.symm⟩
            · exact absurd ((ih m hm (hd m hm hq)).1.trans (b2 m hm hq)) a3
          · rcases (h' n hn).2.2.2 hp with ⟨b1, b2, m, hm, hq, b3⟩ | ⟨b1, b2, b3⟩
            · exact absurd ((ih m hm (hd m hm hq)).1.symm.trans (a2 m hm hq)) b3
            · refine ⟨a1.trans b1.symm, hE1 n x' _ _ (hE n x x' _ a3 (fun m hm hq => (ih m hm (hd m hm hq)).2)) b3⟩
        · exact key n hn hp
  exact fun n hn => step N n hn (nh_dna hn)
/-! changed names -/
def nh_ch (o s w o' s' w' : Nat → Int32) (n : Nat) : Int32 := if o n = o' n ∧ s n = s' n ∧ w n = w' n then 0 else 1
def nh_cc (c : Nat → Int32) : Nat → Nat
  | 0 => 0
  | n + 1 => if c n = 0 then nh_cc c n else nh_cc c n + 1
theorem nh_ccle (c : Nat → Int32) : ∀ n, nh_cc c n ≤ n := by
  intro n
  induction n with
  | zero => exact Nat.le_refl 0
  | succ n ih => rw [nh_cc]; split <;> omega
theorem nh_cce {c c' : Nat → Int32} : ∀ n, (∀ i, i < n → c i = c' i) → nh_cc c n = nh_cc c' n := by
  intro n
  induction n with
  | zero => intro _; rfl
  | succ n ih => intro h; rw [nh_cc, nh_cc, ih (fun i hi => h i (by omega)), h n (by omega)]
end
section
/-! 07: the relation; numbers of cells -/
theorem nh_c32 (u i : Nat) : nI u * 32 + nI i = nI (u * 32 + i) := by
  rw [show (32 : Int32) = nI 32 from by decide, pk_mul, nI_add]
theorem nh_c16 (u i : Nat) : nI u * 16 + nI i = nI (u * 16 + i) := by
  rw [show (16 : Int32) = nI 16 from by decide, pk_mul, nI_add]
theorem nh_e32 (u : Nat) : nI u * 32 = nI (u * 32) := by
  rw [show (32 : Int32) = nI 32 from by decide, pk_mul]
theorem nh_e16 (u : Nat) : nI u * 16 = nI (u * 16) := by
  rw [show (16 : Int32) = nI 16 from by decide, pk_mul]
theorem nh_vb0 : vp_nar .boolean 0 = 0 := by decide
theorem nh_vb1 : vp_nar .boolean 1 = 1 := by decide
theorem nh_ub (f : Nat → Int32) (k : Nat) (x y : Int32) : upd (upd f k x) k y = upd f k y := by
  funext j
  by_cases e : j = k
  · rw [e, pk_us, pk_us]
  · rw [pk_un e, pk_un e, pk_un e]
/-- the lengths as naturals -/
def nh_L (ln : Nat → Int32) : Nat → Nat := fun u => (ln u).toNatClampNeg
theorem nh_Ln {ln : Nat → Int32} {T : Nat} (hT : T ≤ 32) (h : ∀ u, ∃ l, l ≤ T ∧ ln u = nI l) (u : Nat) : ln u = nI (nh_L ln u) ∧ nh_L ln u ≤ T := by
  obtain ⟨l, h1, h2⟩ := h u
  have e : nh_L ln u = l := by unfold nh_L; rw [h2]; exact nI_clamp (by omega)
  rw [e]
  exact ⟨h2, h1⟩
/-- cells of kind NAME hold names -/
def nh_TV (N : Nat) (K V : Nat → Int32) : Prop := ∀ p, K p = 2 → ∃ m, m < N ∧ V p = nI m
theorem nh_TVu {N : Nat} {K V : Nat → Int32} {p : Nat} {k v : Int32} (h : nh_TV N K V) (hk : k = 2 → ∃ m, m < N ∧ v = nI m) : nh_TV N (upd K p k) (upd V p v) := by
  intro q hq
  by_cases e : q = p
  · rw [e, pk_us] at hq; rw [e, pk_us]; exact hk hq
  · rw [pk_un e] at hq; rw [pk_un e]; exact h q hq
def nh_Rel (U T N : Nat) (K V ln ue uu us : Nat → Int32) : Prop :=
  (2 ≤ U ∧ U ≤ 8) ∧ (8 ≤ T ∧ T ≤ 32) ∧ (4 ≤ N ∧ N ≤ 16) ∧ (∀ u, ∃ l, l ≤ T ∧ ln u = nI l) ∧ nh_TV N K V ∧ (∀ u m, u < U → m < N → us (u * 16 + m) = if bt (uu u) m = true then 1 else 0) ∧ (∀ u, u < U → ¬ ue u = -1 → uu u = 0)
end
section
/-! 08: X reads the units -/
def nh_E (K ln : Nat → Int32) (u : Nat) : Int32 := nh_er K (u * 32) (nh_L ln u) 0
def nh_C (K ln : Nat → Int32) (u : Nat) : Int32 := if nh_E K ln u = -1 then nI (nh_ct K (u * 32) (nh_L ln u)) else 0
def nh_ubits (K V ln : Nat → Int32) (u : Nat) (x : Int32) : Prop := ∀ m, m < 32 → (bt x m = true ↔ (nh_E K ln u = -1 ∧ nh_uu K V (u * 32) (nh_L ln u) m))
theorem nh_uself (f : Nat → Int32) (k : Nat) : upd f k (f k) = f := by
  funext j
  by_cases e : j = k
  · rw [e, pk_us]
  · rw [pk_un e]
theorem nx_in {post : Int32 → Prop} {k : Int32} {d : Nat} (hp : post (nI (nh_nx k 2 d))) : wpX_stateInOperand post () k := by
  rw [nh_n2] at hp
  by_cases k1 : k = 1
  · rw [if_pos k1] at hp; subst k1; exact br_f (by decide) (br_f (by decide) (br_t rfl hp))
  rw [if_neg k1] at hp
  by_cases k2 : k = 2
  · rw [if_pos k2] at hp; subst k2; exact br_f (by decide) (br_f (by decide) (br_f (by decide) (br_t rfl hp)))
  rw [if_neg k2] at hp
  by_cases k4 : k = 4
  · rw [if_pos k4] at hp; subst k4; exact br_f (by decide) (br_f (by decide) (br_f (by decide) (br_f (by decide) (br_f (by decide) (br_t rfl hp)))))
  rw [if_neg k4] at hp
  by_cases k6 : k = 6
  · rw [if_pos k6] at hp; subst k6; exact br_f (by decide) (br_f (by decide) (br_f (by decide) (br_f (by decide) (br_f (by decide) (br_f (by decide) (br_f (by decide) (br_t rfl hp)))))))
  rw [if_neg k6] at hp
  have h4 : post 4 := hp
  exact br_c (fun _ => h4) (fun _ => br_c (fun _ => h4) (fun _ => br_f k1 (br_f k2 (br_c (fun _ => h4) (fun _ => br_f k4 (br_c (fun _ => h4) (fun _ => br_f k6 trivial)))))))
theorem nx_after {post : Int32 → Prop} {k : Int32} {d : Nat} (hd : d < 2 ^ 31) (hp : post (nI (nh_nx k 3 d))) : wpX_stateAfterOperand post () k (nI d) := by
  rw [nh_n3] at hp
  by_cases k3 : k = 3
  · rw [if_pos k3] at hp; subst k3; exact br_f (by decide) (br_f (by decide) (br_t rfl hp))
  rw [if_neg k3] at hp
  by_cases k4 : k = 4
  · rw [if_pos k4] at hp; subst k4; exact br_f (by decide) (br_f (by decide) (br_f (by decide) (br_t rfl hp)))
  rw [if_neg k4] at hp
  by_cases k5 : k = 5
  · rw [if_pos k5] at hp; subst k5; exact br_f (by decide) (br_f (by decide) (br_f (by decide) (br_f (by decide) (br_t rfl hp))))
  rw [if_neg k5] at hp
  by_cases k7 : k = 7
  · rw [if_pos k7] at hp; subst k7
    refine br_f (by decide) (br_f (by decide) (br_f (by decide) (br_f (by decide) (br_f (by decide) (br_f (by decide) (br_t rfl ?_))))))
    by_cases hz : 0 < d
    · rw [if_pos hz] at hp; exact br_f (nI_nle hz hd) hp
    · rw [if_neg hz] at hp
      have e : d = 0 := by omega
      subst e
      exact br_t (by decide) hp
  rw [if_neg k7] at hp
  by_cases k9 : k = 9
  · rw [if_pos k9] at hp; subst k9
    refine br_f (by decide) (br_f (by decide) (br_f (by decide) (br_f (by decide) (br_f (by decide) (br_f (by decide) (br_f (by decide) (br_f (by decide) (br_t rfl ?_))))))))
    by_cases hz : d = 0
    · rw [if_pos hz] at hp; subst hz; exact br_t (by decide) hp
    · rw [if_neg hz] at hp; exact br_f (nI_ne0 (by omega) hd) hp
  rw [if_neg k9] at hp
  have h4 : post 4 := hp
  exact br_c (fun _ => h4) (fun _ => br_c (fun _ => h4) (fun _ => br_f k3 (br_f k4 (br_f k5 (br_c (fun _ => h4) (fun _ => br_f k7 (br_c (fun _ => h4) (fun _ => br_f k9 trivial))))))))
theorem nx_next {post : Int32 → Prop} {k : Int32} {st d : Nat} (hs : st ≤ 3) (hd : d < 2 ^ 31) (hp : post (nI (nh_nx k st d))) : wpX_nextState post () (nI st) k (nI d) := by
  have hc : st = 0 ∨ st = 1 ∨ st = 2 ∨ st = 3 := by omega
  rcases hc with e | e | e | e
  · subst e
    rw [nh_n0] at hp
    refine br_f (by decide) (br_f (by decide) (br_t (by decide) ?_))
    by_cases k2 : k = 2
    · rw [if_pos k2] at hp; exact br_t k2 hp
    · rw [if_neg k2] at hp; exact br_f k2 hp
  · subst e
    rw [nh_n1] at hp
    refine br_f (by decide) (br_f (by decide) (br_f (by decide) (br_t (by decide) ?_)))
    by_cases k2 : k = 8
    · rw [if_pos k2] at hp; exact br_t k2 hp
    · rw [if_neg k2] at hp; exact br_f k2 hp
  · subst e
    exact br_f (by decide) (br_f (by decide) (br_f (by decide) (br_f (by decide) (br_t (by decide) (nx_in hp)))))
  · subst e
    exact br_f (by decide) (br_t (by decide) (nx_after hd hp))
theorem nh_Dle (K : Nat → Int32) (b : Nat) : ∀ i, nh_D K b i ≤ i := by
  intro i
  induction i with
  | zero => exact Nat.le_refl 0
  | succ i ih => rw [nh_D1, nh_dp]; split <;> (try split) <;> omega
theorem nh_D6 {K : Nat → Int32} {b i : Nat} (h : K (b + i) = 6) : nh_D K b (i + 1) = nh_D K b i + 1 := by rw [nh_D1, nh_dp, if_pos h]
theorem nh_D7 {K : Nat → Int32} {b i : Nat} (h : K (b + i) = 7) : nh_D K b (i + 1) = nh_D K b i - 1 := by rw [nh_D1, nh_dp, if_neg (by rw [h]; decide), if_pos h]
theorem nh_Dn {K : Nat → Int32} {b i : Nat} (h6 : ¬ K (b + i) = 6) (h7 : ¬ K (b + i) = 7) : nh_D K b (i + 1) = nh_D K b i := by rw [nh_D1, nh_dp, if_neg h6, if_neg h7]
/-- a closing parenthesis that is taken closes an open one -/
theorem nh_7pos {st d : Nat} (hs : st ≤ 3) (h : nh_nx 7 st d ≠ 4) : 0 < d := by
  have hc : st = 0 ∨ st = 1 ∨ st = 2 ∨ st = 3 := by omega
  rcases hc with e | e | e | e
  · subst e; exact absurd (nh_x0 h).1 (by decide)
  · subst e; exact absurd (nh_x1 h).1 (by decide)
  · subst e
    rcases nh_x2 h with ⟨h1, _⟩ | ⟨h1, _⟩
    · exact absurd h1 (by decide)
    · exact absurd h1 (by decide)
  · subst e
    rcases nh_x3 h with ⟨h1, _⟩ | h1 | ⟨h1, _⟩
    · exact absurd h1 (by decide)
    · exact h1.2.1
    · exact absurd h1 (by decide)
theorem nx_fe {U T N : Nat} {on ok fl dp tt pr : Int32} {K V ln ue dc uu ow st w ch no ns nr es nu re oT oP : Nat → Int32} {post : Int32 → Prop} {u L : Nat} (hu : u < 8) (hl : ln u = nI L) (hL : L ≤ 32) : ∀ (d i n : Nat), i + d = L → d < n → nh_S K (u * 32) i ≤ 3 → post (nh_er K (u * 32) d i) →
    wX_findError_7 post (nI u) (nI U) (nI T) (nI N) on ok fl dp tt pr K V ln ue dc uu ow st w ch no ns nr es nu re oT oP n (nI (nh_S K (u * 32) i)) (nI (nh_D K (u * 32) i)) (nI i) := by
  have hcu : (nI u).toNatClampNeg = u := nI_clamp (by omega)
  intro d
  induction d with
  | zero =>
    intro i n hi hn hs hp
    obtain ⟨m, rfl⟩ : ∃ m, n = m + 1 := ⟨n - 1, by omega⟩
    refine ⟨vp_in_nI hu (by decide), ?_⟩
    rw [hcu, hl]
    refine br_t (nI_le (by omega) (by omega)) ?_
    rw [nh_er] at hp
    by_cases e : nh_S K (u * 32) i = 0
    · rw [if_pos e] at hp
      rw [e]
      exact br_t (by decide) hp
    · rw [if_neg e] at hp
      refine br_f (nI_ne0 (by omega) (by omega)) ⟨vp_in_nI hu (by decide), ?_⟩
      rw [show L = i by omega]
      exact hp
  | succ d ih =>
    intro i n hi hn hs hp
    obtain ⟨m, rfl⟩ : ∃ m, n = m + 1 := ⟨n - 1, by omega⟩
    have hD := nh_Dle K (u * 32) i
    refine ⟨vp_in_nI hu (by decide), ?_⟩
    rw [hcu, hl]
    refine br_f (nI_ge (by omega) (by omega)) ?_
    rw [nh_c32, nI_clamp (n := u * 32 + i) (by omega)]
    refine ⟨vp_in_nI (by omega) (by decide), nm_e (nx_next hs (by omega) ?_)⟩
    rw [← nh_S1]
    rw [nh_er] at hp
    by_cases h4 : nh_S K (u * 32) (i + 1) = 4
    · rw [if_pos h4] at hp
      rw [h4]
      exact br_t (by decide) hp
    · rw [if_neg h4] at hp
      have hS1 : nh_S K (u * 32) (i + 1) ≤ 3 := by
        have := nh_xle (K (u * 32 + i)) (nh_S K (u * 32) i) (nh_D K (u * 32) i)
        rw [← nh_S1] at this
        omega
      have hnext := ih (i + 1) m (by omega) (by omega) hS1 hp
      refine br_f (fun e => h4 (nh_im (b := 4) e (by omega) (by decide))) ?_
      by_cases h6 : K (u * 32 + i) = 6
      · refine br_t h6 (nm_r ?_ (nm_r (nI_1 i) hnext))
        rw [nh_D6 h6]; exact nI_1 _
      · refine br_f h6 ?_
        by_cases h7 : K (u * 32 + i) = 7
        · refine br_t h7 (nm_r ?_ (nm_r (nI_1 i) hnext))
          have hpos : 0 < nh_D K (u * 32) i := by
            rw [nh_S1, h7] at h4
            exact nh_7pos hs h4
          rw [nh_D7 h7]
          obtain ⟨q, hq⟩ : ∃ q, nh_D K (u * 32) i = q + 1 := ⟨nh_D K (u * 32) i - 1, by omega⟩
          rw [hq]
          exact pk_m1 q
        · refine br_f h7 (nm_r (nI_1 i) ?_)
          rw [nh_Dn h6 h7] at hnext
          exact hnext
theorem nx_findError {U T N : Nat} {on ok fl dp tt pr : Int32} {K V ln ue dc uu ow st w ch no ns nr es nu re oT oP : Nat → Int32} {post : Int32 → Prop} {u : Nat} (hu : u < 8) (hT : T ≤ 32) (hln : ∀ u, ∃ l, l ≤ T ∧ ln u = nI l) (hp : post (nh_E K ln u)) : wpX_findError post (nI U, nI T, nI N, on, ok, fl, dp, tt, pr, K, V, ln, ue, dc, uu, ow, st, w, ch, no, ns, nr, es, nu, re, oT, oP) (nI u) := by
  have ⟨h1, h2⟩ := nh_Ln hT hln u
  exact ⟨nh_L ln u + 1, nx_fe hu h1 (by omega) (nh_L ln u) 0 _ (by omega) (by omega) (by rw [nh_S0]; decide) hp⟩
theorem nx_claim {U T N : Nat} {on ok fl dp tt pr : Int32} {K V ln ue dc uu ow st w ch no ns nr es nu re oT oP : Nat → Int32} {post : Int32 → St2 → Prop} {m u i : Nat} (hm : m < 16)
    (h1 : no m = -1 → post (nI m) (nI U, nI T, nI N, on ||| ((1 : Int32) <<< (nI m &&& 31)), ok, fl, dp, tt, pr, K, V, ln, ue, dc, uu, ow, st, w, ch, upd no m (nI u), ns, nr, upd es m (nI (i + 2)), nu, re, oT, oP)) (h2 : ¬ no m = -1 → post (-1) (nI U, nI T, nI N, on, ok, fl, dp, tt, pr, K, V, ln, ue, dc, uu, ow, st, w, ch, no, ns, nr, es, nu, re, oT, oP)) : wpX_claimName post (nI U, nI T, nI N, on, ok, fl, dp, tt, pr, K, V, ln, ue, dc, uu, ow, st, w, ch, no, ns, nr, es, nu, re, oT, oP) (nI m) (nI u) (nI i) := by
  have hcm : (nI m).toNatClampNeg = m := nI_clamp (by omega)
  have hi := vp_in_nI hm (by decide)
  refine ⟨hi, ?_⟩
  rw [hcm]
  exact br_c (fun h => ⟨hi, nm_e ⟨hi, nm_r (congrArg (upd es m) (nI_add i 2)) (nm_e (h1 h))⟩⟩) h2
theorem nx_note0 {U T N : Nat} {on ok fl dp tt pr : Int32} {K V ln ue dc uu ow st w ch no ns nr es nu re oT oP : Nat → Int32} {post : St2 → Prop} {m u : Nat} (hu : u < 8) (h1 : post (nI U, nI T, nI N, on, ok, fl, dp, tt, pr, K, V, ln, ue, dc, upd uu u (uu u ||| ((1 : Int32) <<< (nI m &&& 31))), ow, st, w, ch, no, ns, nr, es, nu, re, oT, oP)) : wpX_noteUse post (nI U, nI T, nI N, on, ok, fl, dp, tt, pr, K, V, ln, ue, dc, uu, ow, st, w, ch, no, ns, nr, es, nu, re, oT, oP) (nI u) (-1) (nI m) := by
  have hcu : (nI u).toNatClampNeg = u := nI_clamp (by omega)
  have hi := vp_in_nI hu (by decide)
  refine ⟨hi, hi, ?_⟩
  rw [hcu]
  exact nm_e (br_t rfl h1)
theorem nx_note1 {U T N : Nat} {on ok fl dp tt pr : Int32} {K V ln ue dc uu ow st w ch no ns nr es nu re oT oP : Nat → Int32} {post : St2 → Prop} {m u n : Nat} (hu : u < 8) (hn : n < 16) (h1 : post (nI U, nI T, nI N, on, ok, fl, dp, tt, pr, K, V, ln, ue, dc, upd uu u (uu u ||| ((1 : Int32) <<< (nI m &&& 31))), ow, st, w, ch, no, ns, nr, es, upd nu n (nu n ||| ((1 : Int32) <<< (nI m &&& 31))), re, oT, oP)) : wpX_noteUse post (nI U, nI T, nI N, on, ok, fl, dp, tt, pr, K, V, ln, ue, dc, uu, ow, st, w, ch, no, ns, nr, es, nu, re, oT, oP) (nI u) (nI n) (nI m) := by
  have hcu : (nI u).toNatClampNeg = u := nI_clamp (by omega)
  have hcn : (nI n).toNatClampNeg = n := nI_clamp (by omega)
  have hi := vp_in_nI hu (by decide)
  have hj := vp_in_nI hn (by decide)
  refine ⟨hi, hi, ?_⟩
  rw [hcu]
  refine nm_e (br_f (nh_ne1 (by omega)) ⟨hj, hj, ?_⟩)
  rw [hcn]
  exact nm_e h1
theorem nx_rd {U T N : Nat} {ok fl dp tt pr : Int32} {K V ln ue ow st w ch ns nr re oT oP : Nat → Int32} {post : St2 → Prop} {u L : Nat} (hU : U ≤ 8) (hN : N ≤ 16) (hu : u < U) (hl : nh_L ln u = L) (hl2 : ln u = nI L) (hL : L ≤ 32) (hTV : nh_TV N K V) (hok : nh_ok K (u * 32) L) :
    ∀ (d i n : Nat) (x2 x3 on : Int32) (dc uu no es nu : Nat → Int32), i + d = L → d < n → (x2 = 0 ↔ ¬ nh_S K (u * 32) i = 0) → (¬ nh_S K (u * 32) i = 0 → nh_cur K V (nh_L ln) U N u i x3) → nh_XI K V (nh_L ln) U N u i no es nu on →
    dc u = nI (nh_ct K (u * 32) i) → (∀ m, m < 32 → (bt (uu u) m = true ↔ nh_uu K V (u * 32) i m)) →
    (∀ on' x no' es' nu', (∀ m, m < 32 → (bt x m = true ↔ nh_uu K V (u * 32) L m)) → nh_XI K V (nh_L ln) U N u L no' es' nu' on' → post (nI U, nI T, nI N, on', ok, fl, dp, tt, pr, K, V, ln, ue, upd dc u (nI (nh_ct K (u * 32) L)), upd uu u x, ow, st, w, ch, no', ns, nr, es', nu', re, oT, oP)) →
    wX_readDefs_7 post (nI u) n x2 x3 (nI i) (nI U) (nI T) (nI N) on ok fl dp tt pr K V ln ue dc uu ow st w ch no ns nr es nu re oT oP := by
  have hcu : (nI u).toNatClampNeg = u := nI_clamp (by omega)
  have h8 : vp_in (nI u) 8 := vp_in_nI (by omega) (by decide)
  intro d
  induction d with
  | zero =>
    intro i n x2 x3 on dc uu no es nu hi hn hx2 hx3 hX hdc huu hp
    obtain ⟨m, rfl⟩ : ∃ m, n = m + 1 := ⟨n - 1, by omega⟩
    have e : i = L := by omega
    subst e
    refine ⟨h8, ?_⟩
    rw [hcu, hl2]
    refine br_t (nI_le (Nat.le_refl _) (by omega)) ?_
    have h1 := hp on (uu u) no es nu huu hX
    rw [← hdc, nh_uself, nh_uself] at h1
    exact h1
  | succ d ih =>
    intro i n x2 x3 on dc uu no es nu hi hn hx2 hx3 hX hdc huu hp
    obtain ⟨m, rfl⟩ : ∃ m, n = m + 1 := ⟨n - 1, by omega⟩
    have hp256 : u * 32 + i < 256 := by omega
    have hiL : i < nh_L ln u := by omega
    refine ⟨h8, ?_⟩
    rw [hcu, hl2]
    refine br_f (nI_ge (by omega) (by omega)) ?_
    rw [nh_c32, nI_clamp (n := u * 32 + i) (by omega)]
    refine ⟨vp_in_nI hp256 (by decide), nm_e ⟨vp_in_nI hp256 (by decide), nm_e ?_⟩⟩
    by_cases h9 : K (u * 32 + i) = 9
    · -- a semicolon
      have ⟨hS, hS1⟩ := nh_nine hok (by omega) h9
      have hns : ¬ nh_S K (u * 32) i = 0 := by omega
      refine br_t h9 ⟨h8, h8, nm_e (nm_r (nI_1 i) ?_)⟩
      refine ih (i + 1) m 1 x3 on _ uu no es nu (by omega) (by omega) ⟨fun h => absurd h (by decide), fun h => absurd hS1 h⟩ (fun h => absurd hS1 h)
        (nh_XIa hX (fun n _ hd => absurd hd.2.2.1 hns) (fun s n q _ _ hu => by have h2 := hu.2.2.2.1; rw [h9] at h2; exact absurd h2 (by decide))) ?_ (fun q hq => ?_) (fun on' x no' es' nu' h1 h2 => ?_)
      · rw [pk_us, hdc, nI_1, nh_ct, if_pos h9]
      · rw [huu q hq, nh_uun (fun h => by rw [h9] at h; exact absurd h.2 (by decide))]
      · rw [nh_ub]; exact hp on' x no' es' nu' h1 h2
    · refine br_f h9 ?_
      have hct : nh_ct K (u * 32) (i + 1) = nh_ct K (u * 32) i := by rw [nh_ct, if_neg h9]
      have hS1 : ¬ nh_S K (u * 32) (i + 1) = 0 := nh_n9 h9
      by_cases h2 : K (u * 32 + i) = 2
      · obtain ⟨v, hv, hV⟩ := hTV _ h2
        refine br_t h2 ?_
        by_cases h0 : nh_S K (u * 32) i = 0
        · -- a definition begins
          refine br_f (fun e => hx2.mp e h0) ?_
          have hdf : nh_df K V (nh_L ln) u i v := ⟨by rw [hl]; exact hok, hiL, h0, hV⟩
          rw [hV]
          refine nx_claim (by omega) (fun hno => ?_) (fun hno => ?_)
          · have ⟨hf, hX1⟩ := nh_XIc hX hU hN hu hv hdf hno
            refine nm_r (nI_1 i) (ih (i + 1) m 0 (nI v) _ dc uu _ _ nu (by omega) (by omega) ⟨fun _ => hS1, fun _ => rfl⟩ (fun _ => ⟨i, v, by omega, hv, hdf, fun t h1 h2 => by omega, Or.inl ⟨hf, rfl⟩⟩) hX1 ?_ (fun q hq => ?_) hp)
            · rw [hct]; exact hdc
            · rw [huu q hq, nh_uun (fun h => h.1 h0)]
          · have hnf : ¬ nh_fs K V (nh_L ln) U v u i := fun hf => by
              rcases hX v hv with ⟨h3, _⟩ | ⟨u', i', hb, hf2, _⟩
              · exact hno h3
              · exact hf.2.2 u' i' hf2.2.1 hb
            refine nm_r (nI_1 i) (ih (i + 1) m 0 (-1) on dc uu no es nu (by omega) (by omega) ⟨fun _ => hS1, fun _ => rfl⟩ (fun _ => ⟨i, v, by omega, hv, hdf, fun t h1 h2 => by omega, Or.inr ⟨hnf, rfl⟩⟩) ?_ ?_ (fun q hq => ?_) hp)
            · refine nh_XIa hX (fun n hn hd => ?_) (fun s n q _ hf hu => nh_us0 hf.2.1 h0 hu)
              have e1 : n = v := nh_im (by rw [← hd.2.2.2, hV]) (by omega) (by omega)
              rw [e1]; exact hno
            · rw [hct]; exact hdc
            · rw [huu q hq, nh_uun (fun h => h.1 h0)]
        · -- a use
          refine br_t (hx2.mpr h0) (br_t h2 ?_)
          obtain ⟨s, n0, hs, hn0, hd0, hrun, hcase⟩ := hx3 h0
          have hbits : ∀ q, q < 32 → (bt (upd uu u (uu u ||| ((1 : Int32) <<< (nI v &&& 31))) u) q = true ↔ nh_uu K V (u * 32) (i + 1) q) := by
            intro q hq
            rw [pk_us, nh_or1 (by omega) hq, huu q hq, nh_uus]
            refine ⟨fun h => h.elim Or.inl (fun h => Or.inr ⟨h0, h2, by rw [hV, h]⟩), fun h => h.elim Or.inl (fun h => Or.inr (nh_im (by rw [← h.2.2, hV]) (by omega) (by omega)))⟩
          rw [hV]
          rcases hcase with ⟨hf, hx⟩ | ⟨hnf, hx⟩
          · rw [hx]
            refine nx_note1 (by omega) (by omega) (nm_r (nI_1 i) (ih (i + 1) m x2 (nI n0) on dc _ no es _ (by omega) (by omega) ⟨fun _ => hS1, fun _ => hx2.mpr h0⟩ (fun _ => ?_) (nh_XIu hX hN hiL hs hn0 hf hrun h0 h2 hV hv) ?_ hbits (fun on' x no' es' nu' h1 h2 => ?_)))
            · rw [← hx]; exact nh_cur1 (hx3 h0) h9
            · rw [hct]; exact hdc
            · rw [nh_ub]; exact hp on' x no' es' nu' h1 h2
          · rw [hx]
            refine nx_note0 (by omega) (nm_r (nI_1 i) (ih (i + 1) m x2 (-1) on dc _ no es nu (by omega) (by omega) ⟨fun _ => hS1, fun _ => hx2.mpr h0⟩ (fun _ => ?_) (nh_XIn hX hN hs hn0 hd0 hrun hnf h0) ?_ hbits (fun on' x no' es' nu' h1 h2 => ?_)))
            · rw [← hx]; exact nh_cur1 (hx3 h0) h9
            · rw [hct]; exact hdc
            · rw [nh_ub]; exact hp on' x no' es' nu' h1 h2
      · -- another token
        have h0 : ¬ nh_S K (u * 32) i = 0 := fun h0 => h2 (nh_st0 hok (by omega) h0).1
        refine br_f h2 (br_f h2 (nm_r (nI_1 i) (ih (i + 1) m x2 x3 on dc uu no es nu (by omega) (by omega) ⟨fun _ => hS1, fun _ => hx2.mpr h0⟩ (fun _ => nh_cur1 (hx3 h0) h9) ?_ ?_ (fun q hq => ?_) hp)))
        · exact nh_XIa hX (fun n _ hd => absurd hd.2.2.1 h0) (fun s n q _ _ hu => h2 hu.2.2.2.1)
        · rw [hct]; exact hdc
        · rw [huu q hq, nh_uun (fun h => h2 h.2)]
theorem nx_readDefs {U T N : Nat} {on ok fl dp tt pr : Int32} {K V ln ue dc uu ow st w ch no ns nr es nu re oT oP : Nat → Int32} {post : St2 → Prop} {u : Nat} (hU : U ≤ 8) (hN : N ≤ 16) (hT : T ≤ 32) (hu : u < U) (hln : ∀ u, ∃ l, l ≤ T ∧ ln u = nI l) (hTV : nh_TV N K V) (hE : nh_E K ln u = -1) (hX : nh_XI K V (nh_L ln) U N u 0 no es nu on) (hdc : dc u = 0) (huu : uu u = 0)
    (hp : ∀ on' x no' es' nu', nh_ubits K V ln u x → nh_XI K V (nh_L ln) U N (u + 1) 0 no' es' nu' on' → post (nI U, nI T, nI N, on', ok, fl, dp, tt, pr, K, V, ln, ue, upd dc u (nh_C K ln u), upd uu u x, ow, st, w, ch, no', ns, nr, es', nu', re, oT, oP)) : wpX_readDefs post (nI U, nI T, nI N, on, ok, fl, dp, tt, pr, K, V, ln, ue, dc, uu, ow, st, w, ch, no, ns, nr, es, nu, re, oT, oP) (nI u) := by
  have ⟨h1, h2⟩ := nh_Ln hT hln u
  have hok : nh_ok K (u * 32) (nh_L ln u) := nh_ok_of (by omega) hE
  refine ⟨nh_L ln u + 1, nx_rd hU hN hu rfl h1 (by omega) hTV hok (nh_L ln u) 0 _ 1 (-1) on dc uu no es nu (by omega) (by omega) ⟨fun h => absurd h (by decide), fun h => absurd (nh_S0 _ _) h⟩ (fun h => absurd (nh_S0 _ _) h) hX ?_ (fun q hq => ?_) (fun on' x no' es' nu' h3 h4 => ?_)⟩
  · rw [hdc]; exact nI_0.symm
  · rw [huu, b_0]; exact ⟨fun h => absurd h (by decide), fun h => absurd h nh_uu0⟩
  · have h5 := hp on' x no' es' nu' (fun q hq => by rw [h3 q hq]; exact ⟨fun h => ⟨hE, h⟩, fun h => h.2⟩) (nh_XIe h4)
    rw [nh_C, if_pos hE] at h5
    exact h5
theorem nx_readUnit {U T N : Nat} {on ok fl dp tt pr : Int32} {K V ln ue dc uu ow st w ch no ns nr es nu re oT oP : Nat → Int32} {post : St2 → Prop} {u : Nat} (hU : U ≤ 8) (hN : N ≤ 16) (hT : T ≤ 32) (hu : u < U) (hln : ∀ u, ∃ l, l ≤ T ∧ ln u = nI l) (hTV : nh_TV N K V) (hX : nh_XI K V (nh_L ln) U N u 0 no es nu on)
    (hp : ∀ on' x no' es' nu', nh_ubits K V ln u x → nh_XI K V (nh_L ln) U N (u + 1) 0 no' es' nu' on' → post (nI U, nI T, nI N, on', ok, fl, dp, tt, pr, K, V, ln, upd ue u (nh_E K ln u), upd dc u (nh_C K ln u), upd uu u x, ow, st, w, ch, no', ns, nr, es', nu', re, oT, oP)) : wpX_readUnit post (nI U, nI T, nI N, on, ok, fl, dp, tt, pr, K, V, ln, ue, dc, uu, ow, st, w, ch, no, ns, nr, es, nu, re, oT, oP) (nI u) := by
  have hcu : (nI u).toNatClampNeg = u := nI_clamp (by omega)
  have h8 : vp_in (nI u) 8 := vp_in_nI (by omega) (by decide)
  unfold wpX_readUnit
  refine nx_findError (by omega) hT hln ?_
  rw [hcu]
  refine ⟨h8, nm_e ⟨h8, nm_e ⟨h8, nm_e ⟨h8, ?_⟩⟩⟩⟩
  rw [pk_us]
  by_cases hE : nh_E K ln u = -1
  · refine br_t hE (nx_readDefs hU hN hT hu hln hTV hE hX pk_us pk_us (fun on' x no' es' nu' h1 h2 => ?_))
    rw [nh_ub, nh_ub]
    exact hp on' x no' es' nu' h1 h2
  · refine br_f hE ?_
    have h5 := hp on 0 no es nu (fun q hq => by rw [b_0]; exact ⟨fun h => absurd h (by decide), fun h => absurd h.1 hE⟩) (nh_XIb hX (fun hk => hE (nh_ok_er hk)))
    rw [nh_C, if_neg hE] at h5
    exact h5
theorem nx_forget {U T N : Nat} {on ok fl dp tt pr : Int32} {K V ln ue dc uu ow st w ch no ns nr es nu re oT oP : Nat → Int32} {post : St2 → Prop} (hN : N ≤ 16) (hp : ∀ no' nu', (∀ n, n < N → no' n = -1 ∧ nu' n = 0) → post (nI U, nI T, nI N, 0, 0, 0, dp, tt, pr, K, V, ln, ue, dc, uu, ow, st, w, ch, no', ns, nr, es, nu', re, oT, oP)) : wpX_forgetDefinitions post (nI U, nI T, nI N, on, ok, fl, dp, tt, pr, K, V, ln, ue, dc, uu, ow, st, w, ch, no, ns, nr, es, nu, re, oT, oP) := by
  refine loop_0 (σ := (Nat → Int32) × (Nat → Int32)) (fun n i s => wX_forgetDefinitions_2 post (nI U) (nI T) (nI N) on ok fl dp tt pr n (nI i) K V ln ue dc uu ow st w ch s.1 ns nr es s.2 re oT oP) (fun i s => ∀ n, n < i → s.1 n = -1 ∧ s.2 n = 0) N (no, nu) (fun n h => absurd h (Nat.not_lt_zero n)) (fun n s h => ?_) (fun n i s hi h hs => ?_)
  · exact br_t (nI_le (Nat.le_refl N) (by omega)) (hp s.1 s.2 h)
  · have h16 : vp_in (nI i) 16 := vp_in_nI (by omega) (by decide)
    refine br_f (nI_ge hi (by omega)) ?_
    rw [nI_clamp (n := i) (by omega)]
    refine ⟨h16, nm_e ⟨h16, nm_e (nm_r (nI_1 i) (hs (upd s.1 i (-1), upd s.2 i 0) (fun n hn => ?_)))⟩⟩
    show upd s.1 i (-1) n = -1 ∧ upd s.2 i 0 n = 0
    by_cases e : n = i
    · rw [e, pk_us, pk_us]; exact ⟨rfl, rfl⟩
    · rw [pk_un e, pk_un e]; exact h n (by omega)
end
section
/-! 09: X's closure and what it decides from the graph -/
theorem nx_has {post : Int32 → Prop} {x : Int32} {n : Nat} (hn : n < 32) (h1 : bt x n = true → post 1) (h0 : bt x n = false → post 0) : wpX_contains post () x (nI n) :=
  br_c (fun h => h0 ((nh_has hn).mp h)) (fun h => h1 (nh_bf0 (fun h2 => h ((nh_has hn).mpr h2))))
theorem nh_uqN {K V : Nat → Int32} {Ln : Nat → Nat} {U N n m : Nat} (hTV : nh_TV N K V) (hN : N ≤ 16) (hm : m < 32) (h : nh_uq K V Ln U n m) : m < N := by
  obtain ⟨u, s, j, _, hu⟩ := h
  obtain ⟨q, hq, hv⟩ := hTV _ hu.2.2.2.1
  have e : m = q := nh_im (by rw [← hu.2.2.2.2, hv]) (by omega) (by omega)
  omega
theorem nx_fr45 {U T N : Nat} {on ok fl dp tt pr : Int32} {K V ln ue dc uu ow st w ch no ns nr es nu oT oP : Nat → Int32} {post : St2 → Prop} {J : Int32 → (Nat → Int32) → (Nat → Int32) → (Nat → Int32) → (Nat → Int32) → (Nat → Int32) → (Nat → Int32) → (Nat → Int32) → (Nat → Int32) → (Nat → Int32) → (Nat → Int32) → (Nat → Int32) → (Nat → Int32) → (Nat → Int32) → (Nat → Int32) → (Nat → Int32) → (Nat → Int32) → (Nat → Int32) → (Nat → Int32) → Prop}
    {O : Nat → Prop} {Q : Nat → Nat → Prop} {k : Nat} {re : Nat → Int32} (hN : N ≤ 16) (hk : k < N) (hR : nh_RR O Q N k re) (hJ : ∀ re', nh_RR O Q N (k + 1) re' → J (nI (k + 1)) K V ln ue dc uu ow st w ch no ns nr es nu re' oT oP) :
    ∃ n, wX_findReachedNames_45 post J (nI k) (nI U) (nI T) (nI N) on ok fl dp tt pr n 0 K V ln ue dc uu ow st w ch no ns nr es nu re oT oP := by
  refine loop_0 (σ := Nat → Int32) (fun n i s => wX_findReachedNames_45 post J (nI k) (nI U) (nI T) (nI N) on ok fl dp tt pr n (nI i) K V ln ue dc uu ow st w ch no ns nr es nu s oT oP) (fun i s => nh_RI O Q N k i s) N re (nh_RI0 hR) (fun n s h => ?_) (fun n i s hi h hs => ?_)
  · exact br_t (nI_le (Nat.le_refl N) (by omega)) (nm_r (nI_1 k) (hJ s (nh_RIe h)))
  · have h16 : vp_in (nI i) 16 := vp_in_nI (by omega) (by decide)
    have hk16 : vp_in (nI k) 16 := vp_in_nI (by omega) (by decide)
    refine br_f (nI_ge hi (by omega)) ⟨h16, ?_⟩
    rw [nI_clamp (n := i) (by omega)]
    refine nx_has (by omega) (fun hb => ?_) (fun hb => ?_)
    · refine br_f (by decide) ⟨h16, hk16, h16, ?_⟩
      rw [nI_clamp (n := k) (by omega)]
      exact nm_e (nm_r (nI_1 i) (hs _ (nh_RIt h hk hi hb)))
    · exact br_t rfl (nm_r (nI_1 i) (hs _ (nh_RIf h hk hi hb)))
theorem nx_fr35 {U T N : Nat} {on ok fl dp tt pr : Int32} {K V ln ue dc uu ow st w ch no ns nr es nu re oT oP : Nat → Int32} {post : St2 → Prop} {O : Nat → Prop} {Q : Nat → Nat → Prop} (hN : N ≤ 16) (hR : nh_RR O Q N 0 re) (hp : ∀ re', nh_RR O Q N N re' → post (nI U, nI T, nI N, on, ok, fl, dp, tt, pr, K, V, ln, ue, dc, uu, ow, st, w, ch, no, ns, nr, es, nu, re', oT, oP)) :
    ∃ n, wX_findReachedNames_35 post (nI U) (nI T) (nI N) on ok fl dp tt pr n 0 K V ln ue dc uu ow st w ch no ns nr es nu re oT oP := by
  refine loop_0 (σ := Nat → Int32) (fun n i s => wX_findReachedNames_35 post (nI U) (nI T) (nI N) on ok fl dp tt pr n (nI i) K V ln ue dc uu ow st w ch no ns nr es nu s oT oP) (fun i s => nh_RR O Q N i s) N re hR (fun n s h => ?_) (fun n i s hi h hs => ?_)
  · exact br_t (nI_le (Nat.le_refl N) (by omega)) (hp s h)
  · exact br_f (nI_ge hi (by omega)) (nx_fr45 hN hi h (fun re' h' => hs re' h'))
theorem nx_reach {U T N : Nat} {on ok fl dp tt pr : Int32} {K V ln ue dc uu ow st w ch no ns nr es nu re oT oP : Nat → Int32} {post : St2 → Prop} (hN : N ≤ 16) (hX : nh_XF K V (nh_L ln) U N no es nu on) (hp : ∀ re', nh_RR (nh_ow K V (nh_L ln) U) (nh_uq K V (nh_L ln) U) N N re' → post (nI U, nI T, nI N, on, ok, fl, dp, tt, pr, K, V, ln, ue, dc, uu, ow, st, w, ch, no, ns, nr, es, nu, re', oT, oP)) : wpX_findReachedNames post (nI U, nI T, nI N, on, ok, fl, dp, tt, pr, K, V, ln, ue, dc, uu, ow, st, w, ch, no, ns, nr, es, nu, re, oT, oP) := by
  refine loop_0 (σ := Nat → Int32) (fun n i s => wX_findReachedNames_2 post (nI U) (nI T) (nI N) on ok fl dp tt pr n (nI i) K V ln ue dc uu ow st w ch no ns nr es nu s oT oP) (fun i s => ∀ n, n < i → s n = (nu n &&& on)) N re (fun n h => absurd h (Nat.not_lt_zero n)) (fun n s h => ?_) (fun n i s hi h hs => ?_)
  · refine br_t (nI_le (Nat.le_refl N) (by omega)) (nx_fr35 hN (fun a c ha hc => ?_) hp)
    rw [h a ha, b_and, Bool.and_eq_true, (hX a ha).2.1 c (by omega), (hX c hc).1]
    exact ⟨fun h => ⟨h.1, (let ⟨u, s, _, hf, _⟩ := h.1; ⟨u, s, hf⟩), h.2⟩, fun h => ⟨h.1, h.2.2⟩⟩
  · have h16 : vp_in (nI i) 16 := vp_in_nI (by omega) (by decide)
    refine br_f (nI_ge hi (by omega)) ⟨h16, h16, ?_⟩
    rw [nI_clamp (n := i) (by omega)]
    refine nm_e (nm_r (nI_1 i) (hs _ (fun n hn => ?_)))
    by_cases e : n = i
    · rw [e, pk_us]
    · rw [pk_un e]; exact h n (by omega)
theorem nx_fail {U T N : Nat} {on ok fl dp tt pr : Int32} {K V ln ue dc uu ow st w ch no ns nr es nu re oT oP : Nat → Int32} {post : St2 → Prop} {n : Nat} {s : Int32} (hn : n < 16) (hp : post (nI U, nI T, nI N, on, ok, fl ||| ((1 : Int32) <<< (nI n &&& 31)), dp, tt, pr, K, V, ln, ue, dc, uu, ow, st, w, ch, no, upd ns n s, nr, es, nu, re, oT, oP)) : wpX_fail post (nI U, nI T, nI N, on, ok, fl, dp, tt, pr, K, V, ln, ue, dc, uu, ow, st, w, ch, no, ns, nr, es, nu, re, oT, oP) (nI n) s := by
  have hcn : (nI n).toNatClampNeg = n := nI_clamp (by omega)
  refine ⟨vp_in_nI hn (by decide), ?_⟩
  rw [hcn]
  exact nm_e (nm_e hp)
theorem nx_graph {U T N : Nat} {on ok fl dp tt pr : Int32} {K V ln ue dc uu ow st w ch no ns nr es nu re oT oP : Nat → Int32} {post : St2 → Prop} {i : Nat} (hN : N ≤ 16) (hTV : nh_TV N K V) (hX : nh_XF K V (nh_L ln) U N no es nu on) (hR : nh_RR (nh_ow K V (nh_L ln) U) (nh_uq K V (nh_L ln) U) N N re) (hi : i < N)
    (hG : nh_XG (nh_ow K V (nh_L ln) U) (nh_uq K V (nh_L ln) U) N i ns nr fl) (hp : ∀ ns' nr' fl', nh_XG (nh_ow K V (nh_L ln) U) (nh_uq K V (nh_L ln) U) N (i + 1) ns' nr' fl' → post (nI U, nI T, nI N, on, ok, fl', dp, tt, pr, K, V, ln, ue, dc, uu, ow, st, w, ch, no, ns', nr', es, nu, re, oT, oP)) : wpX_decideFromGraph post (nI U, nI T, nI N, on, ok, fl, dp, tt, pr, K, V, ln, ue, dc, uu, ow, st, w, ch, no, ns, nr, es, nu, re, oT, oP) (nI i) := by
  have hci : (nI i).toNatClampNeg = i := nI_clamp (by omega)
  have h16 : vp_in (nI i) 16 := vp_in_nI (by omega) (by decide)
  refine ⟨h16, ?_⟩
  rw [hci]
  refine nm_e (nx_has (by omega) (fun ho => ?_) (fun ho => ?_))
  · have hO := (hX i hi).1.mp ho
    refine br_f (by decide) ⟨h16, nx_has (by omega) (fun hr => ?_) (fun hr => ?_)⟩
    · have hr1 := (hR i i hi hi).mp hr
      exact br_f (by decide) (nx_fail (by omega) (hp _ _ _ (nh_XGf hG hN hi (Or.inr (Or.inl ⟨hO, hr1, rfl⟩)) (Or.inr rfl))))
    · have hr1 : ¬ nh_rl (nh_ow K V (nh_L ln) U) (nh_uq K V (nh_L ln) U) N i i := fun h => by rw [(hR i i hi hi).mpr h] at hr; exact absurd hr (by decide)
      refine br_t rfl ⟨h16, br_c (fun h => ?_) (fun h => ?_)⟩
      · have h1 := nh_anz.mp h
        refine ⟨h16, nm_e (hp _ _ _ (nh_XGs hG (Or.inr (Or.inr (Or.inr ⟨⟨hO, hr1, fun m hm hq => ?_⟩, rfl⟩))) (by decide) (by decide)))⟩
        exact (hX m hm).1.mp (h1 m (by omega) (((hX i hi).2.1 m (by omega)).mpr hq))
      · refine nx_fail (by omega) (hp _ _ _ (nh_XGf hG hN hi (Or.inr (Or.inr (Or.inl ⟨hO, hr1, ?_, rfl⟩))) (Or.inl rfl)))
        rcases Classical.em (∃ m, m < N ∧ nh_uq K V (nh_L ln) U i m ∧ ¬ nh_ow K V (nh_L ln) U m) with h2 | h2
        · exact h2
        · refine absurd (nh_anz.mpr (fun m hm hb => ?_)) h
          have hq := ((hX i hi).2.1 m hm).mp hb
          have hmN := nh_uqN hTV hN hm hq
          refine (hX m hmN).1.mpr ?_
          rcases Classical.em (nh_ow K V (nh_L ln) U m) with h3 | h3
          · exact h3
          · exact absurd ⟨m, hmN, hq, h3⟩ h2
  · have hO : ¬ nh_ow K V (nh_L ln) U i := fun h => by rw [(hX i hi).1.mpr h] at ho; exact absurd ho (by decide)
    exact br_t rfl ⟨h16, nm_e (hp _ _ _ (nh_XGs hG (Or.inl ⟨hO, rfl⟩) (by decide) (by decide)))⟩
end
section
/-! 10: X's values, rounds, publishing -/
theorem nx_tok {U T N : Nat} {on ok fl tt pr : Int32} {K V ln ue dc uu ow st w ch no ns nr es nu re oT oP : Nat → Int32} {post : St2 → Prop} {p d : Nat} {af : Bool} {x : Int32} (hN : N ≤ 16) (hTV : nh_TV N K V) (hd : d < 32) (hx : x = 0 ↔ ¬ af = true)
    (h1 : K p = 1 → post (nI U, nI T, nI N, on, ok, fl, nI d, tt, pr * V p, K, V, ln, ue, dc, uu, ow, st, w, ch, no, ns, nr, es, nu, re, oT, oP)) (h2 : K p = 2 → post (nI U, nI T, nI N, on, ok, fl, nI d, tt, pr * nr (V p).toNatClampNeg, K, V, ln, ue, dc, uu, ow, st, w, ch, no, ns, nr, es, nu, re, oT, oP)) (h3 : K p = 3 → post (nI U, nI T, nI N, on, ok, fl, nI d, tt + pr, 1, K, V, ln, ue, dc, uu, ow, st, w, ch, no, ns, nr, es, nu, re, oT, oP))
    (h4 : K p = 4 → af = true → post (nI U, nI T, nI N, on, ok, fl, nI d, tt + pr, -1, K, V, ln, ue, dc, uu, ow, st, w, ch, no, ns, nr, es, nu, re, oT, oP)) (h4' : K p = 4 → ¬ af = true → post (nI U, nI T, nI N, on, ok, fl, nI d, tt, -pr, K, V, ln, ue, dc, uu, ow, st, w, ch, no, ns, nr, es, nu, re, oT, oP))
    (h6 : K p = 6 → post (nI U, nI T, nI N, on, ok, fl, nI (d + 1), 0, 1, K, V, ln, ue, dc, uu, ow, st, w, ch, no, ns, nr, es, nu, re, upd oT d tt, upd oP d pr)) (h7 : K p = 7 → d = 0 → post (nI U, nI T, nI N, on, ok, fl, nI d, tt, pr, K, V, ln, ue, dc, uu, ow, st, w, ch, no, ns, nr, es, nu, re, oT, oP)) (h7' : K p = 7 → ¬ d = 0 → post (nI U, nI T, nI N, on, ok, fl, nI (d - 1), oT (d - 1), oP (d - 1) * (tt + pr), K, V, ln, ue, dc, uu, ow, st, w, ch, no, ns, nr, es, nu, re, oT, oP))
    (h0 : ¬ K p = 1 → ¬ K p = 2 → ¬ K p = 3 → ¬ K p = 4 → ¬ K p = 6 → ¬ K p = 7 → post (nI U, nI T, nI N, on, ok, fl, nI d, tt, pr, K, V, ln, ue, dc, uu, ow, st, w, ch, no, ns, nr, es, nu, re, oT, oP)) : wpX_evaluateToken post (nI U, nI T, nI N, on, ok, fl, nI d, tt, pr, K, V, ln, ue, dc, uu, ow, st, w, ch, no, ns, nr, es, nu, re, oT, oP) (K p) (V p) x := by
  have hdin : vp_in (nI d) 32 := vp_in_nI hd (by decide)
  have hcd : (nI d).toNatClampNeg = d := nI_clamp (by omega)
  by_cases k1 : K p = 1
  · refine br_f (by rw [k1]; decide) (br_f (by rw [k1]; decide) (br_t k1 (nm_e (h1 k1))))
  by_cases k2 : K p = 2
  · obtain ⟨m, hm, hv⟩ := hTV p k2
    refine br_f (by rw [k2]; decide) (br_f (by rw [k2]; decide) (br_f k1 (br_t k2 ⟨?_, nm_e (h2 k2)⟩)))
    rw [hv]; exact vp_in_nI (by omega) (by decide)
  by_cases k3 : K p = 3
  · exact br_f (by rw [k3]; decide) (br_f (by rw [k3]; decide) (br_f k1 (br_f k2 (br_t k3 (nm_e (h3 k3))))))
  by_cases k4 : K p = 4
  · refine br_f (by rw [k4]; decide) (br_f (by rw [k4]; decide) (br_f k1 (br_f k2 (br_f k3 (br_t k4 ?_)))))
    by_cases ha : af = true
    · exact br_f (fun h => hx.mp h ha) (nm_e (h4 k4 ha))
    · exact br_t (hx.mpr ha) (nm_e (h4' k4 ha))
  by_cases k6 : K p = 6
  · refine br_f (by rw [k6]; decide) (br_f (by rw [k6]; decide) (br_f k1 (br_f k2 (br_f k3 (br_f k4 (br_f (by rw [k6]; decide) (br_t k6 ?_)))))))
    refine br_f (nI_ge (b := 32) hd (by decide)) ⟨hdin, ?_⟩
    rw [hcd]
    exact nm_e ⟨hdin, nm_e (nm_r (nI_1 d) (h6 k6))⟩
  by_cases k7 : K p = 7
  · refine br_f (by rw [k7]; decide) (br_f (by rw [k7]; decide) (br_f k1 (br_f k2 (br_f k3 (br_f k4 (br_f (by rw [k7]; decide) (br_f k6 (br_t k7 ?_))))))))
    by_cases hz : d = 0
    · subst hz; exact br_t (by decide) (h7 k7 rfl)
    · refine br_f (nI_nle (by omega) (by omega)) (nm_r (e' := nI (d - 1)) ?_ ⟨vp_in_nI (by omega) (by decide), ?_⟩)
      · obtain ⟨q, rfl⟩ : ∃ q, d = q + 1 := ⟨d - 1, by omega⟩
        exact nI_pred q
      · rw [nI_clamp (n := d - 1) (by omega)]
        exact nm_e ⟨vp_in_nI (by omega) (by decide), nm_e (h7' k7 hz)⟩
  have h00 := h0 k1 k2 k3 k4 k6 k7
  exact br_c (fun _ => h00) (fun _ => br_c (fun _ => h00) (fun _ => br_f k1 (br_f k2 (br_f k3 (br_f k4 (br_c (fun _ => h00) (fun _ => br_f k6 (br_f k7 trivial))))))))
theorem nx_ev {U T N : Nat} {on ok fl : Int32} {K V ln ue dc uu ow st w ch no ns nr es nu re : Nat → Int32} {post : Int32 → St2 → Prop} {e : Nat} (hN : N ≤ 16) (hTV : nh_TV N K V) (he : e ≤ 256) : ∀ (f p n : Nat) (af : Bool) (x : Int32) (d : Nat) (tt pr : Int32) (oT oP : Nat → Int32), p + f = e → f < n → d + f ≤ 32 → (x = 0 ↔ ¬ af = true) →
    (∀ dp' tt' pr' oT' oP', post (nh_pe K V nr f p af d tt pr oT oP) (nI U, nI T, nI N, on, ok, fl, dp', tt', pr', K, V, ln, ue, dc, uu, ow, st, w, ch, no, ns, nr, es, nu, re, oT', oP')) → wX_evaluate_52 post (nI e) n x (nI p) (nI U) (nI T) (nI N) on ok fl (nI d) tt pr K V ln ue dc uu ow st w ch no ns nr es nu re oT oP := by
  intro f
  induction f with
  | zero =>
    intro p n af x d tt pr oT oP hpe hn hd hx hp
    obtain ⟨m, rfl⟩ : ∃ m, n = m + 1 := ⟨n - 1, by omega⟩
    exact br_t (nI_le (by omega) (by omega)) (hp _ _ _ _ _)
  | succ f ih =>
    intro p n af x d tt pr oT oP hpe hn hd hx hp
    obtain ⟨m, rfl⟩ : ∃ m, n = m + 1 := ⟨n - 1, by omega⟩
    have hpin : vp_in (nI p) 256 := vp_in_nI (by omega) (by decide)
    refine br_f (nI_ge (by omega) (by omega)) ⟨hpin, ?_⟩
    rw [nI_clamp (n := p) (by omega)]
    rw [nh_peS] at hp
    by_cases k9 : K p = 9
    · rw [if_pos k9] at hp
      exact br_t k9 (hp _ _ _ _ _)
    rw [if_neg k9] at hp
    refine br_f k9 ⟨hpin, hpin, ?_⟩
    have T1 : (1 : Int32) = 0 ↔ ¬ true = true := ⟨fun h => absurd h (by decide), fun h => absurd rfl h⟩
    have T0 : (0 : Int32) = 0 ↔ ¬ false = true := ⟨fun _ => by decide, fun _ => rfl⟩
    refine nx_tok hN hTV (by omega) hx (fun k1 => ?_) (fun k2 => ?_) (fun k3 => ?_) (fun k4 ha => ?_) (fun k4 ha => ?_) (fun k6 => ?_) (fun k7 hz => ?_) (fun k7 hz => ?_) (fun k1 k2 k3 k4 k6 k7 => ?_)
    · rw [if_pos k1] at hp
      exact ⟨hpin, br_t k1 (nm_r (nI_1 p) (ih (p + 1) m true 1 d _ _ _ _ (by omega) (by omega) (by omega) T1 hp))⟩
    · have k1 : ¬ K p = 1 := by rw [k2]; decide
      rw [if_neg k1, if_pos k2] at hp
      exact ⟨hpin, br_f k1 ⟨hpin, br_t k2 (nm_r (nI_1 p) (ih (p + 1) m true 1 d _ _ _ _ (by omega) (by omega) (by omega) T1 hp))⟩⟩
    · have k1 : ¬ K p = 1 := by rw [k3]; decide
      have k2 : ¬ K p = 2 := by rw [k3]; decide
      have k7 : ¬ K p = 7 := by rw [k3]; decide
      rw [if_neg k1, if_neg k2, if_pos k3] at hp
      exact ⟨hpin, br_f k1 ⟨hpin, br_f k2 ⟨hpin, br_f k7 (nm_r (nI_1 p) (ih (p + 1) m false 0 d _ _ _ _ (by omega) (by omega) (by omega) T0 hp))⟩⟩⟩
    · have k1 : ¬ K p = 1 := by rw [k4]; decide
      have k2 : ¬ K p = 2 := by rw [k4]; decide
      have k3 : ¬ K p = 3 := by rw [k4]; decide
      have k7 : ¬ K p = 7 := by rw [k4]; decide
      rw [if_neg k1, if_neg k2, if_neg k3, if_pos k4, if_pos ha] at hp
      exact ⟨hpin, br_f k1 ⟨hpin, br_f k2 ⟨hpin, br_f k7 (nm_r (nI_1 p) (ih (p + 1) m false 0 d _ _ _ _ (by omega) (by omega) (by omega) T0 hp))⟩⟩⟩
    · have k1 : ¬ K p = 1 := by rw [k4]; decide
      have k2 : ¬ K p = 2 := by rw [k4]; decide
      have k3 : ¬ K p = 3 := by rw [k4]; decide
      have k7 : ¬ K p = 7 := by rw [k4]; decide
      rw [if_neg k1, if_neg k2, if_neg k3, if_pos k4, if_neg ha] at hp
      exact ⟨hpin, br_f k1 ⟨hpin, br_f k2 ⟨hpin, br_f k7 (nm_r (nI_1 p) (ih (p + 1) m false 0 d _ _ _ _ (by omega) (by omega) (by omega) T0 hp))⟩⟩⟩
    · have k1 : ¬ K p = 1 := by rw [k6]; decide
      have k2 : ¬ K p = 2 := by rw [k6]; decide
      have k3 : ¬ K p = 3 := by rw [k6]; decide
      have k4 : ¬ K p = 4 := by rw [k6]; decide
      have k7 : ¬ K p = 7 := by rw [k6]; decide
      rw [if_neg k1, if_neg k2, if_neg k3, if_neg k4, if_pos k6] at hp
      exact ⟨hpin, br_f k1 ⟨hpin, br_f k2 ⟨hpin, br_f k7 (nm_r (nI_1 p) (ih (p + 1) m false 0 (d + 1) _ _ _ _ (by omega) (by omega) (by omega) T0 hp))⟩⟩⟩
    · have k1 : ¬ K p = 1 := by rw [k7]; decide
      have k2 : ¬ K p = 2 := by rw [k7]; decide
      have k3 : ¬ K p = 3 := by rw [k7]; decide
      have k4 : ¬ K p = 4 := by rw [k7]; decide
      have k6 : ¬ K p = 6 := by rw [k7]; decide
      rw [if_neg k1, if_neg k2, if_neg k3, if_neg k4, if_neg k6, if_pos k7, if_pos hz] at hp
      exact ⟨hpin, br_f k1 ⟨hpin, br_f k2 ⟨hpin, br_t k7 (nm_r (nI_1 p) (ih (p + 1) m true 1 d _ _ _ _ (by omega) (by omega) (by omega) T1 hp))⟩⟩⟩
    · have k1 : ¬ K p = 1 := by rw [k7]; decide
      have k2 : ¬ K p = 2 := by rw [k7]; decide
      have k3 : ¬ K p = 3 := by rw [k7]; decide
      have k4 : ¬ K p = 4 := by rw [k7]; decide
      have k6 : ¬ K p = 6 := by rw [k7]; decide
      rw [if_neg k1, if_neg k2, if_neg k3, if_neg k4, if_neg k6, if_pos k7, if_neg hz] at hp
      exact ⟨hpin, br_f k1 ⟨hpin, br_f k2 ⟨hpin, br_t k7 (nm_r (nI_1 p) (ih (p + 1) m true 1 (d - 1) _ _ _ _ (by omega) (by omega) (by omega) T1 hp))⟩⟩⟩
    · rw [if_neg k1, if_neg k2, if_neg k3, if_neg k4, if_neg k6, if_neg k7] at hp
      exact ⟨hpin, br_f k1 ⟨hpin, br_f k2 ⟨hpin, br_f k7 (nm_r (nI_1 p) (ih (p + 1) m false 0 d _ _ _ _ (by omega) (by omega) (by omega) T0 hp))⟩⟩⟩
theorem nx_evaluate {U T N : Nat} {on ok fl dp tt pr : Int32} {K V ln ue dc uu ow st w ch no ns nr es nu re oT oP : Nat → Int32} {post : Int32 → St2 → Prop} {n u s : Nat} (hU : U ≤ 8) (hN : N ≤ 16) (hT : T ≤ 32) (hln : ∀ u, ∃ l, l ≤ T ∧ ln u = nI l) (hTV : nh_TV N K V) (hn : n < N) (hX : nh_XF K V (nh_L ln) U N no es nu on) (hf : nh_fs K V (nh_L ln) U n u s)
    (hp : ∀ dp' tt' pr' oT' oP', post (nh_ev K V (nh_L ln) nr u s) (nI U, nI T, nI N, on, ok, fl, dp', tt', pr', K, V, ln, ue, dc, uu, ow, st, w, ch, no, ns, nr, es, nu, re, oT', oP')) : wpX_evaluate post (nI U, nI T, nI N, on, ok, fl, dp, tt, pr, K, V, ln, ue, dc, uu, ow, st, w, ch, no, ns, nr, es, nu, re, oT, oP) (nI n) := by
  have ⟨hl1, hl2⟩ := nh_Ln hT hln u
  have ⟨ho, he⟩ := (hX n hn).2.2.2 u s hf
  have hu := hf.1
  obtain ⟨hk, hs, hs0, _⟩ := hf.2.1
  have hs1 : s + 2 ≤ nh_L ln u := by
    have h1 := (nh_st0 hk hs hs0).2
    by_cases e : s + 1 = nh_L ln u
    · have h2 := hk.2
      rw [← e, h1] at h2
      exact absurd h2 (by decide)
    · omega
  have h16 : vp_in (nI n) 16 := vp_in_nI (by omega) (by decide)
  refine ⟨h16, ?_⟩
  rw [nI_clamp (n := n) (by omega), ho, he, nI_clamp (n := u) (by omega), hl1]
  refine nm_r (nh_e32 u) ⟨h16, vp_in_nI (by omega) (by decide), nm_r (nI_add _ _) ⟨h16, nm_r (nI_add _ _) ⟨nh_L ln u - (s + 2) + 1, ?_⟩⟩⟩
  refine nx_ev hN hTV (by omega) (nh_L ln u - (s + 2)) (u * 32 + (s + 2)) _ false 0 0 0 1 oT oP (by omega) (by omega) (by omega) ⟨fun _ => by decide, fun _ => rfl⟩ (fun dp' tt' pr' oT' oP' => ?_)
  rw [nh_pec (w' := nr) _ _ _ _ _ _ oT oP nh_z0 nh_z0 (fun _ _ _ _ _ => rfl) (fun j hj => absurd hj (Nat.not_lt_zero j))]
  exact hp dp' tt' pr' oT' oP'
theorem nx_uses {U T N : Nat} {on ok fl dp tt pr : Int32} {K V ln ue dc uu ow st w ch no ns nr es nu re oT oP : Nat → Int32} {post : St2 → Prop} {r i : Nat} (hU : U ≤ 8) (hN : N ≤ 16) (hT : T ≤ 32) (hln : ∀ u, ∃ l, l ≤ T ∧ ln u = nI l) (hTV : nh_TV N K V) (hi : i < N) (hX : nh_XF K V (nh_L ln) U N no es nu on)
    (hR : nh_XR (nh_ow K V (nh_L ln) U) (nh_uq K V (nh_L ln) U) (nh_vl K V (nh_L ln) U) N r i ns nr fl ok) (hs : ns i = -1)
    (hp : ∀ ns' nr' fl' ok' dp' tt' pr' oT' oP', nh_XR (nh_ow K V (nh_L ln) U) (nh_uq K V (nh_L ln) U) (nh_vl K V (nh_L ln) U) N r (i + 1) ns' nr' fl' ok' → post (nI U, nI T, nI N, on, ok', fl', dp', tt', pr', K, V, ln, ue, dc, uu, ow, st, w, ch, no, ns', nr', es, nu, re, oT', oP')) : wpX_decideFromUses post (nI U, nI T, nI N, on, ok, fl, dp, tt, pr, K, V, ln, ue, dc, uu, ow, st, w, ch, no, ns, nr, es, nu, re, oT, oP) (nI i) := by
  have hci : (nI i).toNatClampNeg = i := nI_clamp (by omega)
  have h16 : vp_in (nI i) 16 := vp_in_nI (by omega) (by decide)
  refine ⟨h16, ?_⟩
  rw [hci]
  refine br_c (fun h => ⟨h16, br_c (fun h2 => ⟨h16, nm_e ?_⟩) (fun h2 => ?_)⟩) (fun h => ?_)
  · obtain ⟨u, s, hf⟩ := (nh_XRp hR hi hs).1.1
    refine nx_evaluate hU hN hT hln hTV hi hX hf (fun dp' tt' pr' oT' oP' => ⟨h16, nm_e (nm_e (hp _ _ _ _ dp' tt' pr' oT' oP' (nh_XRo (fun n w w' x h1 h2 => nh_vlc hTV hN h1 h2) hR hN hi hs (fun m hm hq => ?_) ⟨u, s, hf, rfl⟩)))⟩)
    exact nh_anz.mp h2 m (by omega) (((hX i hi).2.1 m (by omega)).mpr hq)
  · refine hp _ _ _ _ _ _ _ _ _ (nh_XRs hR hi hs (fun m hm hq hb => nh_az.mp h m (by omega) (((hX i hi).2.1 m (by omega)).mpr hq) hb) ?_)
    rcases Classical.em (∃ m, m < N ∧ nh_uq K V (nh_L ln) U i m ∧ ¬ bt ok m = true) with h3 | h3
    · exact h3
    · refine absurd (nh_anz.mpr (fun m hm hb => ?_)) h2
      have hq := ((hX i hi).2.1 m hm).mp hb
      rcases Classical.em (bt ok m = true) with h4 | h4
      · exact h4
      · exact absurd ⟨m, nh_uqN hTV hN hm hq, hq, h4⟩ h3
  · refine nx_fail (by omega) (hp _ _ _ _ _ _ _ _ _ (nh_XRb hR hN hi hs ?_))
    rcases Classical.em (∃ m, m < N ∧ nh_uq K V (nh_L ln) U i m ∧ bt fl m = true) with h3 | h3
    · exact h3
    · refine absurd (nh_az.mpr (fun m hm hb hb2 => ?_)) h
      have hq := ((hX i hi).2.1 m hm).mp hb
      exact h3 ⟨m, nh_uqN hTV hN hm hq, hq, hb2⟩
theorem nx_r12 {U T N : Nat} {on : Int32} {K V ln ue dc uu ow st w ch no es nu re : Nat → Int32} {post : St2 → Prop} {J : Int32 → Int32 → Int32 → Int32 → Int32 → Int32 → Int32 → Int32 → Int32 → Int32 → (Nat → Int32) → (Nat → Int32) → (Nat → Int32) → (Nat → Int32) → (Nat → Int32) → (Nat → Int32) → (Nat → Int32) → (Nat → Int32) → (Nat → Int32) → (Nat → Int32) → (Nat → Int32) → (Nat → Int32) → (Nat → Int32) → (Nat → Int32) → (Nat → Int32) → (Nat → Int32) → (Nat → Int32) → (Nat → Int32) → Prop} {r : Nat} (hU : U ≤ 8) (hN : N ≤ 16) (hT : T ≤ 32) (hln : ∀ u, ∃ l, l ≤ T ∧ ln u = nI l) (hTV : nh_TV N K V) (hX : nh_XF K V (nh_L ln) U N no es nu on)
    (hJ : ∀ ns nr fl ok dp tt pr oT oP, nh_XR (nh_ow K V (nh_L ln) U) (nh_uq K V (nh_L ln) U) (nh_vl K V (nh_L ln) U) N (r + 1) 0 ns nr fl ok → J (nI (r + 1)) (nI U) (nI T) (nI N) on ok fl dp tt pr K V ln ue dc uu ow st w ch no ns nr es nu re oT oP) :
    ∀ (d i n : Nat) (ns nr : Nat → Int32) (fl ok dp tt pr : Int32) (oT oP : Nat → Int32), i + d = N → d < n → nh_XR (nh_ow K V (nh_L ln) U) (nh_uq K V (nh_L ln) U) (nh_vl K V (nh_L ln) U) N r i ns nr fl ok → wX_decideTheRest_12 post J (nI r) n (nI i) (nI U) (nI T) (nI N) on ok fl dp tt pr K V ln ue dc uu ow st w ch no ns nr es nu re oT oP := by
  intro d
  induction d with
  | zero =>
    intro i n ns nr fl ok dp tt pr oT oP hid hn hR
    obtain ⟨m, rfl⟩ : ∃ m, n = m + 1 := ⟨n - 1, by omega⟩
    have e : i = N := by omega
    subst e
    exact br_t (nI_le (Nat.le_refl _) (by omega)) (nm_r (nI_1 r) (hJ ns nr fl ok dp tt pr oT oP (nh_XRe hR)))
  | succ d ih =>
    intro i n ns nr fl ok dp tt pr oT oP hid hn hR
    obtain ⟨m, rfl⟩ : ∃ m, n = m + 1 := ⟨n - 1, by omega⟩
    have hi : i < N := by omega
    refine br_f (nI_ge hi (by omega)) ⟨vp_in_nI (by omega) (by decide), ?_⟩
    rw [nI_clamp (n := i) (by omega)]
    by_cases hs : ns i = -1
    · exact br_t hs (nx_uses hU hN hT hln hTV hi hX hR hs (fun ns' nr' fl' ok' dp' tt' pr' oT' oP' h => nm_r (nI_1 i) (ih (i + 1) m _ _ _ _ _ _ _ _ _ (by omega) (by omega) h)))
    · exact br_f hs (nm_r (nI_1 i) (ih (i + 1) m _ _ _ _ _ _ _ _ _ (by omega) (by omega) (nh_XRk hR hs)))
theorem nx_r2 {U T N : Nat} {on : Int32} {K V ln ue dc uu ow st w ch no es nu re : Nat → Int32} {post : St2 → Prop} (hU : U ≤ 8) (hN : N ≤ 16) (hT : T ≤ 32) (hln : ∀ u, ∃ l, l ≤ T ∧ ln u = nI l) (hTV : nh_TV N K V) (hX : nh_XF K V (nh_L ln) U N no es nu on)
    (hp : ∀ ns nr fl ok dp tt pr oT oP, nh_sol (nh_ow K V (nh_L ln) U) (nh_uq K V (nh_L ln) U) (nh_vl K V (nh_L ln) U) N ns nr → post (nI U, nI T, nI N, on, ok, fl, dp, tt, pr, K, V, ln, ue, dc, uu, ow, st, w, ch, no, ns, nr, es, nu, re, oT, oP)) :
    ∀ (d r n : Nat) (ns nr : Nat → Int32) (fl ok dp tt pr : Int32) (oT oP : Nat → Int32), r + d = N → d < n → nh_XR (nh_ow K V (nh_L ln) U) (nh_uq K V (nh_L ln) U) (nh_vl K V (nh_L ln) U) N r 0 ns nr fl ok → wX_decideTheRest_2 post n (nI r) (nI U) (nI T) (nI N) on ok fl dp tt pr K V ln ue dc uu ow st w ch no ns nr es nu re oT oP := by
  intro d
  induction d with
  | zero =>
    intro r n ns nr fl ok dp tt pr oT oP hid hn hR
    obtain ⟨m, rfl⟩ : ∃ m, n = m + 1 := ⟨n - 1, by omega⟩
    have e : r = N := by omega
    subst e
    exact br_t (nI_le (Nat.le_refl _) (by omega)) (hp ns nr fl ok dp tt pr oT oP (nh_XRf hR))
  | succ d ih =>
    intro r n ns nr fl ok dp tt pr oT oP hid hn hR
    obtain ⟨m, rfl⟩ : ∃ m, n = m + 1 := ⟨n - 1, by omega⟩
    exact br_f (nI_ge (by omega) (by omega)) ⟨N + 1, nx_r12 hU hN hT hln hTV hX (fun ns' nr' fl' ok' dp' tt' pr' oT' oP' h => ih (r + 1) m _ _ _ _ _ _ _ _ _ (by omega) (by omega) h) N 0 (N + 1) ns nr fl ok dp tt pr oT oP (by omega) (by omega) hR⟩
theorem nx_p67 {U T N : Nat} {on ok fl dp tt pr : Int32} {K V ln ue dc uu ow st w ch no ns nr es nu re oT oP : Nat → Int32} {post : Int32 → St2 → Prop} {J : Int32 → Int32 → (Nat → Int32) → (Nat → Int32) → (Nat → Int32) → (Nat → Int32) → (Nat → Int32) → (Nat → Int32) → (Nat → Int32) → (Nat → Int32) → (Nat → Int32) → (Nat → Int32) → (Nat → Int32) → (Nat → Int32) → (Nat → Int32) → (Nat → Int32) → (Nat → Int32) → (Nat → Int32) → (Nat → Int32) → (Nat → Int32) → Prop} {i : Nat} {c : Nat → Int32} {z : Int32} (hi : i < 16) (hz : z = 0 ∨ z = 1) (hc : c i = z)
    (hJ : J (nI (nh_cc c (i + 1))) (nI (i + 1)) K V ln ue dc uu (nh_mx (i + 1) no ow) (nh_mx (i + 1) ns st) (nh_mx (i + 1) nr w) (nh_mx (i + 1) c ch) no ns nr es nu re oT oP) :
    wX_publishNames_67 post J (nI (nh_cc c i)) (nI i) z (nI i) (nI U) (nI T) (nI N) on ok fl dp tt pr K V ln ue dc uu (nh_mx i no ow) (nh_mx i ns st) (nh_mx i nr w) (nh_mx i c ch) no ns nr es nu re oT oP := by
  have h16 : vp_in (nI i) 16 := vp_in_nI hi (by decide)
  have hci : (nI i).toNatClampNeg = i := nI_clamp (by omega)
  have h80 : ∀ y, J y (nI (i + 1)) K V ln ue dc uu (nh_mx (i + 1) no ow) (nh_mx (i + 1) ns st) (nh_mx (i + 1) nr w) (nh_mx (i + 1) c ch) no ns nr es nu re oT oP →
      wX_publishNames_80 post J y (nI i) (nI U) (nI T) (nI N) on ok fl dp tt pr K V ln ue dc uu (nh_mx i no ow) (nh_mx i ns st) (nh_mx i nr w) (nh_mx (i + 1) c ch) no ns nr es nu re oT oP := by
    intro y hy
    refine ⟨h16, h16, ?_⟩
    rw [hci]
    exact nm_r (nh_mxs i no ow) ⟨h16, h16, nm_r (nh_mxs i ns st) ⟨h16, h16, nm_r (nh_mxs i nr w) (nm_r (nI_1 i) hy)⟩⟩
  have hv : vp_nar .boolean z = c i := by
    rw [hc]
    rcases hz with e | e
    · rw [e]; exact nh_vb0
    · rw [e]; exact nh_vb1
  refine ⟨h16, ?_⟩
  rw [hci, hv]
  refine nm_r (nh_mxs i c ch) ⟨h16, ?_⟩
  rw [nh_mxl (Nat.lt_succ_self i), hc]
  rcases hz with e | e
  · have e2 : nh_cc c (i + 1) = nh_cc c i := by rw [nh_cc, if_pos (hc.trans e)]
    rw [e2] at hJ
    exact br_t e (h80 _ hJ)
  · have e2 : nh_cc c (i + 1) = nh_cc c i + 1 := by rw [nh_cc, if_neg (by rw [hc, e]; decide)]
    rw [e2] at hJ
    exact br_f (by rw [e]; decide) (nm_r (nI_1 _) (h80 _ hJ))
theorem nx_pub {U T N : Nat} {on ok fl dp tt pr : Int32} {K V ln ue dc uu ow st w ch no ns nr es nu re oT oP : Nat → Int32} {post : Int32 → St2 → Prop} (hN : N ≤ 16) (hp : post (nI (nh_cc (nh_ch ow st w no ns nr) N)) (nI U, nI T, nI N, on, ok, fl, dp, tt, pr, K, V, ln, ue, dc, uu, nh_mx N no ow, nh_mx N ns st, nh_mx N nr w, nh_mx N (nh_ch ow st w no ns nr) ch, no, ns, nr, es, nu, re, oT, oP)) : wpX_publishNames post (nI U, nI T, nI N, on, ok, fl, dp, tt, pr, K, V, ln, ue, dc, uu, ow, st, w, ch, no, ns, nr, es, nu, re, oT, oP) := by
  have key : ∀ (d i n : Nat), i + d = N → d < n → wX_publishNames_4 post (nI U) (nI T) (nI N) on ok fl dp tt pr n (nI (nh_cc (nh_ch ow st w no ns nr) i)) (nI i) K V ln ue dc uu (nh_mx i no ow) (nh_mx i ns st) (nh_mx i nr w) (nh_mx i (nh_ch ow st w no ns nr) ch) no ns nr es nu re oT oP := by
    intro d
    induction d with
    | zero =>
      intro i n hid hn
      obtain ⟨m, rfl⟩ : ∃ m, n = m + 1 := ⟨n - 1, by omega⟩
      have e : i = N := by omega
      subst e
      exact br_t (nI_le (Nat.le_refl _) (by omega)) hp
    | succ d ih =>
      intro i n hid hn
      obtain ⟨m, rfl⟩ : ∃ m, n = m + 1 := ⟨n - 1, by omega⟩
      have hi : i < 16 := by omega
      have h16 : vp_in (nI i) 16 := vp_in_nI hi (by decide)
      have hJ := ih (i + 1) m (by omega) (by omega)
      refine br_f (nI_ge (by omega) (by omega)) ⟨h16, h16, ?_⟩
      rw [nI_clamp (n := i) (by omega), nh_mxg (Nat.le_refl i), nh_mxg (Nat.le_refl i), nh_mxg (Nat.le_refl i)]
      by_cases e1 : ow i = no i
      · refine br_t e1 ⟨h16, h16, ?_⟩
        by_cases e2 : st i = ns i
        · refine br_t e2 ⟨h16, h16, ?_⟩
          by_cases e3 : w i = nr i
          · exact br_t e3 (nx_p67 hi (Or.inl rfl) (if_pos ⟨e1, e2, e3⟩) hJ)
          · exact br_f e3 (nx_p67 hi (Or.inr rfl) (if_neg (fun h => e3 h.2.2)) hJ)
        · exact br_f e2 (nx_p67 hi (Or.inr rfl) (if_neg (fun h => e2 h.2.1)) hJ)
      · exact br_f e1 (nx_p67 hi (Or.inr rfl) (if_neg (fun h => e1 h.1)) hJ)
  have h0 := key N 0 (N + 1) (by omega) (by omega)
  rw [nh_mx0, nh_mx0, nh_mx0, nh_mx0] at h0
  exact ⟨N + 1, h0⟩
end
section
/-! 11: X builds -/
def nh_OS (K V : Nat → Int32) (Ln : Nat → Nat) (U N : Nat) (no : Nat → Int32) : Prop := ∀ n, n < N → (¬ nh_ow K V Ln U n → no n = -1) ∧ ∀ u s, nh_fs K V Ln U n u s → no n = nI u
theorem nx_b31 {U T N : Nat} {on dp tt pr : Int32} {K V ln ue dc uu ow st w ch no es nu re oT oP : Nat → Int32} {post : Int32 → St2 → Prop} (hU : U ≤ 8) (hN : N ≤ 16) (hT : T ≤ 32) (hln : ∀ u, ∃ l, l ≤ T ∧ ln u = nI l) (hTV : nh_TV N K V) (hX : nh_XF K V (nh_L ln) U N no es nu on)
    (hR : nh_RR (nh_ow K V (nh_L ln) U) (nh_uq K V (nh_L ln) U) N N re)
    (hp : ∀ ns nr fl ok dp tt pr oT oP, nh_sol (nh_ow K V (nh_L ln) U) (nh_uq K V (nh_L ln) U) (nh_vl K V (nh_L ln) U) N ns nr →
      post (nI (nh_cc (nh_ch ow st w no ns nr) N)) (nI U, nI T, nI N, on, ok, fl, dp, tt, pr, K, V, ln, ue, dc, uu, nh_mx N no ow, nh_mx N ns st, nh_mx N nr w, nh_mx N (nh_ch ow st w no ns nr) ch, no, ns, nr, es, nu, re, oT, oP)) :
    ∀ (d i n : Nat) (ns nr : Nat → Int32) (fl : Int32), i + d = N → d < n → nh_XG (nh_ow K V (nh_L ln) U) (nh_uq K V (nh_L ln) U) N i ns nr fl → wX_build_31 post n (nI i) (nI U) (nI T) (nI N) on 0 fl dp tt pr K V ln ue dc uu ow st w ch no ns nr es nu re oT oP := by
  intro d
  induction d with
  | zero =>
    intro i n ns nr fl hid hn hG
    obtain ⟨m, rfl⟩ : ∃ m, n = m + 1 := ⟨n - 1, by omega⟩
    have e : i = N := by omega
    subst e
    refine br_t (nI_le (Nat.le_refl _) (by omega)) ?_
    exact ⟨i + 1, nx_r2 hU hN hT hln hTV hX (fun ns' nr' fl' ok' dp' tt' pr' oT' oP' h => nx_pub hN (hp ns' nr' fl' ok' dp' tt' pr' oT' oP' h)) i 0 (i + 1) ns nr fl 0 dp tt pr oT oP (by omega) (by omega) (nh_XR0 hG)⟩
  | succ d ih =>
    intro i n ns nr fl hid hn hG
    obtain ⟨m, rfl⟩ : ∃ m, n = m + 1 := ⟨n - 1, by omega⟩
    exact br_f (nI_ge (by omega) (by omega)) (nx_graph hN hTV hX hR (by omega) hG (fun ns' nr' fl' h => nm_r (nI_1 i) (ih (i + 1) m ns' nr' fl' (by omega) (by omega) h)))
theorem nx_b6 {U T N : Nat} {dp tt pr : Int32} {K V ln ue dc ow st w ch ns nr re oT oP : Nat → Int32} {post : Int32 → St2 → Prop} (hU : U ≤ 8) (hN : N ≤ 16) (hT : T ≤ 32) (hln : ∀ u, ∃ l, l ≤ T ∧ ln u = nI l) (hTV : nh_TV N K V)
    (hp : ∀ on ok fl dp tt pr uu no ns nr es nu re oT oP, (∀ u, u < U → nh_ubits K V ln u (uu u)) → nh_OS K V (nh_L ln) U N no → nh_sol (nh_ow K V (nh_L ln) U) (nh_uq K V (nh_L ln) U) (nh_vl K V (nh_L ln) U) N ns nr →
      post (nI (nh_cc (nh_ch ow st w no ns nr) N)) (nI U, nI T, nI N, on, ok, fl, dp, tt, pr, K, V, ln, nh_mx U (nh_E K ln) ue, nh_mx U (nh_C K ln) dc, uu, nh_mx N no ow, nh_mx N ns st, nh_mx N nr w, nh_mx N (nh_ch ow st w no ns nr) ch, no, ns, nr, es, nu, re, oT, oP)) :
    ∀ (d i n : Nat) (on : Int32) (uu no es nu : Nat → Int32), i + d = U → d < n → nh_XI K V (nh_L ln) U N i 0 no es nu on → (∀ u, u < i → nh_ubits K V ln u (uu u)) →
      wX_build_6 post n (nI i) (nI U) (nI T) (nI N) on 0 0 dp tt pr K V ln (nh_mx i (nh_E K ln) ue) (nh_mx i (nh_C K ln) dc) uu ow st w ch no ns nr es nu re oT oP := by
  intro d
  induction d with
  | zero =>
    intro i n on uu no es nu hid hn hX hb
    obtain ⟨m, rfl⟩ : ∃ m, n = m + 1 := ⟨n - 1, by omega⟩
    have e : i = U := by omega
    subst e
    have hF := nh_XIf hX
    refine br_t (nI_le (Nat.le_refl _) (by omega)) (nx_reach hN hF (fun re' hR => ?_))
    exact ⟨N + 1, nx_b31 hU hN hT hln hTV hF hR (fun ns nr fl ok dp tt pr oT oP h => hp on ok fl dp tt pr uu no ns nr es nu re' oT oP hb (fun n hn => ⟨(hF n hn).2.2.1, fun u s hf => ((hF n hn).2.2.2 u s hf).1⟩) h) N 0 (N + 1) ns nr 0 (by omega) (by omega) nh_XG0⟩
  | succ d ih =>
    intro i n on uu no es nu hid hn hX hb
    obtain ⟨m, rfl⟩ : ∃ m, n = m + 1 := ⟨n - 1, by omega⟩
    refine br_f (nI_ge (by omega) (by omega)) (nx_readUnit hU hN hT (by omega) hln hTV hX (fun on' x no' es' nu' h1 h2 => ?_))
    rw [nh_mxs, nh_mxs]
    refine nm_r (nI_1 i) (ih (i + 1) m on' _ no' es' nu' (by omega) (by omega) h2 (fun u hu => ?_))
    by_cases e : u = i
    · rw [e, pk_us]; exact h1
    · rw [pk_un e]; exact hb u (by omega)
theorem nx_build {U T N : Nat} {on ok fl dp tt pr : Int32} {K V ln ue dc uu ow st w ch no ns nr es nu re oT oP : Nat → Int32} {post : Int32 → St2 → Prop} (hU : U ≤ 8) (hN : N ≤ 16) (hT : T ≤ 32) (hln : ∀ u, ∃ l, l ≤ T ∧ ln u = nI l) (hTV : nh_TV N K V)
    (hp : ∀ on ok fl dp tt pr uu no ns nr es nu re oT oP, (∀ u, u < U → nh_ubits K V ln u (uu u)) → nh_OS K V (nh_L ln) U N no → nh_sol (nh_ow K V (nh_L ln) U) (nh_uq K V (nh_L ln) U) (nh_vl K V (nh_L ln) U) N ns nr →
      post (nI (nh_cc (nh_ch ow st w no ns nr) N)) (nI U, nI T, nI N, on, ok, fl, dp, tt, pr, K, V, ln, nh_mx U (nh_E K ln) ue, nh_mx U (nh_C K ln) dc, uu, nh_mx N no ow, nh_mx N ns st, nh_mx N nr w, nh_mx N (nh_ch ow st w no ns nr) ch, no, ns, nr, es, nu, re, oT, oP)) : wpX_build post (nI U, nI T, nI N, on, ok, fl, dp, tt, pr, K, V, ln, ue, dc, uu, ow, st, w, ch, no, ns, nr, es, nu, re, oT, oP) := by
  unfold wpX_build
  refine nx_forget hN (fun no' nu' h => ⟨U + 1, ?_⟩)
  have h1 := nx_b6 (post := post) (U := U) (T := T) (N := N) (ue := ue) (dc := dc) (dp := dp) (tt := tt) (pr := pr) (ns := ns) (nr := nr) (re := re) (oT := oT) (oP := oP) hU hN hT hln hTV hp U 0 (U + 1) 0 uu no' es nu' (by omega) (by omega) (nh_XI0 h rfl) (fun u hu => absurd hu (Nat.not_lt_zero u))
  rw [nh_mx0, nh_mx0] at h1
  exact h1
end
section
/-! 17: the small methods, each side; the shifts of tokens -/
theorem nh_nn {n : Nat} {x : Int32} (hn : n < 2 ^ 31) (h : nI n ≤ x) : ¬ x < 0 := Int32.not_lt.mpr (Int32.le_trans (nI_pos' hn) h)
theorem nx_hu1 {U T N : Nat} {on ok fl dp tt pr : Int32} {K V ln ue dc uu ow st w ch no ns nr es nu re oT oP : Nat → Int32} {post : Int32 → Prop} {u : Nat} (hU : U ≤ 8) (hu : u < U) (hp : post 1) : wpX_hasUnit post (nI U, nI T, nI N, on, ok, fl, dp, tt, pr, K, V, ln, ue, dc, uu, ow, st, w, ch, no, ns, nr, es, nu, re, oT, oP) (nI u) := br_f (nI_pos (by omega)) (br_f (nI_ge hu (by omega)) hp)
theorem nx_hu0 {U T N : Nat} {on ok fl dp tt pr : Int32} {K V ln ue dc uu ow st w ch no ns nr es nu re oT oP : Nat → Int32} {post : Int32 → Prop} {x : Int32} (hU : U ≤ 8) (hx : x < 0 ∨ nI U ≤ x) (hp : post 0) : wpX_hasUnit post (nI U, nI T, nI N, on, ok, fl, dp, tt, pr, K, V, ln, ue, dc, uu, ow, st, w, ch, no, ns, nr, es, nu, re, oT, oP) x := by
  rcases hx with h | h
  · exact br_t h hp
  · exact br_f (nh_nn (by omega) h) (br_t h hp)
theorem nx_hn1 {U T N : Nat} {on ok fl dp tt pr : Int32} {K V ln ue dc uu ow st w ch no ns nr es nu re oT oP : Nat → Int32} {post : Int32 → Prop} {u : Nat} (hN : N ≤ 16) (hu : u < N) (hp : post 1) : wpX_hasName post (nI U, nI T, nI N, on, ok, fl, dp, tt, pr, K, V, ln, ue, dc, uu, ow, st, w, ch, no, ns, nr, es, nu, re, oT, oP) (nI u) := br_f (nI_pos (by omega)) (br_f (nI_ge hu (by omega)) hp)
theorem nx_hn0 {U T N : Nat} {on ok fl dp tt pr : Int32} {K V ln ue dc uu ow st w ch no ns nr es nu re oT oP : Nat → Int32} {post : Int32 → Prop} {x : Int32} (hN : N ≤ 16) (hx : x < 0 ∨ nI N ≤ x) (hp : post 0) : wpX_hasName post (nI U, nI T, nI N, on, ok, fl, dp, tt, pr, K, V, ln, ue, dc, uu, ow, st, w, ch, no, ns, nr, es, nu, re, oT, oP) x := by
  rcases hx with h | h
  · exact br_t h hp
  · exact br_f (nh_nn (by omega) h) (br_t h hp)
/-- a token that may be stored -/
def nh_tk (N : Nat) (k v : Int32) : Prop := ¬ k < 1 ∧ ¬ 9 < k ∧ (k = 2 → ∃ m, m < N ∧ v = nI m)
theorem nx_tk1 {U T N : Nat} {on ok fl dp tt pr : Int32} {K V ln ue dc uu ow st w ch no ns nr es nu re oT oP : Nat → Int32} {post : Int32 → Prop} {k v : Int32} (hN : N ≤ 16) (h : nh_tk N k v) (hp : post 1) : wpX_isToken post (nI U, nI T, nI N, on, ok, fl, dp, tt, pr, K, V, ln, ue, dc, uu, ow, st, w, ch, no, ns, nr, es, nu, re, oT, oP) k v := by
  by_cases k2 : k = 2
  · obtain ⟨m, hm, rfl⟩ := h.2.2 k2
    exact br_t k2 (nx_hn1 hN hm ⟨rfl, hp⟩)
  · exact br_f k2 (br_f h.1 (br_f h.2.1 hp))
theorem nx_tk0 {U T N : Nat} {on ok fl dp tt pr : Int32} {K V ln ue dc uu ow st w ch no ns nr es nu re oT oP : Nat → Int32} {post : Int32 → Prop} {k v : Int32} (hN : N ≤ 16) (h : ¬ nh_tk N k v) (hp : post 0) : wpX_isToken post (nI U, nI T, nI N, on, ok, fl, dp, tt, pr, K, V, ln, ue, dc, uu, ow, st, w, ch, no, ns, nr, es, nu, re, oT, oP) k v := by
  by_cases k2 : k = 2
  · refine br_t k2 ?_
    rcases pk_ix v (n := N) (by omega) with ho | ho | ⟨m, hm, e⟩
    · exact nx_hn0 hN (Or.inl ho) ⟨rfl, hp⟩
    · exact nx_hn0 hN (Or.inr ho) ⟨rfl, hp⟩
    · exact absurd ⟨by rw [k2]; decide, by rw [k2]; decide, fun _ => ⟨m, hm, e⟩⟩ h
  · exact br_f k2 (br_c (fun _ => hp) (fun h1 => br_c (fun _ => hp) (fun h2 => absurd ⟨h1, h2, fun h3 => absurd h3 k2⟩ h)))
def nh_tv (k v : Int32) : Int32 := if k = 1 then v else if k = 2 then v else 0
theorem nh_tvk {N : Nat} {k v : Int32} (h : nh_tk N k v) : k = 2 → ∃ m, m < N ∧ nh_tv k v = nI m := by
  intro k2
  obtain ⟨m, hm, e⟩ := h.2.2 k2
  refine ⟨m, hm, ?_⟩
  rw [nh_tv, if_neg (by rw [k2]; decide), if_pos k2, e]
theorem nx_put {U T N : Nat} {on ok fl dp tt pr : Int32} {K V ln ue dc uu ow st w ch no ns nr es nu re oT oP : Nat → Int32} {post : St2 → Prop} {u i : Nat} {k v : Int32} (hi : u * 32 + i < 256) (hp : post (nI U, nI T, nI N, on, ok, fl, dp, tt, pr, upd K (u * 32 + i) k, upd V (u * 32 + i) (nh_tv k v), ln, ue, dc, uu, ow, st, w, ch, no, ns, nr, es, nu, re, oT, oP)) : wpX_putToken post (nI U, nI T, nI N, on, ok, fl, dp, tt, pr, K, V, ln, ue, dc, uu, ow, st, w, ch, no, ns, nr, es, nu, re, oT, oP) (nI u) (nI i) k v := by
  have hin : vp_in (nI (u * 32 + i)) 256 := vp_in_nI hi (by decide)
  refine nm_r (nh_c32 u i) ⟨hin, ?_⟩
  rw [nI_clamp (n := u * 32 + i) (by omega)]
  refine nm_e ?_
  by_cases k1 : k = 1
  · rw [nh_tv, if_pos k1] at hp
    exact br_t k1 ⟨hin, nm_e hp⟩
  · rw [nh_tv, if_neg k1] at hp
    by_cases k2 : k = 2
    · rw [if_pos k2] at hp
      exact br_f k1 (br_t k2 ⟨hin, nm_e hp⟩)
    · rw [if_neg k2] at hp
      exact br_f k1 (br_f k2 ⟨hin, nm_e hp⟩)
theorem nx_move {U T N : Nat} {on ok fl dp tt pr : Int32} {K V ln ue dc uu ow st w ch no ns nr es nu re oT oP : Nat → Int32} {post : St2 → Prop} {u i j : Nat} (hi : u * 32 + i < 256) (hj : u * 32 + j < 256) (hp : post (nI U, nI T, nI N, on, ok, fl, dp, tt, pr, upd K (u * 32 + j) (K (u * 32 + i)), upd V (u * 32 + j) (V (u * 32 + i)), ln, ue, dc, uu, ow, st, w, ch, no, ns, nr, es, nu, re, oT, oP)) : wpX_moveToken post (nI U, nI T, nI N, on, ok, fl, dp, tt, pr, K, V, ln, ue, dc, uu, ow, st, w, ch, no, ns, nr, es, nu, re, oT, oP) (nI u) (nI i) (nI j) := by
  have h1 : vp_in (nI (u * 32 + i)) 256 := vp_in_nI hi (by decide)
  have h2 : vp_in (nI (u * 32 + j)) 256 := vp_in_nI hj (by decide)
  refine nm_r (nh_e32 u) ?_
  rw [nI_add, nI_add, nI_clamp (n := u * 32 + i) (by omega), nI_clamp (n := u * 32 + j) (by omega)]
  exact ⟨h1, h2, nm_e ⟨h1, h2, nm_e hp⟩⟩
theorem nx_ht1 {U T N : Nat} {on ok fl dp tt pr : Int32} {K V ln ue dc uu ow st w ch no ns nr es nu re oT oP : Nat → Int32} {post : Int32 → Prop} {u i L : Nat} (hU : U ≤ 8) (hu : u < U) (hl : ln u = nI L) (hL : L ≤ 32) (hi : i < L) (hp : post 1) : wpX_holdsToken post (nI U, nI T, nI N, on, ok, fl, dp, tt, pr, K, V, ln, ue, dc, uu, ow, st, w, ch, no, ns, nr, es, nu, re, oT, oP) (nI u) (nI i) := by
  unfold wpX_holdsToken
  refine nx_hu1 hU hu (br_f (by decide) (br_f (nI_pos (by omega)) ⟨vp_in_nI (by omega) (by decide), ?_⟩))
  rw [nI_clamp (n := u) (by omega), hl]
  exact br_f (nI_ge hi (by omega)) hp
theorem nx_ht0 {U T N : Nat} {on ok fl dp tt pr : Int32} {K V ln ue dc uu ow st w ch no ns nr es nu re oT oP : Nat → Int32} {post : Int32 → Prop} {u L : Nat} {x : Int32} (hU : U ≤ 8) (hu : u < U) (hl : ln u = nI L) (hL : L ≤ 32) (hx : x < 0 ∨ nI L ≤ x) (hp : post 0) : wpX_holdsToken post (nI U, nI T, nI N, on, ok, fl, dp, tt, pr, K, V, ln, ue, dc, uu, ow, st, w, ch, no, ns, nr, es, nu, re, oT, oP) (nI u) x := by
  unfold wpX_holdsToken
  refine nx_hu1 hU hu (br_f (by decide) ?_)
  rcases hx with h | h
  · exact br_t h hp
  · refine br_f (nh_nn (by omega) h) ⟨vp_in_nI (by omega) (by decide), ?_⟩
    rw [nI_clamp (n := u) (by omega), hl]
    exact br_t h hp
theorem nx_htu {U T N : Nat} {on ok fl dp tt pr : Int32} {K V ln ue dc uu ow st w ch no ns nr es nu re oT oP : Nat → Int32} {post : Int32 → Prop} {x y : Int32} (hU : U ≤ 8) (hx : x < 0 ∨ nI U ≤ x) (hp : post 0) : wpX_holdsToken post (nI U, nI T, nI N, on, ok, fl, dp, tt, pr, K, V, ln, ue, dc, uu, ow, st, w, ch, no, ns, nr, es, nu, re, oT, oP) x y := by
  unfold wpX_holdsToken
  exact nx_hu0 hU hx (br_t rfl hp)
/-! the shifts: up from the end (insert), down from an index (delete) -/
def nh_sh (b i : Nat) : Nat → (Nat → Int32) → Nat → Int32
  | 0, K => K
  | d + 1, K => nh_sh b i d (upd K (b + (i + d + 1)) (K (b + (i + d))))
def nh_sd (b : Nat) : Nat → Nat → (Nat → Int32) → Nat → Int32
  | 0, _, K => K
  | d + 1, j, K => nh_sd b d (j + 1) (upd K (b + j) (K (b + (j + 1))))
theorem nh_TVc {N : Nat} {K V : Nat → Int32} {p q : Nat} (h : nh_TV N K V) : nh_TV N (upd K p (K q)) (upd V p (V q)) := nh_TVu h (fun e => h q e)
theorem nh_shT {N b i : Nat} : ∀ (d : Nat) (K V : Nat → Int32), nh_TV N K V → nh_TV N (nh_sh b i d K) (nh_sh b i d V) := by
  intro d
  induction d with
  | zero => intro K V h; exact h
  | succ d ih => intro K V h; exact ih _ _ (nh_TVc h)
theorem nh_sdT {N b : Nat} : ∀ (d j : Nat) (K V : Nat → Int32), nh_TV N K V → nh_TV N (nh_sd b d j K) (nh_sd b d j V) := by
  intro d
  induction d with
  | zero => intro j K V h; exact h
  | succ d ih => intro j K V h; exact ih _ _ _ (nh_TVc h)
theorem nx_ins {U T N : Nat} {on ok fl dp tt pr : Int32} {ln ue dc uu ow st w ch no ns nr es nu re oT oP : Nat → Int32} {post : Int32 → St2 → Prop} {u i L : Nat} {k v : Int32} (hu : u < 8) (hl : ln u = nI L) : ∀ (d n : Nat) (K V : Nat → Int32), i + d ≤ 31 → d < n →
    post 1 (nI U, nI T, nI N, on, ok, fl, dp, tt, pr, upd (nh_sh (u * 32) i d K) (u * 32 + i) k, upd (nh_sh (u * 32) i d V) (u * 32 + i) (nh_tv k v), upd ln u (nI (L + 1)), ue, dc, uu, ow, st, w, ch, no, ns, nr, es, nu, re, oT, oP) → wX_insertToken_57 post (nI u) (nI i) k v n (nI (i + d)) (nI U) (nI T) (nI N) on ok fl dp tt pr K V ln ue dc uu ow st w ch no ns nr es nu re oT oP := by
  have h8 : vp_in (nI u) 8 := vp_in_nI hu (by decide)
  intro d
  induction d with
  | zero =>
    intro n K V hd hn hp
    obtain ⟨m, rfl⟩ : ∃ m, n = m + 1 := ⟨n - 1, by omega⟩
    refine br_t (nI_le (by omega) (by omega)) (nx_put (by omega) ⟨h8, h8, ?_⟩)
    rw [nI_clamp (n := u) (by omega), hl]
    exact nm_r (congrArg (upd ln u) (nI_1 L)) hp
  | succ d ih =>
    intro n K V hd hn hp
    obtain ⟨m, rfl⟩ : ∃ m, n = m + 1 := ⟨n - 1, by omega⟩
    refine br_f (nI_ge (by omega) (by omega)) ?_
    rw [show nI (i + (d + 1)) - 1 = nI (i + d) from nI_pred (i + d)]
    exact nx_move (by omega) (by omega) (nm_r (pk_m1 (i + d)) (ih m _ _ (by omega) (by omega) hp))
theorem nx_del {U T N : Nat} {on ok fl dp tt pr : Int32} {ln ue dc uu ow st w ch no ns nr es nu re oT oP : Nat → Int32} {post : Int32 → St2 → Prop} {u L : Nat} (hu : u < 8) (hl : ln u = nI (L + 1)) (hL : L < 32) : ∀ (d j n : Nat) (K V : Nat → Int32), j + d = L → d < n →
    post 1 (nI U, nI T, nI N, on, ok, fl, dp, tt, pr, nh_sd (u * 32) d j K, nh_sd (u * 32) d j V, upd ln u (nI L), ue, dc, uu, ow, st, w, ch, no, ns, nr, es, nu, re, oT, oP) → wX_deleteToken_15 post (nI u) n (nI (j + 1)) (nI U) (nI T) (nI N) on ok fl dp tt pr K V ln ue dc uu ow st w ch no ns nr es nu re oT oP := by
  have h8 : vp_in (nI u) 8 := vp_in_nI hu (by decide)
  intro d
  induction d with
  | zero =>
    intro j n K V hd hn hp
    obtain ⟨m, rfl⟩ : ∃ m, n = m + 1 := ⟨n - 1, by omega⟩
    refine ⟨h8, ?_⟩
    rw [nI_clamp (n := u) (by omega), hl]
    exact br_t (nI_le (by omega) (by omega)) ⟨h8, h8, nm_r (congrArg (upd ln u) (nI_pred L)) hp⟩
  | succ d ih =>
    intro j n K V hd hn hp
    obtain ⟨m, rfl⟩ : ∃ m, n = m + 1 := ⟨n - 1, by omega⟩
    refine ⟨h8, ?_⟩
    rw [nI_clamp (n := u) (by omega), hl, nI_pred j]
    exact br_f (nI_ge (by omega) (by omega)) (nx_move (by omega) (by omega) (nm_r (nI_1 (j + 1)) (ih (j + 1) m _ _ (by omega) (by omega) hp)))
end
section
/-! 13: every pure picture depends only on the tokens below the lengths -/
def nh_ag (U : Nat) (K V K' V' : Nat → Int32) (Ln Ln' : Nat → Nat) : Prop := ∀ u, u < U → Ln u = Ln' u ∧ ∀ i, i < Ln u → K (u * 32 + i) = K' (u * 32 + i) ∧ V (u * 32 + i) = V' (u * 32 + i)
theorem nh_agS {K K' : Nat → Int32} {b : Nat} : ∀ i, (∀ j, j < i → K (b + j) = K' (b + j)) → nh_au K b i = nh_au K' b i := by
  intro i
  induction i with
  | zero => intro _; rfl
  | succ i ih => intro h; rw [nh_au, nh_au, ih (fun j hj => h j (by omega)), h i (by omega)]
theorem nh_agS1 {U u i : Nat} {K V K' V' : Nat → Int32} {Ln Ln' : Nat → Nat} (h : nh_ag U K V K' V' Ln Ln') (hu : u < U) (hi : i ≤ Ln u) : nh_S K (u * 32) i = nh_S K' (u * 32) i := by
  unfold nh_S
  rw [nh_agS i (fun j hj => ((h u hu).2 j (by omega)).1)]
theorem nh_ags {U : Nat} {K V K' V' : Nat → Int32} {Ln Ln' : Nat → Nat} (h : nh_ag U K V K' V' Ln Ln') : nh_ag U K' V' K V Ln' Ln := by
  intro u hu
  have ⟨h1, h2⟩ := h u hu
  exact ⟨h1.symm, fun i hi => ⟨(h2 i (by omega)).1.symm, (h2 i (by omega)).2.symm⟩⟩
theorem nh_agk {U u : Nat} {K V K' V' : Nat → Int32} {Ln Ln' : Nat → Nat} (h : nh_ag U K V K' V' Ln Ln') (hu : u < U) (hk : nh_ok K (u * 32) (Ln u)) : nh_ok K' (u * 32) (Ln' u) := by
  have e := (h u hu).1
  rw [← e]
  exact ⟨fun j hj => by rw [← nh_agS1 h hu hj]; exact hk.1 j hj, by rw [← nh_agS1 h hu (Nat.le_refl _)]; exact hk.2⟩
theorem nh_ager {K K' : Nat → Int32} {b : Nat} : ∀ (d i : Nat), (∀ j, j ≤ i + d → nh_S K b j = nh_S K' b j) → nh_er K b d i = nh_er K' b d i := by
  intro d
  induction d with
  | zero => intro i h; rw [nh_er, nh_er, h i (by omega)]
  | succ d ih => intro i h; rw [nh_er, nh_er, h (i + 1) (by omega), ih (i + 1) (fun j hj => h j (by omega))]
theorem nh_agE {U u : Nat} {K V K' V' ln ln' : Nat → Int32} (h : nh_ag U K V K' V' (nh_L ln) (nh_L ln')) (hu : u < U) : nh_E K ln u = nh_E K' ln' u := by
  unfold nh_E
  rw [← (h u hu).1]
  exact nh_ager _ _ (fun j hj => nh_agS1 h hu (by omega))
theorem nh_agct {K K' : Nat → Int32} {b : Nat} : ∀ i, (∀ j, j < i → K (b + j) = K' (b + j)) → nh_ct K b i = nh_ct K' b i := by
  intro i
  induction i with
  | zero => intro _; rfl
  | succ i ih => intro h; rw [nh_ct, nh_ct, ih (fun j hj => h j (by omega)), h i (by omega)]
theorem nh_agC {U u : Nat} {K V K' V' ln ln' : Nat → Int32} (h : nh_ag U K V K' V' (nh_L ln) (nh_L ln')) (hu : u < U) : nh_C K ln u = nh_C K' ln' u := by
  unfold nh_C
  rw [nh_agE h hu, ← (h u hu).1, nh_agct (nh_L ln u) (fun j hj => ((h u hu).2 j hj).1)]
theorem nh_aguu {U u m : Nat} {K V K' V' : Nat → Int32} {Ln Ln' : Nat → Nat} (h : nh_ag U K V K' V' Ln Ln') (hu : u < U) (hm : nh_uu K V (u * 32) (Ln u) m) : nh_uu K' V' (u * 32) (Ln' u) m := by
  obtain ⟨j, h1, h2, h3, h4⟩ := hm
  have ⟨e1, e2⟩ := (h u hu).2 j h1
  exact ⟨j, by rw [← (h u hu).1]; exact h1, by rw [← nh_agS1 h hu (by omega)]; exact h2, by rw [← e1]; exact h3, by rw [← e2]; exact h4⟩
theorem nh_agdf {U u i n : Nat} {K V K' V' : Nat → Int32} {Ln Ln' : Nat → Nat} (h : nh_ag U K V K' V' Ln Ln') (hu : u < U) (hd : nh_df K V Ln u i n) : nh_df K' V' Ln' u i n := by
  obtain ⟨h1, h2, h3, h4⟩ := hd
  exact ⟨nh_agk h hu h1, by rw [← (h u hu).1]; exact h2, by rw [← nh_agS1 h hu (by omega)]; exact h3, by rw [← ((h u hu).2 i h2).2]; exact h4⟩
theorem nh_agfs {U u i n : Nat} {K V K' V' : Nat → Int32} {Ln Ln' : Nat → Nat} (h : nh_ag U K V K' V' Ln Ln') (hf : nh_fs K V Ln U n u i) : nh_fs K' V' Ln' U n u i := by
  obtain ⟨h1, h2, h3⟩ := hf
  refine ⟨h1, nh_agdf h h1 h2, fun u' i' hd hb => ?_⟩
  have hu' : u' < U := by unfold nh_bf at hb; omega
  exact h3 u' i' (nh_agdf (nh_ags h) hu' hd) hb
theorem nh_agus {U u s j m : Nat} {K V K' V' : Nat → Int32} {Ln Ln' : Nat → Nat} (h : nh_ag U K V K' V' Ln Ln') (hu : u < U) (hs : nh_us K V Ln u s j m) : nh_us K' V' Ln' u s j m := by
  obtain ⟨h1, h2, h3, h4, h5⟩ := hs
  exact ⟨h1, by rw [← (h u hu).1]; exact h2, fun t ht ht2 => by rw [← ((h u hu).2 t (by omega)).1]; exact h3 t ht ht2, by rw [← ((h u hu).2 j h2).1]; exact h4, by rw [← ((h u hu).2 j h2).2]; exact h5⟩
theorem nh_agow {U : Nat} {K V K' V' : Nat → Int32} {Ln Ln' : Nat → Nat} (h : nh_ag U K V K' V' Ln Ln') : nh_ow K V Ln U = nh_ow K' V' Ln' U := by
  funext n
  exact propext ⟨fun ⟨u, s, hf⟩ => ⟨u, s, nh_agfs h hf⟩, fun ⟨u, s, hf⟩ => ⟨u, s, nh_agfs (nh_ags h) hf⟩⟩
theorem nh_aguq {U : Nat} {K V K' V' : Nat → Int32} {Ln Ln' : Nat → Nat} (h : nh_ag U K V K' V' Ln Ln') : nh_uq K V Ln U = nh_uq K' V' Ln' U := by
  funext n m
  exact propext ⟨fun ⟨u, s, j, hf, hu⟩ => ⟨u, s, j, nh_agfs h hf, nh_agus h hf.1 hu⟩, fun ⟨u, s, j, hf, hu⟩ => ⟨u, s, j, nh_agfs (nh_ags h) hf, nh_agus (nh_ags h) hf.1 hu⟩⟩
theorem nh_agpe {K V K' V' w : Nat → Int32} : ∀ (f p : Nat) (af : Bool) (d : Nat) (t q : Int32) (oT oP : Nat → Int32), (∀ j, p ≤ j → j < p + f → K j = K' j ∧ V j = V' j) → nh_pe K V w f p af d t q oT oP = nh_pe K' V' w f p af d t q oT oP := by
  intro f
  induction f with
  | zero => intros; rfl
  | succ f ih =>
    intro p af d t q oT oP h
    have e := fun af d t q oT oP => ih (p + 1) af d t q oT oP (fun j h1 h2 => h j (by omega) (by omega))
    have ⟨h1, h2⟩ := h p (Nat.le_refl p) (by omega)
    rw [nh_peS, nh_peS, h1, h2]
    simp only [e]
theorem nh_agev {U u s : Nat} {K V K' V' w : Nat → Int32} {Ln Ln' : Nat → Nat} (h : nh_ag U K V K' V' Ln Ln') (hu : u < U) : nh_ev K V Ln w u s = nh_ev K' V' Ln' w u s := by
  unfold nh_ev
  rw [← (h u hu).1]
  refine nh_agpe _ _ _ _ _ _ _ _ (fun j h1 h2 => ?_)
  have h3 := (h u hu).2 (j - u * 32) (by omega)
  rw [show u * 32 + (j - u * 32) = j by omega] at h3
  exact h3
theorem nh_agvl {U : Nat} {K V K' V' : Nat → Int32} {Ln Ln' : Nat → Nat} (h : nh_ag U K V K' V' Ln Ln') : nh_vl K V Ln U = nh_vl K' V' Ln' U := by
  funext n w x
  exact propext ⟨fun ⟨u, s, hf, he⟩ => ⟨u, s, nh_agfs h hf, he.trans (nh_agev h hf.1)⟩, fun ⟨u, s, hf, he⟩ => ⟨u, s, nh_agfs (nh_ags h) hf, he.trans (nh_agev (nh_ags h) hf.1)⟩⟩
end
section
/-! 14: tokens stay valid under every edit, whatever its arguments -/
theorem nh_shq (b i : Nat) : ∀ (d : Nat) (K : Nat → Int32) (q : Nat), nh_sh b i d K q = K (if b + i < q ∧ q ≤ b + i + d then q - 1 else q) := by
  intro d
  induction d with
  | zero => intro K q; rw [if_neg (by omega)]; rfl
  | succ d ih =>
    intro K q
    rw [nh_sh, ih]
    by_cases h1 : b + i < q ∧ q ≤ b + i + d
    · rw [if_pos h1, if_pos (by omega), pk_un (by omega)]
    · rw [if_neg h1]
      by_cases h2 : q = b + (i + d + 1)
      · rw [h2, pk_us, if_pos (by omega)]
        exact congrArg K (by omega)
      · rw [pk_un h2, if_neg (by omega)]
theorem nh_sdq (b : Nat) : ∀ (d j : Nat) (K : Nat → Int32) (q : Nat), nh_sd b d j K q = K (if b + j ≤ q ∧ q < b + j + d then q + 1 else q) := by
  intro d
  induction d with
  | zero => intro j K q; rw [if_neg (by omega)]; rfl
  | succ d ih =>
    intro j K q
    rw [nh_sd, ih]
    by_cases h1 : b + (j + 1) ≤ q ∧ q < b + (j + 1) + d
    · rw [if_pos h1, if_pos (by omega), pk_un (by omega)]
    · rw [if_neg h1]
      by_cases h2 : q = b + j
      · rw [h2, pk_us, if_pos (by omega)]
        exact congrArg K (by omega)
      · rw [pk_un h2, if_neg (by omega)]
theorem nh_Lu {ln : Nat → Int32} {u l u' : Nat} (hl : l < 2 ^ 31) : nh_L (upd ln u (nI l)) u' = if u' = u then l else nh_L ln u' := by
  unfold nh_L
  by_cases e : u' = u
  · rw [if_pos e, e, pk_us]; exact nI_clamp hl
  · rw [if_neg e, pk_un e]
def nh_kd (k : Int32) : Prop := ¬ k < 1 ∧ ¬ 9 < k
def nh_ZV (K V : Nat → Int32) : Prop := ∀ p, ¬ K p = 1 → ¬ K p = 2 → V p = 0
def nh_KV (U : Nat) (K ln : Nat → Int32) : Prop := ∀ u i, u < U → i < nh_L ln u → nh_kd (K (u * 32 + i))
def nh_PV (U T N : Nat) (K V ln : Nat → Int32) : Prop := (∀ u, ∃ l, l ≤ T ∧ ln u = nI l) ∧ nh_TV N K V ∧ nh_ZV K V ∧ nh_KV U K ln
theorem nh_lnu {T u l : Nat} {ln : Nat → Int32} (h : ∀ u, ∃ l, l ≤ T ∧ ln u = nI l) (hl : l ≤ T) : ∀ u', ∃ l', l' ≤ T ∧ upd ln u (nI l) u' = nI l' := by
  intro u'
  by_cases e : u' = u
  · rw [e, pk_us]; exact ⟨l, hl, rfl⟩
  · rw [pk_un e]; exact h u'
theorem nh_ZVu {K V : Nat → Int32} {p : Nat} {k v : Int32} (h : nh_ZV K V) : nh_ZV (upd K p k) (upd V p (nh_tv k v)) := by
  intro q h1 h2
  by_cases e : q = p
  · rw [e, pk_us] at h1 h2
    rw [e, pk_us, nh_tv, if_neg h1, if_neg h2]
  · rw [pk_un e] at h1 h2
    rw [pk_un e]
    exact h q h1 h2
/-- a token stored at (u, i) -/
theorem nh_PVp {U T N u i : Nat} {K V ln ln' : Nat → Int32} {k v : Int32} (h : nh_PV U T N K V ln) (htk : nh_tk N k v) (hln : ∀ u, ∃ l, l ≤ T ∧ ln' u = nI l) (hc : ∀ u' i', u' < U → i' < nh_L ln' u' → u' * 32 + i' = u * 32 + i ∨ nh_kd (K (u' * 32 + i'))) :
    nh_PV U T N (upd K (u * 32 + i) k) (upd V (u * 32 + i) (nh_tv k v)) ln' := by
  refine ⟨hln, nh_TVu h.2.1 (nh_tvk htk), nh_ZVu h.2.2.1, fun u' i' hu' hi' => ?_⟩
  by_cases e : u' * 32 + i' = u * 32 + i
  · rw [e, pk_us]; exact ⟨htk.1, htk.2.1⟩
  · rw [pk_un e]
    exact (hc u' i' hu' hi').elim (fun h => absurd h e) id
theorem nl_append {U T N : Nat} {on ok fl dp tt pr : Int32} {K V ln ue dc uu ow st w ch no ns nr es nu re oT oP : Nat → Int32} {post : Int32 → St2 → Prop} {v1 v2 v3 : Int32} (hU : U ≤ 8) (hT : T ≤ 32) (hN : N ≤ 16) (h : nh_PV U T N K V ln) (hp : ∀ r K' V' ln', nh_PV U T N K' V' ln' → post r (nI U, nI T, nI N, on, ok, fl, dp, tt, pr, K', V', ln', ue, dc, uu, ow, st, w, ch, no, ns, nr, es, nu, re, oT, oP)) : wpX_append post (nI U, nI T, nI N, on, ok, fl, dp, tt, pr, K, V, ln, ue, dc, uu, ow, st, w, ch, no, ns, nr, es, nu, re, oT, oP) v1 v2 v3 := by
  unfold wpX_append
  rcases pk_ix v1 (n := U) (by omega) with ho | ho | ⟨u, hu, rfl⟩
  · exact nx_hu0 hU (Or.inl ho) (br_t rfl (hp _ _ _ _ h))
  · exact nx_hu0 hU (Or.inr ho) (br_t rfl (hp _ _ _ _ h))
  · have h8 : vp_in (nI u) 8 := vp_in_nI (by omega) (by decide)
    obtain ⟨L, hL, hl⟩ := h.1 u
    refine nx_hu1 hU hu (br_f (by decide) ?_)
    by_cases htk : nh_tk N v2 v3
    · refine nx_tk1 hN htk (br_f (by decide) ⟨h8, ?_⟩)
      rw [nI_clamp (n := u) (by omega), hl]
      by_cases hLT : L < T
      · refine br_t (nI_lt hLT (by omega)) ⟨h8, nx_put (by omega) ⟨h8, h8, ?_⟩⟩
        rw [hl]
        refine nm_r (congrArg (upd ln u) (nI_1 L)) (hp _ _ _ _ (nh_PVp h htk (nh_lnu h.1 (by omega)) (fun u' i' hu' hi' => ?_)))
        rw [nh_Lu (by omega)] at hi'
        have e : nh_L ln u = L := by unfold nh_L; rw [hl]; exact nI_clamp (by omega)
        by_cases e1 : u' = u
        · subst e1
          rw [if_pos rfl] at hi'
          by_cases e2 : i' = L
          · rw [e2]; exact Or.inl rfl
          · exact Or.inr (h.2.2.2 u' i' hu' (by omega))
        · rw [if_neg e1] at hi'; exact Or.inr (h.2.2.2 u' i' hu' hi')
      · exact br_f (nI_nlt (by omega) (by omega)) (hp _ _ _ _ h)
    · exact nx_tk0 hN htk (br_t rfl (hp _ _ _ _ h))
/-- an append that succeeds -/
theorem nl_appendS {U T N : Nat} {on ok fl dp tt pr : Int32} {K V ln ue dc uu ow st w ch no ns nr es nu re oT oP : Nat → Int32} {post : Int32 → St2 → Prop} {u L : Nat} {k v : Int32} (hU : U ≤ 8) (hT : T ≤ 32) (hN : N ≤ 16) (hu : u < U) (hl : ln u = nI L) (hLT : L < T) (htk : nh_tk N k v)
    (hp : post 1 (nI U, nI T, nI N, on, ok, fl, dp, tt, pr, upd K (u * 32 + L) k, upd V (u * 32 + L) (nh_tv k v), upd ln u (nI (L + 1)), ue, dc, uu, ow, st, w, ch, no, ns, nr, es, nu, re, oT, oP)) : wpX_append post (nI U, nI T, nI N, on, ok, fl, dp, tt, pr, K, V, ln, ue, dc, uu, ow, st, w, ch, no, ns, nr, es, nu, re, oT, oP) (nI u) k v := by
  unfold wpX_append
  have h8 : vp_in (nI u) 8 := vp_in_nI (by omega) (by decide)
  refine nx_hu1 hU hu (br_f (by decide) (nx_tk1 hN htk (br_f (by decide) ⟨h8, ?_⟩)))
  rw [nI_clamp (n := u) (by omega), hl]
  refine br_t (nI_lt hLT (by omega)) ⟨h8, nx_put (by omega) ⟨h8, h8, ?_⟩⟩
  rw [hl]
  exact nm_r (congrArg (upd ln u) (nI_1 L)) hp
theorem nl_set {U T N : Nat} {on ok fl dp tt pr : Int32} {K V ln ue dc uu ow st w ch no ns nr es nu re oT oP : Nat → Int32} {post : Int32 → St2 → Prop} {v1 v2 v3 v4 : Int32} (hU : U ≤ 8) (hT : T ≤ 32) (hN : N ≤ 16) (h : nh_PV U T N K V ln) (hp : ∀ r K' V' ln', nh_PV U T N K' V' ln' → post r (nI U, nI T, nI N, on, ok, fl, dp, tt, pr, K', V', ln', ue, dc, uu, ow, st, w, ch, no, ns, nr, es, nu, re, oT, oP)) : wpX_setToken post (nI U, nI T, nI N, on, ok, fl, dp, tt, pr, K, V, ln, ue, dc, uu, ow, st, w, ch, no, ns, nr, es, nu, re, oT, oP) v1 v2 v3 v4 := by
  unfold wpX_setToken
  rcases pk_ix v1 (n := U) (by omega) with ho | ho | ⟨u, hu, rfl⟩
  · exact nx_htu hU (Or.inl ho) (br_t rfl (hp _ _ _ _ h))
  · exact nx_htu hU (Or.inr ho) (br_t rfl (hp _ _ _ _ h))
  · obtain ⟨L, hL, hl⟩ := h.1 u
    rcases pk_ix v2 (n := L) (by omega) with ho | ho | ⟨i, hi, rfl⟩
    · exact nx_ht0 hU hu hl (by omega) (Or.inl ho) (br_t rfl (hp _ _ _ _ h))
    · exact nx_ht0 hU hu hl (by omega) (Or.inr ho) (br_t rfl (hp _ _ _ _ h))
    · refine nx_ht1 hU hu hl (by omega) hi (br_f (by decide) ?_)
      by_cases htk : nh_tk N v3 v4
      · exact nx_tk1 hN htk (br_f (by decide) (nx_put (by omega) (hp _ _ _ _ (nh_PVp h htk h.1 (fun u' i' hu' hi' => Or.inr (h.2.2.2 u' i' hu' hi'))))))
      · exact nx_tk0 hN htk (br_t rfl (hp _ _ _ _ h))
theorem nh_rTV {N : Nat} {K V K' V' : Nat → Int32} (s : Nat → Nat) (h : nh_TV N K V) (hK : ∀ q, K' q = K (s q)) (hV : ∀ q, V' q = V (s q)) : nh_TV N K' V' := by
  intro q hq
  rw [hK] at hq
  rw [hV]
  exact h _ hq
theorem nh_rZV {K V K' V' : Nat → Int32} (s : Nat → Nat) (h : nh_ZV K V) (hK : ∀ q, K' q = K (s q)) (hV : ∀ q, V' q = V (s q)) : nh_ZV K' V' := by
  intro q h1 h2
  rw [hK] at h1 h2
  rw [hV]
  exact h _ h1 h2
theorem nl_ins {U T N : Nat} {on ok fl dp tt pr : Int32} {K V ln ue dc uu ow st w ch no ns nr es nu re oT oP : Nat → Int32} {post : Int32 → St2 → Prop} {v1 v2 v3 v4 : Int32} (hU : U ≤ 8) (hT : T ≤ 32) (hN : N ≤ 16) (h : nh_PV U T N K V ln) (hp : ∀ r K' V' ln', nh_PV U T N K' V' ln' → post r (nI U, nI T, nI N, on, ok, fl, dp, tt, pr, K', V', ln', ue, dc, uu, ow, st, w, ch, no, ns, nr, es, nu, re, oT, oP)) : wpX_insertToken post (nI U, nI T, nI N, on, ok, fl, dp, tt, pr, K, V, ln, ue, dc, uu, ow, st, w, ch, no, ns, nr, es, nu, re, oT, oP) v1 v2 v3 v4 := by
  unfold wpX_insertToken
  rcases pk_ix v1 (n := U) (by omega) with ho | ho | ⟨u, hu, rfl⟩
  · exact nx_hu0 hU (Or.inl ho) (br_t rfl (hp _ _ _ _ h))
  · exact nx_hu0 hU (Or.inr ho) (br_t rfl (hp _ _ _ _ h))
  · have h8 : vp_in (nI u) 8 := vp_in_nI (by omega) (by decide)
    have hcu : (nI u).toNatClampNeg = u := nI_clamp (by omega)
    obtain ⟨L, hL, hl⟩ := h.1 u
    refine nx_hu1 hU hu (br_f (by decide) ?_)
    rcases pk_ix v2 (n := L + 1) (by omega) with ho | ho | ⟨i, hi, rfl⟩
    · exact br_t ho (hp _ _ _ _ h)
    · have hnle : ¬ v2 ≤ nI L := fun h' => nI_ge (Nat.lt_succ_self L) (by omega) (Int32.le_trans ho h')
      refine br_f (nh_nn (by omega) ho) ⟨h8, ?_⟩
      rw [hcu, hl]
      exact br_f hnle (hp _ _ _ _ h)
    · refine br_f (nI_pos (by omega)) ⟨h8, ?_⟩
      rw [hcu, hl]
      refine br_t (nI_le (by omega) (by omega)) ?_
      by_cases htk : nh_tk N v3 v4
      · refine nx_tk1 hN htk (br_f (by decide) ⟨h8, ?_⟩)
        by_cases hLT : L < T
        · refine br_t (nI_lt hLT (by omega)) ⟨h8, nm_e ⟨L + 1, ?_⟩⟩
          obtain ⟨d, rfl⟩ : ∃ d, L = i + d := ⟨L - i, by omega⟩
          have e : nh_L ln u = i + d := by unfold nh_L; rw [hl]; exact nI_clamp (by omega)
          refine nx_ins (by omega) hl d _ K V (by omega) (by omega) (hp _ _ _ _ ⟨nh_lnu h.1 (by omega), nh_TVu (nh_rTV _ h.2.1 (nh_shq _ _ d K) (nh_shq _ _ d V)) (nh_tvk htk), nh_ZVu (nh_rZV _ h.2.2.1 (nh_shq _ _ d K) (nh_shq _ _ d V)), fun u' i' hu' hi' => ?_⟩)
          rw [nh_Lu (by omega)] at hi'
          by_cases e1 : u' = u
          · subst e1
            rw [if_pos rfl] at hi'
            by_cases e2 : i' = i
            · rw [e2, pk_us]; exact ⟨htk.1, htk.2.1⟩
            · rw [pk_un (by omega), nh_shq]
              by_cases e3 : i' < i
              · rw [if_neg (by omega)]; exact h.2.2.2 u' i' hu' (by omega)
              · rw [if_pos (by omega), show u' * 32 + i' - 1 = u' * 32 + (i' - 1) by omega]; exact h.2.2.2 u' (i' - 1) hu' (by omega)
          · rw [if_neg e1] at hi'
            obtain ⟨l2, hl2, hl3⟩ := h.1 u'
            have e2 : nh_L ln u' = l2 := by unfold nh_L; rw [hl3]; exact nI_clamp (by omega)
            rw [pk_un (by omega), nh_shq, if_neg (by omega)]
            exact h.2.2.2 u' i' hu' hi'
        · exact br_f (nI_nlt (by omega) (by omega)) (hp _ _ _ _ h)
      · exact nx_tk0 hN htk (br_t rfl (hp _ _ _ _ h))
theorem nl_del {U T N : Nat} {on ok fl dp tt pr : Int32} {K V ln ue dc uu ow st w ch no ns nr es nu re oT oP : Nat → Int32} {post : Int32 → St2 → Prop} {v1 v2 : Int32} (hU : U ≤ 8) (hT : T ≤ 32) (hN : N ≤ 16) (h : nh_PV U T N K V ln) (hp : ∀ r K' V' ln', nh_PV U T N K' V' ln' → post r (nI U, nI T, nI N, on, ok, fl, dp, tt, pr, K', V', ln', ue, dc, uu, ow, st, w, ch, no, ns, nr, es, nu, re, oT, oP)) : wpX_deleteToken post (nI U, nI T, nI N, on, ok, fl, dp, tt, pr, K, V, ln, ue, dc, uu, ow, st, w, ch, no, ns, nr, es, nu, re, oT, oP) v1 v2 := by
  unfold wpX_deleteToken
  rcases pk_ix v1 (n := U) (by omega) with ho | ho | ⟨u, hu, rfl⟩
  · exact nx_htu hU (Or.inl ho) (br_t rfl (hp _ _ _ _ h))
  · exact nx_htu hU (Or.inr ho) (br_t rfl (hp _ _ _ _ h))
  · obtain ⟨L, hL, hl⟩ := h.1 u
    rcases pk_ix v2 (n := L) (by omega) with ho | ho | ⟨i, hi, rfl⟩
    · exact nx_ht0 hU hu hl (by omega) (Or.inl ho) (br_t rfl (hp _ _ _ _ h))
    · exact nx_ht0 hU hu hl (by omega) (Or.inr ho) (br_t rfl (hp _ _ _ _ h))
    · refine nx_ht1 hU hu hl (by omega) hi (br_f (by decide) (nm_r (nI_1 i) ⟨L + 1, ?_⟩))
      obtain ⟨d, rfl⟩ : ∃ d, L = i + d + 1 := ⟨L - i - 1, by omega⟩
      have e : nh_L ln u = i + d + 1 := by unfold nh_L; rw [hl]; exact nI_clamp (by omega)
      refine nx_del (by omega) hl (by omega) d i _ K V rfl (by omega) (hp _ _ _ _ ⟨nh_lnu h.1 (by omega), nh_rTV _ h.2.1 (nh_sdq _ d i K) (nh_sdq _ d i V), nh_rZV _ h.2.2.1 (nh_sdq _ d i K) (nh_sdq _ d i V), fun u' i' hu' hi' => ?_⟩)
      rw [nh_Lu (by omega)] at hi'
      by_cases e1 : u' = u
      · subst e1
        rw [if_pos rfl] at hi'
        rw [nh_sdq]
        by_cases e3 : i' < i
        · rw [if_neg (by omega)]; exact h.2.2.2 u' i' hu' (by omega)
        · rw [if_pos (by omega), show u' * 32 + i' + 1 = u' * 32 + (i' + 1) by omega]; exact h.2.2.2 u' (i' + 1) hu' (by omega)
      · rw [if_neg e1] at hi'
        obtain ⟨l2, hl2, hl3⟩ := h.1 u'
        have e2 : nh_L ln u' = l2 := by unfold nh_L; rw [hl3]; exact nI_clamp (by omega)
        rw [nh_sdq, if_neg (by omega)]
        exact h.2.2.2 u' i' hu' hi'
theorem nl_clear {U T N : Nat} {on ok fl dp tt pr : Int32} {K V ln ue dc uu ow st w ch no ns nr es nu re oT oP : Nat → Int32} {post : Int32 → St2 → Prop} {v1 : Int32} (hU : U ≤ 8) (h : nh_PV U T N K V ln) (hp : ∀ r K' V' ln', nh_PV U T N K' V' ln' → post r (nI U, nI T, nI N, on, ok, fl, dp, tt, pr, K', V', ln', ue, dc, uu, ow, st, w, ch, no, ns, nr, es, nu, re, oT, oP)) : wpX_clearUnit post (nI U, nI T, nI N, on, ok, fl, dp, tt, pr, K, V, ln, ue, dc, uu, ow, st, w, ch, no, ns, nr, es, nu, re, oT, oP) v1 := by
  unfold wpX_clearUnit
  rcases pk_ix v1 (n := U) (by omega) with ho | ho | ⟨u, hu, rfl⟩
  · exact nx_hu0 hU (Or.inl ho) (br_t rfl (hp _ _ _ _ h))
  · exact nx_hu0 hU (Or.inr ho) (br_t rfl (hp _ _ _ _ h))
  · refine nx_hu1 hU hu (br_f (by decide) ⟨vp_in_nI (by omega) (by decide), ?_⟩)
    rw [nI_clamp (n := u) (by omega)]
    refine nm_e (hp _ _ _ _ ⟨nh_lnu (l := 0) h.1 (Nat.zero_le T), h.2.1, h.2.2.1, fun u' i' hu' hi' => ?_⟩)
    have hi2 : i' < nh_L (upd ln u (nI 0)) u' := hi'
    rw [nh_Lu (by omega)] at hi2
    by_cases e1 : u' = u
    · rw [if_pos e1] at hi2; omega
    · rw [if_neg e1] at hi2; exact h.2.2.2 u' i' hu' hi2
theorem nl_build {U T N : Nat} {on ok fl dp tt pr : Int32} {K V ln ue dc uu ow st w ch no ns nr es nu re oT oP : Nat → Int32} {post : Int32 → St2 → Prop} (hU : U ≤ 8) (hT : T ≤ 32) (hN : N ≤ 16) (h : nh_PV U T N K V ln) (hp : ∀ r on ok fl dp tt pr ue dc uu ow st w ch no ns nr es nu re oT oP, post r (nI U, nI T, nI N, on, ok, fl, dp, tt, pr, K, V, ln, ue, dc, uu, ow, st, w, ch, no, ns, nr, es, nu, re, oT, oP)) : wpX_build post (nI U, nI T, nI N, on, ok, fl, dp, tt, pr, K, V, ln, ue, dc, uu, ow, st, w, ch, no, ns, nr, es, nu, re, oT, oP) :=
  nx_build hU hN hT h.1 h.2.1 (fun on' ok' fl' dp' tt' pr' uu' no' ns' nr' es' nu' re' oT' oP' _ _ _ => hp _ _ _ _ _ _ _ _ _ _ _ _ _ _ _ _ _ _ _ _ _ _)
theorem nl_len {U T N : Nat} {on ok fl dp tt pr : Int32} {K V ln ue dc uu ow st w ch no ns nr es nu re oT oP : Nat → Int32} {post : Int32 → Prop} {v : Int32} (hU : U ≤ 8) (hln : ∀ u, ∃ l, l ≤ T ∧ ln u = nI l) (hp : ∀ r, (r = -1 ∨ ∃ l, l ≤ T ∧ r = nI l) → post r) : wpX_getLength post (nI U, nI T, nI N, on, ok, fl, dp, tt, pr, K, V, ln, ue, dc, uu, ow, st, w, ch, no, ns, nr, es, nu, re, oT, oP) v := by
  unfold wpX_getLength
  rcases pk_ix v (n := U) (by omega) with ho | ho | ⟨u, hu, rfl⟩
  · exact nx_hu0 hU (Or.inl ho) (br_t rfl (hp _ (Or.inl rfl)))
  · exact nx_hu0 hU (Or.inr ho) (br_t rfl (hp _ (Or.inl rfl)))
  · exact nx_hu1 hU hu (br_f (by decide) ⟨vp_in_nI (by omega) (by decide), hp _ (Or.inr (hln _))⟩)
end
section
/-! 15: the law's small functions; construction; queries compared -/
theorem nl_mod {post : Int32 → Prop} {p d : Int32} (hd : ¬ d = 0) (hp : ∀ r, post r) : wpL_mod post () p d := ⟨hd, fun x _ => br_c (fun _ => hp _) (fun _ => hp _)⟩
theorem nh_nI {x : Int32} {m : Nat} (h0 : 0 ≤ x.toInt) (hm : x.toInt < m) : ∃ j, j < m ∧ x = nI j := by
  have hn : ¬ x < 0 := by
    rw [Int32.lt_iff_toInt_lt, show (0 : Int32).toInt = 0 from by decide]
    omega
  obtain ⟨j, hj, e⟩ := nI_of hn
  rw [e, nI_toInt hj] at hm
  exact ⟨j, by omega, e⟩
theorem nl_modr {post : Int32 → Prop} {p : Int32} {m : Nat} (h0 : 0 < m) (hm : m < 2 ^ 30) (hp : ∀ j, j < m → post (nI j)) : wpL_mod post () p (nI m) := by
  have hmI : (nI m).toInt = (m : Int) := nI_toInt (by omega)
  refine ⟨nI_ne0 h0 (by omega), fun x ex => ?_⟩
  have hb := tmod_bounds (a := p.toInt) (M := (m : Int)) (by omega)
  have hx : x.toInt = p.toInt.tmod m := by rw [ex, rem_toInt, hmI]
  rw [← hx] at hb
  refine br_c (fun h => ?_) (fun h => ?_)
  · rw [Int32.le_iff_toInt_le, show (0 : Int32).toInt = 0 from by decide] at h
    obtain ⟨j, hj, e⟩ := nh_nI h hb.2
    rw [e]
    exact hp j hj
  · rw [Int32.le_iff_toInt_le, show (0 : Int32).toInt = 0 from by decide] at h
    have hs : (x + nI m).toInt = x.toInt + m := by
      rw [Int32.toInt_add, hmI]
      exact Int.bmod_eq_of_le (by omega) (by omega)
    obtain ⟨j, hj, e⟩ := nh_nI (x := x + nI m) (m := m) (by omega) (by omega)
    rw [e]
    exact hp j hj
theorem nl_cell {post : Int32 → Prop} {L q : Nat} {xs : Nat → Int32} (hL : L ≤ 260) (hq : q < 2 ^ 31) (hp : ∀ r, post r) : wpL_cell post L xs () (nI q) := by
  by_cases h : L ≤ q
  · exact br_t (nI_le h hq) (hp _)
  · exact br_f (nI_ge (by omega) (by omega)) ⟨vp_in_nI (by omega) (by omega), hp _⟩
theorem nl_pk {post : Int32 → Prop} {p : Int32} (hp : ∀ r, post r) : wpL_pk post () p := br_c (fun _ => hp _) (fun _ => hp _)
theorem nl_pv {post : Int32 → Prop} {p d : Int32} (hd : ¬ d = 0) (hp : ∀ r, post r) : wpL_pv post () p d := br_c (fun _ => hp _) (fun _ => nl_mod hd hp)
theorem nl_binop {post : Int32 → Prop} {p : Int32} (hp : ∀ r, post r) : wpL_binop post () p := br_c (fun _ => hp _) (fun _ => br_c (fun _ => hp _) (fun _ => hp _))
theorem nl_clamp (p : Int32) (lo hi : Nat) (h : lo ≤ hi) (hh : hi < 2 ^ 31) : ∃ c, lo ≤ c ∧ c ≤ hi ∧ (∀ post : Int32 → Prop, post (nI c) → wpX_clamp post () p (nI lo) (nI hi)) ∧ (∀ post : Int32 → Prop, post (nI c) → wpL_clamp post () p (nI lo) (nI hi)) := by
  by_cases h1 : nI lo ≤ p
  · by_cases h2 : p ≤ nI hi
    · obtain ⟨c, hc, rfl⟩ := nI_of2 (nI_toInt hh) (nh_nn (by omega) h1) h2
      exact ⟨c, (nI_leI (by omega) (by omega)).mp h1, hc, fun post hp => br_t h1 (br_t h2 hp), fun A hp => br_t h1 (br_t h2 hp)⟩
    · exact ⟨hi, h, Nat.le_refl hi, fun post hp => br_t h1 (br_f h2 hp), fun A hp => br_t h1 (br_f h2 hp)⟩
  · exact ⟨lo, Nat.le_refl lo, h, fun post hp => br_f h1 hp, fun A hp => br_f h1 hp⟩
def nh_m1 : Nat → Int32 := fun _ => -1
theorem nl_i211 {U T N : Nat} {on ok fl dp tt pr : Int32} {K V ln ue dc uu ow st w ch no ns nr es nu re oT oP : Nat → Int32} {post : St2 → Prop} {mc ms kc ks : Nat} (hp : post (nI U, nI T, nI N, on, ok, fl, dp, tt, pr, K, V, ln, ue, dc, uu, nh_mx 16 nh_m1 ow, nh_mx 16 nh_z0 st, w, ch, no, ns, nr, es, nu, re, oT, oP)) : ∃ n, wX_init_211 post mc ms kc ks (nI U) (nI T) (nI N) on ok fl dp tt pr n 0 K V ln ue dc uu ow st w ch no ns nr es nu re oT oP := by
  have key : ∀ (d i n : Nat), i + d = 16 → d < n → wX_init_211 post mc ms kc ks (nI U) (nI T) (nI N) on ok fl dp tt pr n (nI i) K V ln ue dc uu (nh_mx i nh_m1 ow) (nh_mx i nh_z0 st) w ch no ns nr es nu re oT oP := by
    intro d
    induction d with
    | zero =>
      intro i n hi hn
      obtain ⟨m, rfl⟩ : ∃ m, n = m + 1 := ⟨n - 1, by omega⟩
      have e : i = 16 := by omega
      subst e
      exact br_t (nI_le (a := 16) (Nat.le_refl 16) (by decide)) hp
    | succ d ih =>
      intro i n hi hn
      obtain ⟨m, rfl⟩ : ∃ m, n = m + 1 := ⟨n - 1, by omega⟩
      have h16 : vp_in (nI i) 16 := vp_in_nI (by omega) (by decide)
      refine br_f (nI_ge (b := 16) (by omega) (by decide)) ⟨h16, ?_⟩
      rw [nI_clamp (n := i) (by omega)]
      exact nm_r (nh_mxs i nh_m1 ow) ⟨h16, nm_r (nh_mxs i nh_z0 st) (nm_r (nI_1 i) (ih (i + 1) m (by omega) (by omega)))⟩
  have h0 := key 16 0 17 (by omega) (by omega)
  rw [nh_mx0, nh_mx0] at h0
  exact ⟨17, h0⟩
theorem nl_i187 {U T N : Nat} {on ok fl dp tt pr : Int32} {K V ln ue dc uu ow st w ch no ns nr es nu re oT oP : Nat → Int32} {post : St2 → Prop} {mc ms kc ks : Nat} (hp : post (nI U, nI T, nI N, on, ok, fl, dp, tt, pr, K, V, ln, nh_mx 8 nh_m1 ue, dc, uu, nh_mx 16 nh_m1 ow, nh_mx 16 nh_z0 st, w, ch, no, ns, nr, es, nu, re, oT, oP)) : ∃ n, wX_init_187 post mc ms kc ks (nI U) (nI T) (nI N) on ok fl dp tt pr n 0 K V ln ue dc uu ow st w ch no ns nr es nu re oT oP := by
  have key : ∀ (d i n : Nat), i + d = 8 → d < n → wX_init_187 post mc ms kc ks (nI U) (nI T) (nI N) on ok fl dp tt pr n (nI i) K V ln (nh_mx i nh_m1 ue) dc uu ow st w ch no ns nr es nu re oT oP := by
    intro d
    induction d with
    | zero =>
      intro i n hi hn
      obtain ⟨m, rfl⟩ : ∃ m, n = m + 1 := ⟨n - 1, by omega⟩
      have e : i = 8 := by omega
      subst e
      exact br_t (nI_le (a := 8) (Nat.le_refl 8) (by decide)) (nl_i211 hp)
    | succ d ih =>
      intro i n hi hn
      obtain ⟨m, rfl⟩ : ∃ m, n = m + 1 := ⟨n - 1, by omega⟩
      have h8 : vp_in (nI i) 8 := vp_in_nI (by omega) (by decide)
      refine br_f (nI_ge (b := 8) (by omega) (by decide)) ⟨h8, ?_⟩
      rw [nI_clamp (n := i) (by omega)]
      exact nm_r (nh_mxs i nh_m1 ue) (nm_r (nI_1 i) (ih (i + 1) m (by omega) (by omega)))
  have h0 := key 8 0 9 (by omega) (by omega)
  rw [nh_mx0] at h0
  exact ⟨9, h0⟩
/-- a new object: sizes by the clamps, no token -/
theorem nl_init {post : St2 → Prop} {U T N : Nat} {x1 x2 x3 : Int32} (xU : ∀ post : Int32 → Prop, post (nI U) → wpX_clamp post () x1 2 8) (xT : ∀ post : Int32 → Prop, post (nI T) → wpX_clamp post () x2 8 32) (xN : ∀ post : Int32 → Prop, post (nI N) → wpX_clamp post () x3 4 16)
    (hp : ∀ on ok fl dp tt pr ue dc uu ow st w ch no ns nr es nu re oT oP, post (nI U, nI T, nI N, on, ok, fl, dp, tt, pr, nh_z0, nh_z0, nh_z0, ue, dc, uu, ow, st, w, ch, no, ns, nr, es, nu, re, oT, oP)) : wpX_init post 18 768 (0, 0, 0, 0, 0, 0, 0, 0, 0) x1 x2 x3 := by
  have key : wpX_clamp (fun r_73 => (wpX_clamp (fun r_74 => (wpX_clamp (fun r_75 => (∃ fu187 : Nat, wX_init_187 post 18 768 18 768 r_73 r_74 r_75 0 0 0 0 0 0 fu187 0 (fun _ => 0) (fun _ => 0) (fun _ => 0) (fun _ => 0) (fun _ => 0) (fun _ => 0) (fun _ => 0) (fun _ => 0) (fun _ => 0) (fun _ => 0) (fun _ => 0) (fun _ => 0) (fun _ => 0) (fun _ => 0) (fun _ => 0) (fun _ => 0) (fun _ => 0) (fun _ => 0))) () x3 4 16)) () x2 8 32)) () x1 2 8 :=
    xU _ (xT _ (xN _ (nl_i187 (hp _ _ _ _ _ _ _ _ _ _ _ _ _ _ _ _ _ _ _ _ _))))
  unfold wpX_init
  refine ⟨by omega, by omega, by omega, by omega, by omega, by omega, by omega, by omega, by omega, by omega, by omega, by omega, by omega, by omega, by omega, by omega, by omega, by omega, by omega, by omega, by omega, by omega, by omega, by omega, by omega, by omega, by omega, by omega, by omega, by omega, by omega, by omega, by omega, by omega, by omega, by omega, key⟩
theorem nh_PV0 {U T N : Nat} : nh_PV U T N nh_z0 nh_z0 nh_z0 :=
  ⟨fun u => ⟨0, Nat.zero_le T, rfl⟩, fun p hp => absurd (show (0 : Int32) = 2 from hp) (by decide), fun p _ _ => rfl, fun u i _ hi => absurd (show i < 0 from hi) (Nat.not_lt_zero i)⟩
/-! queries of the two objects compared -/
theorem nl_qu {q : (Int32 → Prop) → St2 → Int32 → Prop} {C D : Prop} {x : Int32} {A F : St2} (hq : ∃ a b, a = b ∧ (∀ post : Int32 → Prop, post a → q post A x) ∧ (∀ post : Int32 → Prop, post b → q post F x)) (hC : C) : q (fun r => q (fun r' => (r = r' → C) ∧ (¬ r = r' → D)) F x) A x := by
  obtain ⟨a, b, e, h1, h2⟩ := hq
  exact h1 _ (h2 _ (br_t e hC))
theorem nl_qv {q : (Int32 → Prop) → St2 → Int32 → Int32 → Prop} {C D : Prop} {x y : Int32} {A F : St2} (hq : ∃ a b, a = b ∧ (∀ post : Int32 → Prop, post a → q post A x y) ∧ (∀ post : Int32 → Prop, post b → q post F x y)) (hC : C) : q (fun r => q (fun r' => (r = r' → C) ∧ (¬ r = r' → D)) F x y) A x y := by
  obtain ⟨a, b, e, h1, h2⟩ := hq
  exact h1 _ (h2 _ (br_t e hC))
theorem nl_getUnitError {U T N : Nat} {on ok fl dp tt pr : Int32} {K V ln ue dc uu ow st w ch no ns nr es nu re oT oP : Nat → Int32} {on' ok' fl' dp' tt' pr' : Int32} {K' V' ln' ue' dc' uu' ow' st' w' ch' no' ns' nr' es' nu' re' oT' oP' : Nat → Int32} {x : Int32} (hU : U ≤ 8) (hA : ∀ u, u < U → ue u = ue' u) : ∃ a b, a = b ∧ (∀ post : Int32 → Prop, post a → wpX_getUnitError post (nI U, nI T, nI N, on, ok, fl, dp, tt, pr, K, V, ln, ue, dc, uu, ow, st, w, ch, no, ns, nr, es, nu, re, oT, oP) x) ∧ (∀ post : Int32 → Prop, post b → wpX_getUnitError post (nI U, nI T, nI N, on', ok', fl', dp', tt', pr', K', V', ln', ue', dc', uu', ow', st', w', ch', no', ns', nr', es', nu', re', oT', oP') x) := by
  unfold wpX_getUnitError
  rcases pk_ix x (n := U) (by omega) with ho | ho | ⟨u, hu, rfl⟩
  · exact ⟨(-2), (-2), rfl, fun post hp => nx_hu0 hU (Or.inl ho) (br_t rfl hp), fun post hp => nx_hu0 hU (Or.inl ho) (br_t rfl hp)⟩
  · exact ⟨(-2), (-2), rfl, fun post hp => nx_hu0 hU (Or.inr ho) (br_t rfl hp), fun post hp => nx_hu0 hU (Or.inr ho) (br_t rfl hp)⟩
  · have h8 : vp_in (nI u) 8 := vp_in_nI (by omega) (by decide)
    refine ⟨ue (nI u).toNatClampNeg, ue' (nI u).toNatClampNeg, ?_, fun post hp => nx_hu1 hU hu (br_f (by decide) ⟨h8, hp⟩), fun post hp => nx_hu1 hU hu (br_f (by decide) ⟨h8, hp⟩)⟩
    rw [nI_clamp (n := u) (by omega)]
    exact hA u hu
theorem nl_getDefCount {U T N : Nat} {on ok fl dp tt pr : Int32} {K V ln ue dc uu ow st w ch no ns nr es nu re oT oP : Nat → Int32} {on' ok' fl' dp' tt' pr' : Int32} {K' V' ln' ue' dc' uu' ow' st' w' ch' no' ns' nr' es' nu' re' oT' oP' : Nat → Int32} {x : Int32} (hU : U ≤ 8) (hA : ∀ u, u < U → dc u = dc' u) : ∃ a b, a = b ∧ (∀ post : Int32 → Prop, post a → wpX_getDefCount post (nI U, nI T, nI N, on, ok, fl, dp, tt, pr, K, V, ln, ue, dc, uu, ow, st, w, ch, no, ns, nr, es, nu, re, oT, oP) x) ∧ (∀ post : Int32 → Prop, post b → wpX_getDefCount post (nI U, nI T, nI N, on', ok', fl', dp', tt', pr', K', V', ln', ue', dc', uu', ow', st', w', ch', no', ns', nr', es', nu', re', oT', oP') x) := by
  unfold wpX_getDefCount
  rcases pk_ix x (n := U) (by omega) with ho | ho | ⟨u, hu, rfl⟩
  · exact ⟨(-1), (-1), rfl, fun post hp => nx_hu0 hU (Or.inl ho) (br_t rfl hp), fun post hp => nx_hu0 hU (Or.inl ho) (br_t rfl hp)⟩
  · exact ⟨(-1), (-1), rfl, fun post hp => nx_hu0 hU (Or.inr ho) (br_t rfl hp), fun post hp => nx_hu0 hU (Or.inr ho) (br_t rfl hp)⟩
  · have h8 : vp_in (nI u) 8 := vp_in_nI (by omega) (by decide)
    refine ⟨dc (nI u).toNatClampNeg, dc' (nI u).toNatClampNeg, ?_, fun post hp => nx_hu1 hU hu (br_f (by decide) ⟨h8, hp⟩), fun post hp => nx_hu1 hU hu (br_f (by decide) ⟨h8, hp⟩)⟩
    rw [nI_clamp (n := u) (by omega)]
    exact hA u hu
theorem nl_getLength {U T N : Nat} {on ok fl dp tt pr : Int32} {K V ln ue dc uu ow st w ch no ns nr es nu re oT oP : Nat → Int32} {on' ok' fl' dp' tt' pr' : Int32} {K' V' ln' ue' dc' uu' ow' st' w' ch' no' ns' nr' es' nu' re' oT' oP' : Nat → Int32} {x : Int32} (hU : U ≤ 8) (hA : ∀ u, u < U → ln u = ln' u) : ∃ a b, a = b ∧ (∀ post : Int32 → Prop, post a → wpX_getLength post (nI U, nI T, nI N, on, ok, fl, dp, tt, pr, K, V, ln, ue, dc, uu, ow, st, w, ch, no, ns, nr, es, nu, re, oT, oP) x) ∧ (∀ post : Int32 → Prop, post b → wpX_getLength post (nI U, nI T, nI N, on', ok', fl', dp', tt', pr', K', V', ln', ue', dc', uu', ow', st', w', ch', no', ns', nr', es', nu', re', oT', oP') x) := by
  unfold wpX_getLength
  rcases pk_ix x (n := U) (by omega) with ho | ho | ⟨u, hu, rfl⟩
  · exact ⟨(-1), (-1), rfl, fun post hp => nx_hu0 hU (Or.inl ho) (br_t rfl hp), fun post hp => nx_hu0 hU (Or.inl ho) (br_t rfl hp)⟩
  · exact ⟨(-1), (-1), rfl, fun post hp => nx_hu0 hU (Or.inr ho) (br_t rfl hp), fun post hp => nx_hu0 hU (Or.inr ho) (br_t rfl hp)⟩
  · have h8 : vp_in (nI u) 8 := vp_in_nI (by omega) (by decide)
    refine ⟨ln (nI u).toNatClampNeg, ln' (nI u).toNatClampNeg, ?_, fun post hp => nx_hu1 hU hu (br_f (by decide) ⟨h8, hp⟩), fun post hp => nx_hu1 hU hu (br_f (by decide) ⟨h8, hp⟩)⟩
    rw [nI_clamp (n := u) (by omega)]
    exact hA u hu
theorem nl_getOwner {U T N : Nat} {on ok fl dp tt pr : Int32} {K V ln ue dc uu ow st w ch no ns nr es nu re oT oP : Nat → Int32} {on' ok' fl' dp' tt' pr' : Int32} {K' V' ln' ue' dc' uu' ow' st' w' ch' no' ns' nr' es' nu' re' oT' oP' : Nat → Int32} {x : Int32} (hN : N ≤ 16) (hA : ∀ n, n < N → ow n = ow' n) : ∃ a b, a = b ∧ (∀ post : Int32 → Prop, post a → wpX_getOwner post (nI U, nI T, nI N, on, ok, fl, dp, tt, pr, K, V, ln, ue, dc, uu, ow, st, w, ch, no, ns, nr, es, nu, re, oT, oP) x) ∧ (∀ post : Int32 → Prop, post b → wpX_getOwner post (nI U, nI T, nI N, on', ok', fl', dp', tt', pr', K', V', ln', ue', dc', uu', ow', st', w', ch', no', ns', nr', es', nu', re', oT', oP') x) := by
  unfold wpX_getOwner
  rcases pk_ix x (n := N) (by omega) with ho | ho | ⟨u, hu, rfl⟩
  · exact ⟨(-1), (-1), rfl, fun post hp => nx_hn0 hN (Or.inl ho) (br_t rfl hp), fun post hp => nx_hn0 hN (Or.inl ho) (br_t rfl hp)⟩
  · exact ⟨(-1), (-1), rfl, fun post hp => nx_hn0 hN (Or.inr ho) (br_t rfl hp), fun post hp => nx_hn0 hN (Or.inr ho) (br_t rfl hp)⟩
  · have h16 : vp_in (nI u) 16 := vp_in_nI (by omega) (by decide)
    refine ⟨ow (nI u).toNatClampNeg, ow' (nI u).toNatClampNeg, ?_, fun post hp => nx_hn1 hN hu (br_f (by decide) ⟨h16, hp⟩), fun post hp => nx_hn1 hN hu (br_f (by decide) ⟨h16, hp⟩)⟩
    rw [nI_clamp (n := u) (by omega)]
    exact hA u hu
theorem nl_getStatus {U T N : Nat} {on ok fl dp tt pr : Int32} {K V ln ue dc uu ow st w ch no ns nr es nu re oT oP : Nat → Int32} {on' ok' fl' dp' tt' pr' : Int32} {K' V' ln' ue' dc' uu' ow' st' w' ch' no' ns' nr' es' nu' re' oT' oP' : Nat → Int32} {x : Int32} (hN : N ≤ 16) (hA : ∀ n, n < N → st n = st' n) : ∃ a b, a = b ∧ (∀ post : Int32 → Prop, post a → wpX_getStatus post (nI U, nI T, nI N, on, ok, fl, dp, tt, pr, K, V, ln, ue, dc, uu, ow, st, w, ch, no, ns, nr, es, nu, re, oT, oP) x) ∧ (∀ post : Int32 → Prop, post b → wpX_getStatus post (nI U, nI T, nI N, on', ok', fl', dp', tt', pr', K', V', ln', ue', dc', uu', ow', st', w', ch', no', ns', nr', es', nu', re', oT', oP') x) := by
  unfold wpX_getStatus
  rcases pk_ix x (n := N) (by omega) with ho | ho | ⟨u, hu, rfl⟩
  · exact ⟨0, 0, rfl, fun post hp => nx_hn0 hN (Or.inl ho) (br_t rfl hp), fun post hp => nx_hn0 hN (Or.inl ho) (br_t rfl hp)⟩
  · exact ⟨0, 0, rfl, fun post hp => nx_hn0 hN (Or.inr ho) (br_t rfl hp), fun post hp => nx_hn0 hN (Or.inr ho) (br_t rfl hp)⟩
  · have h16 : vp_in (nI u) 16 := vp_in_nI (by omega) (by decide)
    refine ⟨st (nI u).toNatClampNeg, st' (nI u).toNatClampNeg, ?_, fun post hp => nx_hn1 hN hu (br_f (by decide) ⟨h16, hp⟩), fun post hp => nx_hn1 hN hu (br_f (by decide) ⟨h16, hp⟩)⟩
    rw [nI_clamp (n := u) (by omega)]
    exact hA u hu
theorem nl_getValue {U T N : Nat} {on ok fl dp tt pr : Int32} {K V ln ue dc uu ow st w ch no ns nr es nu re oT oP : Nat → Int32} {on' ok' fl' dp' tt' pr' : Int32} {K' V' ln' ue' dc' uu' ow' st' w' ch' no' ns' nr' es' nu' re' oT' oP' : Nat → Int32} {x : Int32} (hN : N ≤ 16) (hA : ∀ n, n < N → w n = w' n) : ∃ a b, a = b ∧ (∀ post : Int32 → Prop, post a → wpX_getValue post (nI U, nI T, nI N, on, ok, fl, dp, tt, pr, K, V, ln, ue, dc, uu, ow, st, w, ch, no, ns, nr, es, nu, re, oT, oP) x) ∧ (∀ post : Int32 → Prop, post b → wpX_getValue post (nI U, nI T, nI N, on', ok', fl', dp', tt', pr', K', V', ln', ue', dc', uu', ow', st', w', ch', no', ns', nr', es', nu', re', oT', oP') x) := by
  unfold wpX_getValue
  rcases pk_ix x (n := N) (by omega) with ho | ho | ⟨u, hu, rfl⟩
  · exact ⟨0, 0, rfl, fun post hp => nx_hn0 hN (Or.inl ho) (br_t rfl hp), fun post hp => nx_hn0 hN (Or.inl ho) (br_t rfl hp)⟩
  · exact ⟨0, 0, rfl, fun post hp => nx_hn0 hN (Or.inr ho) (br_t rfl hp), fun post hp => nx_hn0 hN (Or.inr ho) (br_t rfl hp)⟩
  · have h16 : vp_in (nI u) 16 := vp_in_nI (by omega) (by decide)
    refine ⟨w (nI u).toNatClampNeg, w' (nI u).toNatClampNeg, ?_, fun post hp => nx_hn1 hN hu (br_f (by decide) ⟨h16, hp⟩), fun post hp => nx_hn1 hN hu (br_f (by decide) ⟨h16, hp⟩)⟩
    rw [nI_clamp (n := u) (by omega)]
    exact hA u hu
theorem nl_usesName {U T N : Nat} {on ok fl dp tt pr : Int32} {K V ln ue dc uu ow st w ch no ns nr es nu re oT oP : Nat → Int32} {on' ok' fl' dp' tt' pr' : Int32} {K' V' ln' ue' dc' uu' ow' st' w' ch' no' ns' nr' es' nu' re' oT' oP' : Nat → Int32} {x y : Int32} (hU : U ≤ 8) (hN : N ≤ 16) (hA : ∀ u m, u < U → m < N → bt (uu u) m = bt (uu' u) m) : ∃ a b, a = b ∧ (∀ post : Int32 → Prop, post a → wpX_usesName post (nI U, nI T, nI N, on, ok, fl, dp, tt, pr, K, V, ln, ue, dc, uu, ow, st, w, ch, no, ns, nr, es, nu, re, oT, oP) x y) ∧ (∀ post : Int32 → Prop, post b → wpX_usesName post (nI U, nI T, nI N, on', ok', fl', dp', tt', pr', K', V', ln', ue', dc', uu', ow', st', w', ch', no', ns', nr', es', nu', re', oT', oP') x y) := by
  unfold wpX_usesName
  rcases pk_ix x (n := U) (by omega) with ho | ho | ⟨u, hu, rfl⟩
  · exact ⟨0, 0, rfl, fun post hp => nx_hu0 hU (Or.inl ho) (br_t rfl hp), fun post hp => nx_hu0 hU (Or.inl ho) (br_t rfl hp)⟩
  · exact ⟨0, 0, rfl, fun post hp => nx_hu0 hU (Or.inr ho) (br_t rfl hp), fun post hp => nx_hu0 hU (Or.inr ho) (br_t rfl hp)⟩
  · have h8 : vp_in (nI u) 8 := vp_in_nI (by omega) (by decide)
    have hcu : (nI u).toNatClampNeg = u := nI_clamp (by omega)
    rcases pk_ix y (n := N) (by omega) with ho | ho | ⟨m, hm, rfl⟩
    · exact ⟨0, 0, rfl, fun post hp => nx_hu1 hU hu (br_f (by decide) (nx_hn0 hN (Or.inl ho) (br_t rfl hp))), fun post hp => nx_hu1 hU hu (br_f (by decide) (nx_hn0 hN (Or.inl ho) (br_t rfl hp)))⟩
    · exact ⟨0, 0, rfl, fun post hp => nx_hu1 hU hu (br_f (by decide) (nx_hn0 hN (Or.inr ho) (br_t rfl hp))), fun post hp => nx_hu1 hU hu (br_f (by decide) (nx_hn0 hN (Or.inr ho) (br_t rfl hp)))⟩
    · have hb := hA u m hu hm
      refine ⟨if bt (uu u) m = true then 1 else 0, if bt (uu' u) m = true then 1 else 0, by rw [hb], fun post hp => nx_hu1 hU hu (br_f (by decide) (nx_hn1 hN hm (br_f (by decide) ⟨h8, ?_⟩))), fun post hp => nx_hu1 hU hu (br_f (by decide) (nx_hn1 hN hm (br_f (by decide) ⟨h8, ?_⟩)))⟩
      · rw [hcu]
        refine nx_has (by omega) (fun h => br_f (by decide) ?_) (fun h => br_t rfl ?_)
        · rw [if_pos h] at hp; exact hp
        · rw [if_neg (by rw [h]; decide)] at hp; exact hp
      · rw [hcu]
        refine nx_has (by omega) (fun h => br_f (by decide) ?_) (fun h => br_t rfl ?_)
        · rw [if_pos h] at hp; exact hp
        · rw [if_neg (by rw [h]; decide)] at hp; exact hp
theorem nl_getTokenKind {U T N : Nat} {on ok fl dp tt pr : Int32} {K V ln ue dc uu ow st w ch no ns nr es nu re oT oP : Nat → Int32} {on' ok' fl' dp' tt' pr' : Int32} {K' V' ln' ue' dc' uu' ow' st' w' ch' no' ns' nr' es' nu' re' oT' oP' : Nat → Int32} {x y : Int32} (hU : U ≤ 8) (hT : T ≤ 32) (h1 : ∀ u, ∃ l, l ≤ T ∧ ln u = nI l) (h2 : ∀ u, u < U → ln u = ln' u) (hA : ∀ u i, u < U → i < nh_L ln u → K (u * 32 + i) = K' (u * 32 + i)) : ∃ a b, a = b ∧ (∀ post : Int32 → Prop, post a → wpX_getTokenKind post (nI U, nI T, nI N, on, ok, fl, dp, tt, pr, K, V, ln, ue, dc, uu, ow, st, w, ch, no, ns, nr, es, nu, re, oT, oP) x y) ∧ (∀ post : Int32 → Prop, post b → wpX_getTokenKind post (nI U, nI T, nI N, on', ok', fl', dp', tt', pr', K', V', ln', ue', dc', uu', ow', st', w', ch', no', ns', nr', es', nu', re', oT', oP') x y) := by
  unfold wpX_getTokenKind
  rcases pk_ix x (n := U) (by omega) with ho | ho | ⟨u, hu, rfl⟩
  · exact ⟨0, 0, rfl, fun post hp => nx_htu hU (Or.inl ho) (br_t rfl hp), fun post hp => nx_htu hU (Or.inl ho) (br_t rfl hp)⟩
  · exact ⟨0, 0, rfl, fun post hp => nx_htu hU (Or.inr ho) (br_t rfl hp), fun post hp => nx_htu hU (Or.inr ho) (br_t rfl hp)⟩
  · obtain ⟨L, hL, hl⟩ := h1 u
    have hl' : ln' u = nI L := (h2 u hu).symm.trans hl
    have e : nh_L ln u = L := by unfold nh_L; rw [hl]; exact nI_clamp (by omega)
    rcases pk_ix y (n := L) (by omega) with ho | ho | ⟨i, hi, rfl⟩
    · exact ⟨0, 0, rfl, fun post hp => nx_ht0 hU hu hl (by omega) (Or.inl ho) (br_t rfl hp), fun post hp => nx_ht0 hU hu hl' (by omega) (Or.inl ho) (br_t rfl hp)⟩
    · exact ⟨0, 0, rfl, fun post hp => nx_ht0 hU hu hl (by omega) (Or.inr ho) (br_t rfl hp), fun post hp => nx_ht0 hU hu hl' (by omega) (Or.inr ho) (br_t rfl hp)⟩
    · have hin : vp_in (nI u * 32 + nI i) 256 := by rw [nh_c32]; exact vp_in_nI (by omega) (by decide)
      refine ⟨K (nI u * 32 + nI i).toNatClampNeg, K' (nI u * 32 + nI i).toNatClampNeg, ?_, fun post hp => nx_ht1 hU hu hl (by omega) hi (br_f (by decide) ⟨hin, hp⟩), fun post hp => nx_ht1 hU hu hl' (by omega) hi (br_f (by decide) ⟨hin, hp⟩)⟩
      rw [nh_c32, nI_clamp (n := u * 32 + i) (by omega)]
      exact hA u i hu (by omega)
theorem nl_getTokenValue {U T N : Nat} {on ok fl dp tt pr : Int32} {K V ln ue dc uu ow st w ch no ns nr es nu re oT oP : Nat → Int32} {on' ok' fl' dp' tt' pr' : Int32} {K' V' ln' ue' dc' uu' ow' st' w' ch' no' ns' nr' es' nu' re' oT' oP' : Nat → Int32} {x y : Int32} (hU : U ≤ 8) (hT : T ≤ 32) (h1 : ∀ u, ∃ l, l ≤ T ∧ ln u = nI l) (h2 : ∀ u, u < U → ln u = ln' u) (hA : ∀ u i, u < U → i < nh_L ln u → V (u * 32 + i) = V' (u * 32 + i)) : ∃ a b, a = b ∧ (∀ post : Int32 → Prop, post a → wpX_getTokenValue post (nI U, nI T, nI N, on, ok, fl, dp, tt, pr, K, V, ln, ue, dc, uu, ow, st, w, ch, no, ns, nr, es, nu, re, oT, oP) x y) ∧ (∀ post : Int32 → Prop, post b → wpX_getTokenValue post (nI U, nI T, nI N, on', ok', fl', dp', tt', pr', K', V', ln', ue', dc', uu', ow', st', w', ch', no', ns', nr', es', nu', re', oT', oP') x y) := by
  unfold wpX_getTokenValue
  rcases pk_ix x (n := U) (by omega) with ho | ho | ⟨u, hu, rfl⟩
  · exact ⟨0, 0, rfl, fun post hp => nx_htu hU (Or.inl ho) (br_t rfl hp), fun post hp => nx_htu hU (Or.inl ho) (br_t rfl hp)⟩
  · exact ⟨0, 0, rfl, fun post hp => nx_htu hU (Or.inr ho) (br_t rfl hp), fun post hp => nx_htu hU (Or.inr ho) (br_t rfl hp)⟩
  · obtain ⟨L, hL, hl⟩ := h1 u
    have hl' : ln' u = nI L := (h2 u hu).symm.trans hl
    have e : nh_L ln u = L := by unfold nh_L; rw [hl]; exact nI_clamp (by omega)
    rcases pk_ix y (n := L) (by omega) with ho | ho | ⟨i, hi, rfl⟩
    · exact ⟨0, 0, rfl, fun post hp => nx_ht0 hU hu hl (by omega) (Or.inl ho) (br_t rfl hp), fun post hp => nx_ht0 hU hu hl' (by omega) (Or.inl ho) (br_t rfl hp)⟩
    · exact ⟨0, 0, rfl, fun post hp => nx_ht0 hU hu hl (by omega) (Or.inr ho) (br_t rfl hp), fun post hp => nx_ht0 hU hu hl' (by omega) (Or.inr ho) (br_t rfl hp)⟩
    · have hin : vp_in (nI u * 32 + nI i) 256 := by rw [nh_c32]; exact vp_in_nI (by omega) (by decide)
      refine ⟨V (nI u * 32 + nI i).toNatClampNeg, V' (nI u * 32 + nI i).toNatClampNeg, ?_, fun post hp => nx_ht1 hU hu hl (by omega) hi (br_f (by decide) ⟨hin, hp⟩), fun post hp => nx_ht1 hU hu hl' (by omega) hi (br_f (by decide) ⟨hin, hp⟩)⟩
      rw [nh_c32, nI_clamp (n := u * 32 + i) (by omega)]
      exact hA u i hu (by omega)
end
section
/-! 16: the law's loops that compare and copy -/
def nh_AR (U N : Nat) (ue dc uu ow st w ue' dc' uu' ow' st' w' : Nat → Int32) : Prop :=
  (∀ u, u < U → ue u = ue' u) ∧ (∀ u, u < U → dc u = dc' u) ∧ (∀ u m, u < U → m < N → bt (uu u) m = bt (uu' u) m) ∧ (∀ n, n < N → ow n = ow' n) ∧ (∀ n, n < N → st n = st' n) ∧ (∀ n, n < N → w n = w' n)
def nh_AT (U T : Nat) (K V ln K' V' ln' : Nat → Int32) : Prop :=
  (∀ u, ∃ l, l ≤ T ∧ ln u = nI l) ∧ (∀ u, u < U → ln u = ln' u) ∧ (∀ u i, u < U → i < nh_L ln u → K (u * 32 + i) = K' (u * 32 + i)) ∧ (∀ u i, u < U → i < nh_L ln u → V (u * 32 + i) = V' (u * 32 + i))
theorem nh_y33 : ∀ t, t < 36 → ((33 : Int32) < nI t + (-1) ↔ t = 35) := by decide +kernel
theorem nh_y17 : ∀ t, t < 20 → ((17 : Int32) < nI t + (-1) ↔ t = 19) := by decide +kernel
theorem nh_ys (t : Nat) : nI t + (-1) + 1 = nI (t + 1) + (-1) := by rw [← nI_1]; grind
theorem nl_963 {U T N : Nat} {on ok fl dp tt pr : Int32} {K V ln ue dc uu ow st w ch no ns nr es nu re oT oP : Nat → Int32} {on' ok' fl' dp' tt' pr' : Int32} {K' V' ln' ue' dc' uu' ow' st' w' ch' no' ns' nr' es' nu' re' oT' oP' : Nat → Int32} {post : Int32 → Prop} {L : Nat} {xs : Nat → Int32} {J110 : ((Int32 × Int32 × Int32 × Int32 × Int32 × Int32 × Int32 × Int32 × Nat × Nat × Int32 × Int32 × Int32 × Int32 × Int32 × Int32 × Int32 × Int32 × Int32 × (Nat → Int32) × (Nat → Int32) × (Nat → Int32) × (Nat → Int32) × (Nat → Int32) × (Nat → Int32) × (Nat → Int32) × (Nat → Int32) × (Nat → Int32) × (Nat → Int32) × (Nat → Int32) × (Nat → Int32) × (Nat → Int32) × (Nat → Int32) × (Nat → Int32) × (Nat → Int32) × (Nat → Int32) × (Nat → Int32)) ⊕ (Int32 × Int32 × Int32 × Int32 × Int32 × Int32 × Int32 × Int32 × Nat × Nat × Int32 × Int32 × Int32 × Int32 × Int32 × Int32 × Int32 × Int32 × Int32 × (Nat → Int32) × (Nat → Int32) × (Nat → Int32) × (Nat → Int32) × (Nat → Int32) × (Nat → Int32) × (Nat → Int32) × (Nat → Int32) × (Nat → Int32) × (Nat → Int32) × (Nat → Int32) × (Nat → Int32) × (Nat → Int32) × (Nat → Int32) × (Nat → Int32) × (Nat → Int32) × (Nat → Int32) × (Nat → Int32) × Int32 × Int32 × Int32 × Int32 × Int32 × Int32 × Int32 × Int32 × Int32 × (Nat → Int32) × (Nat → Int32) × (Nat → Int32) × (Nat → Int32) × (Nat → Int32) × (Nat → Int32) × (Nat → Int32) × (Nat → Int32) × (Nat → Int32) × (Nat → Int32) × (Nat → Int32) × (Nat → Int32) × (Nat → Int32) × (Nat → Int32) × (Nat → Int32) × (Nat → Int32) × (Nat → Int32) × (Nat → Int32))) → Prop} {J834 : ((Int32 × Int32 × Int32 × Int32 × Int32 × Int32 × Int32 × Int32 × Int32 × Nat × Nat × Int32 × Int32 × Int32 × Int32 × Int32 × Int32 × Int32 × Int32 × Int32 × (Nat → Int32) × (Nat → Int32) × (Nat → Int32) × (Nat → Int32) × (Nat → Int32) × (Nat → Int32) × (Nat → Int32) × (Nat → Int32) × (Nat → Int32) × (Nat → Int32) × (Nat → Int32) × (Nat → Int32) × (Nat → Int32) × (Nat → Int32) × (Nat → Int32) × (Nat → Int32) × (Nat → Int32) × (Nat → Int32)) ⊕ (Int32 × Int32 × Int32 × Int32 × Int32 × Int32 × Int32 × Int32 × Int32 × Nat × Nat × Int32 × Int32 × Int32 × Int32 × Int32 × Int32 × Int32 × Int32 × Int32 × (Nat → Int32) × (Nat → Int32) × (Nat → Int32) × (Nat → Int32) × (Nat → Int32) × (Nat → Int32) × (Nat → Int32) × (Nat → Int32) × (Nat → Int32) × (Nat → Int32) × (Nat → Int32) × (Nat → Int32) × (Nat → Int32) × (Nat → Int32) × (Nat → Int32) × (Nat → Int32) × (Nat → Int32) × (Nat → Int32) × Int32 × Int32 × Int32 × Int32 × Int32 × Int32 × Int32 × Int32 × Int32 × (Nat → Int32) × (Nat → Int32) × (Nat → Int32) × (Nat → Int32) × (Nat → Int32) × (Nat → Int32) × (Nat → Int32) × (Nat → Int32) × (Nat → Int32) × (Nat → Int32) × (Nat → Int32) × (Nat → Int32) × (Nat → Int32) × (Nat → Int32) × (Nat → Int32) × (Nat → Int32) × (Nat → Int32) × (Nat → Int32))) → Prop} {x1 x2 x3 x4 x5 x8 x9 x10 x13 x13' : Int32} {kc ks : Nat} (hU : U ≤ 8) (hT : T ≤ 32) (hN : N ≤ 16) (hR : nh_AR U N ue dc uu ow st w ue' dc' uu' ow' st' w') (hA : x10 = 0 → nh_AT U T K V ln K' V' ln')
    (hx : x13 + 1 = x13') (hJ : J834 (.inr (x1, x2, x3, x4, x5, x8, x9, x10, x13', kc, ks, nI U, nI T, nI N, on, ok, fl, dp, tt, pr, K, V, ln, ue, dc, uu, ow, st, w, ch, no, ns, nr, es, nu, re, oT, oP, nI U, nI T, nI N, on', ok', fl', dp', tt', pr', K', V', ln', ue', dc', uu', ow', st', w', ch', no', ns', nr', es', nu', re', oT', oP'))) : ∀ (d t n : Nat), t + d = 35 → d < n → wL_law_963 post L xs J110 J834 x1 x2 x3 x4 x5 x8 x9 x10 x13 kc ks (nI U) (nI T) (nI N) on ok fl dp tt pr K V ln ue dc uu ow st w ch no ns nr es nu re oT oP (nI U) (nI T) (nI N) on' ok' fl' dp' tt' pr' K' V' ln' ue' dc' uu' ow' st' w' ch' no' ns' nr' es' nu' re' oT' oP' n (nI t + (-1)) := by
  intro d
  induction d with
  | zero =>
    intro t n ht hn
    obtain ⟨m, rfl⟩ : ∃ m, n = m + 1 := ⟨n - 1, by omega⟩
    exact br_t ((nh_y33 t (by omega)).mpr (by omega)) (nm_r hx hJ)
  | succ d ih =>
    intro t n ht hn
    obtain ⟨m, rfl⟩ : ∃ m, n = m + 1 := ⟨n - 1, by omega⟩
    have hnext := ih (t + 1) m (by omega) (by omega)
    refine br_f (fun h => by have := (nh_y33 t (by omega)).mp h; omega) (nl_qv (q := wpX_usesName) (nl_usesName hU hN hR.2.2.1) (br_c (fun h0 => ?_) (fun h0 => nm_r (nh_ys t) hnext)))
    have hAT := hA h0
    exact nl_qv (q := wpX_getTokenKind) (nl_getTokenKind hU hT hAT.1 hAT.2.1 hAT.2.2.1) (nl_qv (q := wpX_getTokenValue) (nl_getTokenValue hU hT hAT.1 hAT.2.1 hAT.2.2.2) (nm_r (nh_ys t) hnext))
theorem nl_834 {U T N : Nat} {on ok fl dp tt pr : Int32} {K V ln ue dc uu ow st w ch no ns nr es nu re oT oP : Nat → Int32} {on' ok' fl' dp' tt' pr' : Int32} {K' V' ln' ue' dc' uu' ow' st' w' ch' no' ns' nr' es' nu' re' oT' oP' : Nat → Int32} {post : Int32 → Prop} {L : Nat} {xs : Nat → Int32} {J110 : ((Int32 × Int32 × Int32 × Int32 × Int32 × Int32 × Int32 × Int32 × Nat × Nat × Int32 × Int32 × Int32 × Int32 × Int32 × Int32 × Int32 × Int32 × Int32 × (Nat → Int32) × (Nat → Int32) × (Nat → Int32) × (Nat → Int32) × (Nat → Int32) × (Nat → Int32) × (Nat → Int32) × (Nat → Int32) × (Nat → Int32) × (Nat → Int32) × (Nat → Int32) × (Nat → Int32) × (Nat → Int32) × (Nat → Int32) × (Nat → Int32) × (Nat → Int32) × (Nat → Int32) × (Nat → Int32)) ⊕ (Int32 × Int32 × Int32 × Int32 × Int32 × Int32 × Int32 × Int32 × Nat × Nat × Int32 × Int32 × Int32 × Int32 × Int32 × Int32 × Int32 × Int32 × Int32 × (Nat → Int32) × (Nat → Int32) × (Nat → Int32) × (Nat → Int32) × (Nat → Int32) × (Nat → Int32) × (Nat → Int32) × (Nat → Int32) × (Nat → Int32) × (Nat → Int32) × (Nat → Int32) × (Nat → Int32) × (Nat → Int32) × (Nat → Int32) × (Nat → Int32) × (Nat → Int32) × (Nat → Int32) × (Nat → Int32) × Int32 × Int32 × Int32 × Int32 × Int32 × Int32 × Int32 × Int32 × Int32 × (Nat → Int32) × (Nat → Int32) × (Nat → Int32) × (Nat → Int32) × (Nat → Int32) × (Nat → Int32) × (Nat → Int32) × (Nat → Int32) × (Nat → Int32) × (Nat → Int32) × (Nat → Int32) × (Nat → Int32) × (Nat → Int32) × (Nat → Int32) × (Nat → Int32) × (Nat → Int32) × (Nat → Int32) × (Nat → Int32))) → Prop} {x1 x2 x3 x4 x5 x8 x9 x10 x10' : Int32} {kc ks : Nat} (hU : U ≤ 8) (hT : T ≤ 32) (hN : N ≤ 16) (hR : nh_AR U N ue dc uu ow st w ue' dc' uu' ow' st' w') (hA : x10 = 0 → nh_AT U T K V ln K' V' ln')
    (hx : x10 + 1 = x10') (hJ : J110 (.inr (x1, x2, x3, x4, x5, x8, x9, x10', kc, ks, nI U, nI T, nI N, on, ok, fl, dp, tt, pr, K, V, ln, ue, dc, uu, ow, st, w, ch, no, ns, nr, es, nu, re, oT, oP, nI U, nI T, nI N, on', ok', fl', dp', tt', pr', K', V', ln', ue', dc', uu', ow', st', w', ch', no', ns', nr', es', nu', re', oT', oP'))) : ∀ (d t n : Nat) (x13 : Int32), x13 = nI t + (-1) → t + d = 19 → d < n → wL_law_834 post L xs J110 n (.inr (x1, x2, x3, x4, x5, x8, x9, x10, x13, kc, ks, nI U, nI T, nI N, on, ok, fl, dp, tt, pr, K, V, ln, ue, dc, uu, ow, st, w, ch, no, ns, nr, es, nu, re, oT, oP, nI U, nI T, nI N, on', ok', fl', dp', tt', pr', K', V', ln', ue', dc', uu', ow', st', w', ch', no', ns', nr', es', nu', re', oT', oP')) := by
  intro d
  induction d with
  | zero =>
    intro t n x13 h13 ht hn
    obtain ⟨m, rfl⟩ : ∃ m, n = m + 1 := ⟨n - 1, by omega⟩
    subst h13
    exact br_t ((nh_y17 t (by omega)).mpr (by omega)) (nm_r hx hJ)
  | succ d ih =>
    intro t n x13 h13 ht hn
    obtain ⟨m, rfl⟩ : ∃ m, n = m + 1 := ⟨n - 1, by omega⟩
    subst h13
    have hnext := ih (t + 1) m _ rfl (by omega) (by omega)
    have h963 : ∃ fu963 : Nat, wL_law_963 post L xs J110 (wL_law_834 post L xs J110 m) x1 x2 x3 x4 x5 x8 x9 x10 (nI t + (-1)) kc ks (nI U) (nI T) (nI N) on ok fl dp tt pr K V ln ue dc uu ow st w ch no ns nr es nu re oT oP (nI U) (nI T) (nI N) on' ok' fl' dp' tt' pr' K' V' ln' ue' dc' uu' ow' st' w' ch' no' ns' nr' es' nu' re' oT' oP' fu963 (-1) := ⟨36, nl_963 hU hT hN hR hA (nh_ys t) hnext 35 0 36 (by omega) (by omega)⟩
    refine br_f (fun h => by have := (nh_y17 t (by omega)).mp h; omega) (nl_qu (q := wpX_getUnitError) (nl_getUnitError hU hR.1) (nl_qu (q := wpX_getDefCount) (nl_getDefCount hU hR.2.1) (nl_qu (q := wpX_getOwner) (nl_getOwner hN hR.2.2.2.1) (nl_qu (q := wpX_getStatus) (nl_getStatus hN hR.2.2.2.2.1) (nl_qu (q := wpX_getValue) (nl_getValue hN hR.2.2.2.2.2) (br_c (fun h0 => ?_) (fun h0 => h963)))))))
    exact nl_qu (q := wpX_getLength) (nl_getLength hU (hA h0).2.1) h963
/-! copying -/
def nh_CP (U T N : Nat) (K V ln K' V' ln' : Nat → Int32) (u j : Nat) : Prop :=
  nh_PV U T N K' V' ln' ∧ ∀ u1, u1 < U → (u1 < u → ln' u1 = ln u1 ∧ ∀ i, i < nh_L ln u1 → K (u1 * 32 + i) = K' (u1 * 32 + i) ∧ V (u1 * 32 + i) = V' (u1 * 32 + i)) ∧
    (u1 = u → ln' u1 = nI j ∧ ∀ i, i < j → K (u1 * 32 + i) = K' (u1 * 32 + i) ∧ V (u1 * 32 + i) = V' (u1 * 32 + i)) ∧ (u < u1 → ln' u1 = 0)
theorem nh_tvz {K V : Nat → Int32} {p : Nat} (h : nh_ZV K V) : nh_tv (K p) (V p) = V p := by
  unfold nh_tv
  by_cases h1 : K p = 1
  · rw [if_pos h1]
  · by_cases h2 : K p = 2
    · rw [if_neg h1, if_pos h2]
    · rw [if_neg h1, if_neg h2, h p h1 h2]
theorem nh_Lq {ln : Nat → Int32} {u L : Nat} (hL : L < 2 ^ 31) (hl : ln u = nI L) : nh_L ln u = L := by unfold nh_L; rw [hl]; exact nI_clamp hL
theorem nh_CPs {U T N u j L : Nat} {K V ln K' V' ln' : Nat → Int32} (hT : T ≤ 32) (hA : nh_PV U T N K V ln) (h : nh_CP U T N K V ln K' V' ln' u j) (hu : u < U) (hl : ln u = nI L) (hL : L ≤ T) (hj : j < L) (htk : nh_tk N (K (u * 32 + j)) (V (u * 32 + j))) :
    nh_CP U T N K V ln (upd K' (u * 32 + j) (K (u * 32 + j))) (upd V' (u * 32 + j) (nh_tv (K (u * 32 + j)) (V (u * 32 + j)))) (upd ln' u (nI (j + 1))) u (j + 1) := by
  have hlj := ((h.2 u hu).2.1 rfl).1
  refine ⟨nh_PVp h.1 htk (nh_lnu h.1.1 (by omega)) (fun u' i' hu' hi' => ?_), fun u1 hu1 => ⟨fun h1 => ?_, fun h1 => ?_, fun h1 => ?_⟩⟩
  · rw [nh_Lu (by omega)] at hi'
    by_cases e1 : u' = u
    · rw [if_pos e1] at hi'
      by_cases e2 : i' = j
      · exact Or.inl (by rw [e1, e2])
      · exact Or.inr (h.1.2.2.2 u' i' hu' (by rw [e1, nh_Lq (by omega) hlj]; omega))
    · rw [if_neg e1] at hi'; exact Or.inr (h.1.2.2.2 u' i' hu' hi')
  · have ⟨a, b⟩ := (h.2 u1 hu1).1 h1
    obtain ⟨l2, hl2, hl3⟩ := hA.1 u1
    have e2 := nh_Lq (by omega) hl3
    refine ⟨by rw [pk_un (by omega)]; exact a, fun i hi => ?_⟩
    rw [pk_un (by omega), pk_un (by omega)]
    exact b i hi
  · subst h1
    refine ⟨pk_us, fun i hi => ?_⟩
    by_cases e : i = j
    · rw [e, pk_us, pk_us, nh_tvz hA.2.2.1]; exact ⟨rfl, rfl⟩
    · rw [pk_un (by omega), pk_un (by omega)]
      exact ((h.2 u1 hu1).2.1 rfl).2 i (by omega)
  · rw [pk_un (by omega)]
    exact (h.2 u1 hu1).2.2 h1
theorem nl_tkK {U T N : Nat} {on ok fl dp tt pr : Int32} {K V ln ue dc uu ow st w ch no ns nr es nu re oT oP : Nat → Int32} {post : Int32 → Prop} {u i L : Nat} (hU : U ≤ 8) (hu : u < U) (hl : ln u = nI L) (hL : L ≤ 32) (hi : i < L) (hp : post (K (u * 32 + i))) : wpX_getTokenKind post (nI U, nI T, nI N, on, ok, fl, dp, tt, pr, K, V, ln, ue, dc, uu, ow, st, w, ch, no, ns, nr, es, nu, re, oT, oP) (nI u) (nI i) := by
  unfold wpX_getTokenKind
  refine nx_ht1 hU hu hl hL hi (br_f (by decide) ?_)
  rw [nh_c32, nI_clamp (n := u * 32 + i) (by omega)]
  exact ⟨vp_in_nI (by omega) (by decide), hp⟩
theorem nl_tkV {U T N : Nat} {on ok fl dp tt pr : Int32} {K V ln ue dc uu ow st w ch no ns nr es nu re oT oP : Nat → Int32} {post : Int32 → Prop} {u i L : Nat} (hU : U ≤ 8) (hu : u < U) (hl : ln u = nI L) (hL : L ≤ 32) (hi : i < L) (hp : post (V (u * 32 + i))) : wpX_getTokenValue post (nI U, nI T, nI N, on, ok, fl, dp, tt, pr, K, V, ln, ue, dc, uu, ow, st, w, ch, no, ns, nr, es, nu, re, oT, oP) (nI u) (nI i) := by
  unfold wpX_getTokenValue
  refine nx_ht1 hU hu hl hL hi (br_f (by decide) ?_)
  rw [nh_c32, nI_clamp (n := u * 32 + i) (by omega)]
  exact ⟨vp_in_nI (by omega) (by decide), hp⟩
theorem nl_776 {U T N : Nat} {on ok fl dp tt pr : Int32} {K V ln ue dc uu ow st w ch no ns nr es nu re oT oP : Nat → Int32} {on' ok' fl' dp' tt' pr' : Int32} {ue' dc' uu' ow' st' w' ch' no' ns' nr' es' nu' re' oT' oP' : Nat → Int32} {post : Int32 → Prop} {L0 : Nat} {xs : Nat → Int32} {J110 : ((Int32 × Int32 × Int32 × Int32 × Int32 × Int32 × Int32 × Int32 × Nat × Nat × Int32 × Int32 × Int32 × Int32 × Int32 × Int32 × Int32 × Int32 × Int32 × (Nat → Int32) × (Nat → Int32) × (Nat → Int32) × (Nat → Int32) × (Nat → Int32) × (Nat → Int32) × (Nat → Int32) × (Nat → Int32) × (Nat → Int32) × (Nat → Int32) × (Nat → Int32) × (Nat → Int32) × (Nat → Int32) × (Nat → Int32) × (Nat → Int32) × (Nat → Int32) × (Nat → Int32) × (Nat → Int32)) ⊕ (Int32 × Int32 × Int32 × Int32 × Int32 × Int32 × Int32 × Int32 × Nat × Nat × Int32 × Int32 × Int32 × Int32 × Int32 × Int32 × Int32 × Int32 × Int32 × (Nat → Int32) × (Nat → Int32) × (Nat → Int32) × (Nat → Int32) × (Nat → Int32) × (Nat → Int32) × (Nat → Int32) × (Nat → Int32) × (Nat → Int32) × (Nat → Int32) × (Nat → Int32) × (Nat → Int32) × (Nat → Int32) × (Nat → Int32) × (Nat → Int32) × (Nat → Int32) × (Nat → Int32) × (Nat → Int32) × Int32 × Int32 × Int32 × Int32 × Int32 × Int32 × Int32 × Int32 × Int32 × (Nat → Int32) × (Nat → Int32) × (Nat → Int32) × (Nat → Int32) × (Nat → Int32) × (Nat → Int32) × (Nat → Int32) × (Nat → Int32) × (Nat → Int32) × (Nat → Int32) × (Nat → Int32) × (Nat → Int32) × (Nat → Int32) × (Nat → Int32) × (Nat → Int32) × (Nat → Int32) × (Nat → Int32) × (Nat → Int32))) → Prop} {J757 : Int32 → Int32 → Int32 → Int32 → Int32 → Int32 → Int32 → Int32 → Int32 → Int32 → (Nat → Int32) → (Nat → Int32) → (Nat → Int32) → (Nat → Int32) → (Nat → Int32) → (Nat → Int32) → (Nat → Int32) → (Nat → Int32) → (Nat → Int32) → (Nat → Int32) → (Nat → Int32) → (Nat → Int32) → (Nat → Int32) → (Nat → Int32) → (Nat → Int32) → (Nat → Int32) → (Nat → Int32) → (Nat → Int32) → Int32 → Int32 → Int32 → Int32 → Int32 → Int32 → Int32 → Int32 → Int32 → (Nat → Int32) → (Nat → Int32) → (Nat → Int32) → (Nat → Int32) → (Nat → Int32) → (Nat → Int32) → (Nat → Int32) → (Nat → Int32) → (Nat → Int32) → (Nat → Int32) → (Nat → Int32) → (Nat → Int32) → (Nat → Int32) → (Nat → Int32) → (Nat → Int32) → (Nat → Int32) → (Nat → Int32) → (Nat → Int32) → Prop} {x1 x2 x3 x4 x5 x8 x9 x10 : Int32} {kc ks u L : Nat} (hU : U ≤ 8) (hT : T ≤ 32) (hN : N ≤ 16) (hA : nh_PV U T N K V ln) (hu : u < U) (hl : ln u = nI L) (hL : L ≤ T)
    (hJ : ∀ K' V' ln', nh_CP U T N K V ln K' V' ln' u L → J757 (nI (u + 1)) (nI U) (nI T) (nI N) on ok fl dp tt pr K V ln ue dc uu ow st w ch no ns nr es nu re oT oP (nI U) (nI T) (nI N) on' ok' fl' dp' tt' pr' K' V' ln' ue' dc' uu' ow' st' w' ch' no' ns' nr' es' nu' re' oT' oP') : ∀ (d j n : Nat) (K' V' ln' : Nat → Int32), j + d = L → d < n → nh_CP U T N K V ln K' V' ln' u j → wL_law_776 post L0 xs J110 J757 x1 x2 x3 x4 x5 x8 x9 x10 (nI u) (nI L) kc ks n (nI j) (nI U) (nI T) (nI N) on ok fl dp tt pr K V ln ue dc uu ow st w ch no ns nr es nu re oT oP (nI U) (nI T) (nI N) on' ok' fl' dp' tt' pr' K' V' ln' ue' dc' uu' ow' st' w' ch' no' ns' nr' es' nu' re' oT' oP' := by
  intro d
  induction d with
  | zero =>
    intro j n K' V' ln' hj hn h
    obtain ⟨m, rfl⟩ : ∃ m, n = m + 1 := ⟨n - 1, by omega⟩
    have e : j = L := by omega
    subst e
    exact br_t (nI_le (Nat.le_refl _) (by omega)) (nm_r (nI_1 u) (hJ K' V' ln' h))
  | succ d ih =>
    intro j n K' V' ln' hj hn h
    obtain ⟨m, rfl⟩ : ∃ m, n = m + 1 := ⟨n - 1, by omega⟩
    have hjL : j < nh_L ln u := by rw [nh_Lq (by omega) hl]; omega
    have hkd := hA.2.2.2 u j hu hjL
    have htk : nh_tk N (K (u * 32 + j)) (V (u * 32 + j)) := ⟨hkd.1, hkd.2, fun h2 => hA.2.1 _ h2⟩
    refine br_f (nI_ge (by omega) (by omega)) (nl_tkK hU hu hl (by omega) (by omega) (nl_tkV hU hu hl (by omega) (by omega) (nl_appendS hU hT hN hu ((h.2 u hu).2.1 rfl).1 (by omega) htk (br_f (by decide) (nm_r (nI_1 j) (ih (j + 1) m _ _ _ (by omega) (by omega) (nh_CPs hT hA h hu hl hL (by omega) htk)))))))
theorem nh_CPe {U T N u L : Nat} {K V ln K' V' ln' : Nat → Int32} (h : nh_CP U T N K V ln K' V' ln' u L) (hl : ln u = nI L) (hL : L < 2 ^ 31) : nh_CP U T N K V ln K' V' ln' (u + 1) 0 := by
  refine ⟨h.1, fun u1 hu1 => ⟨fun h1 => ?_, fun h1 => ?_, fun h1 => ?_⟩⟩
  · by_cases e : u1 = u
    · subst e
      have ⟨a, b⟩ := (h.2 u1 hu1).2.1 rfl
      rw [nh_Lq hL hl]
      exact ⟨a.trans hl.symm, b⟩
    · exact (h.2 u1 hu1).1 (by omega)
  · exact ⟨(h.2 u1 hu1).2.2 (by omega), fun i hi => absurd hi (Nat.not_lt_zero i)⟩
  · exact (h.2 u1 hu1).2.2 (by omega)
theorem nh_CPb {U T N u : Nat} {K V ln K' V' ln' : Nat → Int32} (h : nh_CP U T N K V ln K' V' ln' u 0) (hu : ¬ u < U) : nh_CP U T N K V ln K' V' ln' (u + 1) 0 :=
  ⟨h.1, fun u1 hu1 => ⟨fun h1 => (h.2 u1 hu1).1 (by omega), fun h1 => by omega, fun h1 => by omega⟩⟩
theorem nl_757 {U T N : Nat} {on ok fl dp tt pr : Int32} {K V ln ue dc uu ow st w ch no ns nr es nu re oT oP : Nat → Int32} {on' ok' fl' dp' tt' pr' : Int32} {ue' dc' uu' ow' st' w' ch' no' ns' nr' es' nu' re' oT' oP' : Nat → Int32} {post : Int32 → Prop} {L0 : Nat} {xs : Nat → Int32} {J110 : ((Int32 × Int32 × Int32 × Int32 × Int32 × Int32 × Int32 × Int32 × Nat × Nat × Int32 × Int32 × Int32 × Int32 × Int32 × Int32 × Int32 × Int32 × Int32 × (Nat → Int32) × (Nat → Int32) × (Nat → Int32) × (Nat → Int32) × (Nat → Int32) × (Nat → Int32) × (Nat → Int32) × (Nat → Int32) × (Nat → Int32) × (Nat → Int32) × (Nat → Int32) × (Nat → Int32) × (Nat → Int32) × (Nat → Int32) × (Nat → Int32) × (Nat → Int32) × (Nat → Int32) × (Nat → Int32)) ⊕ (Int32 × Int32 × Int32 × Int32 × Int32 × Int32 × Int32 × Int32 × Nat × Nat × Int32 × Int32 × Int32 × Int32 × Int32 × Int32 × Int32 × Int32 × Int32 × (Nat → Int32) × (Nat → Int32) × (Nat → Int32) × (Nat → Int32) × (Nat → Int32) × (Nat → Int32) × (Nat → Int32) × (Nat → Int32) × (Nat → Int32) × (Nat → Int32) × (Nat → Int32) × (Nat → Int32) × (Nat → Int32) × (Nat → Int32) × (Nat → Int32) × (Nat → Int32) × (Nat → Int32) × (Nat → Int32) × Int32 × Int32 × Int32 × Int32 × Int32 × Int32 × Int32 × Int32 × Int32 × (Nat → Int32) × (Nat → Int32) × (Nat → Int32) × (Nat → Int32) × (Nat → Int32) × (Nat → Int32) × (Nat → Int32) × (Nat → Int32) × (Nat → Int32) × (Nat → Int32) × (Nat → Int32) × (Nat → Int32) × (Nat → Int32) × (Nat → Int32) × (Nat → Int32) × (Nat → Int32) × (Nat → Int32) × (Nat → Int32))) → Prop} {x1 x2 x3 x4 x5 x8 x9 x10 : Int32} {kc ks : Nat} (hU : U ≤ 8) (hT : T ≤ 32) (hN : N ≤ 16) (hA : nh_PV U T N K V ln)
    (hE : ∀ K' V' ln', nh_CP U T N K V ln K' V' ln' 8 0 → ∀ n, wL_law_757 post L0 xs J110 x1 x2 x3 x4 x5 x8 x9 x10 kc ks (n + 1) (nI 8) (nI U) (nI T) (nI N) on ok fl dp tt pr K V ln ue dc uu ow st w ch no ns nr es nu re oT oP (nI U) (nI T) (nI N) on' ok' fl' dp' tt' pr' K' V' ln' ue' dc' uu' ow' st' w' ch' no' ns' nr' es' nu' re' oT' oP') : ∀ (d u n : Nat) (K' V' ln' : Nat → Int32), u + d = 8 → d < n → nh_CP U T N K V ln K' V' ln' u 0 → wL_law_757 post L0 xs J110 x1 x2 x3 x4 x5 x8 x9 x10 kc ks n (nI u) (nI U) (nI T) (nI N) on ok fl dp tt pr K V ln ue dc uu ow st w ch no ns nr es nu re oT oP (nI U) (nI T) (nI N) on' ok' fl' dp' tt' pr' K' V' ln' ue' dc' uu' ow' st' w' ch' no' ns' nr' es' nu' re' oT' oP' := by
  intro d
  induction d with
  | zero =>
    intro u n K' V' ln' hud hn h
    obtain ⟨m, rfl⟩ : ∃ m, n = m + 1 := ⟨n - 1, by omega⟩
    have e : u = 8 := by omega
    subst e
    exact hE K' V' ln' h m
  | succ d ih =>
    intro u n K' V' ln' hud hn h
    obtain ⟨m, rfl⟩ : ∃ m, n = m + 1 := ⟨n - 1, by omega⟩
    refine br_f (nI_ge (b := 8) (by omega) (by decide)) ?_
    unfold wpX_getLength
    by_cases hu : u < U
    · obtain ⟨L, hL, hl⟩ := hA.1 u
      refine nx_hu1 hU hu (br_f (by decide) ⟨vp_in_nI (by omega) (by decide), ?_⟩)
      rw [nI_clamp (n := u) (by omega), hl]
      exact ⟨L + 1, nl_776 hU hT hN hA hu hl hL (fun K2 V2 ln2 h2 => ih (u + 1) m K2 V2 ln2 (by omega) (by omega) (nh_CPe h2 hl (by omega))) L 0 (L + 1) K' V' ln' (by omega) (by omega) h⟩
    · refine nx_hu0 hU (Or.inr (nI_le (by omega) (by omega))) (br_t rfl ⟨1, ?_⟩)
      exact br_t (by decide) (nm_r (nI_1 u) (ih (u + 1) m K' V' ln' (by omega) (by omega) (nh_CPb h hu)))
end
section
/-! 17: one step of the law -/
theorem nl_231 {U T N : Nat} {on ok fl dp tt pr : Int32} {K V ln ue dc uu ow st w ch no ns nr es nu re oT oP : Nat → Int32} {post : Int32 → Prop} {L : Nat} {xs : Nat → Int32} {J110 : ((Int32 × Int32 × Int32 × Int32 × Int32 × Int32 × Int32 × Int32 × Nat × Nat × Int32 × Int32 × Int32 × Int32 × Int32 × Int32 × Int32 × Int32 × Int32 × (Nat → Int32) × (Nat → Int32) × (Nat → Int32) × (Nat → Int32) × (Nat → Int32) × (Nat → Int32) × (Nat → Int32) × (Nat → Int32) × (Nat → Int32) × (Nat → Int32) × (Nat → Int32) × (Nat → Int32) × (Nat → Int32) × (Nat → Int32) × (Nat → Int32) × (Nat → Int32) × (Nat → Int32) × (Nat → Int32)) ⊕ (Int32 × Int32 × Int32 × Int32 × Int32 × Int32 × Int32 × Int32 × Nat × Nat × Int32 × Int32 × Int32 × Int32 × Int32 × Int32 × Int32 × Int32 × Int32 × (Nat → Int32) × (Nat → Int32) × (Nat → Int32) × (Nat → Int32) × (Nat → Int32) × (Nat → Int32) × (Nat → Int32) × (Nat → Int32) × (Nat → Int32) × (Nat → Int32) × (Nat → Int32) × (Nat → Int32) × (Nat → Int32) × (Nat → Int32) × (Nat → Int32) × (Nat → Int32) × (Nat → Int32) × (Nat → Int32) × Int32 × Int32 × Int32 × Int32 × Int32 × Int32 × Int32 × Int32 × Int32 × (Nat → Int32) × (Nat → Int32) × (Nat → Int32) × (Nat → Int32) × (Nat → Int32) × (Nat → Int32) × (Nat → Int32) × (Nat → Int32) × (Nat → Int32) × (Nat → Int32) × (Nat → Int32) × (Nat → Int32) × (Nat → Int32) × (Nat → Int32) × (Nat → Int32) × (Nat → Int32) × (Nat → Int32) × (Nat → Int32))) → Prop} {J147 : ((Int32 × Int32 × Int32 × Int32 × Int32 × Int32 × Int32 × Int32 × Int32 × Int32 × Nat × Nat × Int32 × Int32 × Int32 × Int32 × Int32 × Int32 × Int32 × Int32 × Int32 × (Nat → Int32) × (Nat → Int32) × (Nat → Int32) × (Nat → Int32) × (Nat → Int32) × (Nat → Int32) × (Nat → Int32) × (Nat → Int32) × (Nat → Int32) × (Nat → Int32) × (Nat → Int32) × (Nat → Int32) × (Nat → Int32) × (Nat → Int32) × (Nat → Int32) × (Nat → Int32) × (Nat → Int32) × (Nat → Int32)) ⊕ (Int32 × Int32 × Int32 × Int32 × Int32 × Int32 × Int32 × Int32 × Int32 × Int32 × Nat × Nat × Int32 × Int32 × Int32 × Int32 × Int32 × Int32 × Int32 × Int32 × Int32 × (Nat → Int32) × (Nat → Int32) × (Nat → Int32) × (Nat → Int32) × (Nat → Int32) × (Nat → Int32) × (Nat → Int32) × (Nat → Int32) × (Nat → Int32) × (Nat → Int32) × (Nat → Int32) × (Nat → Int32) × (Nat → Int32) × (Nat → Int32) × (Nat → Int32) × (Nat → Int32) × (Nat → Int32) × (Nat → Int32) × Int32 × Int32 × Int32 × Int32 × Int32 × Int32 × Int32 × Int32 × Int32 × (Nat → Int32) × (Nat → Int32) × (Nat → Int32) × (Nat → Int32) × (Nat → Int32) × (Nat → Int32) × (Nat → Int32) × (Nat → Int32) × (Nat → Int32) × (Nat → Int32) × (Nat → Int32) × (Nat → Int32) × (Nat → Int32) × (Nat → Int32) × (Nat → Int32) × (Nat → Int32) × (Nat → Int32) × (Nat → Int32))) → Prop} {x1 x2 x3 x8 x9 x10 x12 x15 x16 x17 x18 x19 : Int32} {kc ks t : Nat} (hU : U ≤ 8) (hT : T ≤ 32) (hN4 : 4 ≤ N) (hN : N ≤ 16) (h : nh_PV U T N K V ln)
    (hJ : ∀ on ok fl dp tt pr K V ln ue dc uu ow st w ch no ns nr es nu re oT oP, nh_PV U T N K V ln → J147 (.inl (x1, x2, x3, nI U, nI N, x8, x9, x10, x12, nI (t + 1), kc, ks, nI U, nI T, nI N, on, ok, fl, dp, tt, pr, K, V, ln, ue, dc, uu, ow, st, w, ch, no, ns, nr, es, nu, re, oT, oP))) : wL_law_231 post L xs J110 J147 x1 x2 x3 (nI U) (nI N) x8 x9 x10 x12 (nI t) x15 x16 x17 x18 x19 kc ks (nI U) (nI T) (nI N) on ok fl dp tt pr K V ln ue dc uu ow st w ch no ns nr es nu re oT oP := by
  have hN0 : ¬ nI N = 0 := nI_ne0 (by omega) (by omega)
  have hN1 : ¬ nI N + 1 = 0 := by rw [nI_1]; exact nI_ne0 (by omega) (by omega)
  have hU1 : ¬ nI U + 1 = 0 := by rw [nI_1]; exact nI_ne0 (by omega) (by omega)
  have hr2 : ∀ r : Int32, (r = -1 ∨ ∃ l, l ≤ T ∧ r = nI l) → ¬ r + 2 = 0 := by
    intro r hr
    rcases hr with e | ⟨l, hl, e⟩
    · rw [e]; decide
    · rw [e, show nI l + 2 = nI (l + 2) from nI_add l 2]; exact nI_ne0 (by omega) (by omega)
  refine nl_mod hU1 (fun _ => nl_len hU h.1 (fun r hr => nl_mod (hr2 r hr) (fun _ _ _ => ?_)))
  refine br_c (fun _ => nl_mod hN0 (fun _ => nl_append hU hT hN h (fun _ _ _ _ h1 => nl_append hU hT hN h1 (fun _ _ _ _ h2 => nl_pk (fun _ => nl_pv hN0 (fun _ => nl_append hU hT hN h2 (fun _ _ _ _ h3 => nl_mod (by decide) (fun _ => br_c (fun _ => nl_append hU hT hN h3 (fun _ _ _ _ h4 => nm_r (nI_1 t) (hJ _ _ _ _ _ _ _ _ _ _ _ _ _ _ _ _ _ _ _ _ _ _ _ _ h4))) (fun _ => nl_binop (fun _ => nl_append hU hT hN h3 (fun _ _ _ _ h5 => nl_pk (fun _ => nl_pv hN0 (fun _ => nl_append hU hT hN h5 (fun _ _ _ _ h6 => nl_append hU hT hN h6 (fun _ _ _ _ h7 => nm_r (nI_1 t) (hJ _ _ _ _ _ _ _ _ _ _ _ _ _ _ _ _ _ _ _ _ _ _ _ _ h7)))))))))))))))) (fun _ => ?_)
  refine br_c (fun _ => nl_mod (by decide) (fun _ _ _ => br_c (fun _ => nl_mod hN1 (fun _ => nl_append hU hT hN h (fun _ _ _ _ h8 => nm_r (nI_1 t) (hJ _ _ _ _ _ _ _ _ _ _ _ _ _ _ _ _ _ _ _ _ _ _ _ _ h8)))) (fun _ => nl_append hU hT hN h (fun _ _ _ _ h9 => nm_r (nI_1 t) (hJ _ _ _ _ _ _ _ _ _ _ _ _ _ _ _ _ _ _ _ _ _ _ _ _ h9))))) (fun _ => ?_)
  refine br_c (fun _ => nl_mod (by decide) (fun _ => br_c (fun _ => nl_mod hN1 (fun _ => nl_set hU hT hN h (fun _ _ _ _ h10 => nm_r (nI_1 t) (hJ _ _ _ _ _ _ _ _ _ _ _ _ _ _ _ _ _ _ _ _ _ _ _ _ h10)))) (fun _ => nl_set hU hT hN h (fun _ _ _ _ h11 => nm_r (nI_1 t) (hJ _ _ _ _ _ _ _ _ _ _ _ _ _ _ _ _ _ _ _ _ _ _ _ _ h11))))) (fun _ => ?_)
  refine br_c (fun _ => nl_mod (by decide) (fun _ => br_c (fun _ => nl_mod hN1 (fun _ => nl_ins hU hT hN h (fun _ _ _ _ h12 => nm_r (nI_1 t) (hJ _ _ _ _ _ _ _ _ _ _ _ _ _ _ _ _ _ _ _ _ _ _ _ _ h12)))) (fun _ => nl_ins hU hT hN h (fun _ _ _ _ h13 => nm_r (nI_1 t) (hJ _ _ _ _ _ _ _ _ _ _ _ _ _ _ _ _ _ _ _ _ _ _ _ _ h13))))) (fun _ => ?_)
  refine br_c (fun _ => nl_del hU hT hN h (fun _ _ _ _ h14 => nm_r (nI_1 t) (hJ _ _ _ _ _ _ _ _ _ _ _ _ _ _ _ _ _ _ _ _ _ _ _ _ h14))) (fun _ => ?_)
  refine br_c (fun _ => nl_clear hU h (fun _ _ _ _ h15 => nm_r (nI_1 t) (hJ _ _ _ _ _ _ _ _ _ _ _ _ _ _ _ _ _ _ _ _ _ _ _ _ h15))) (fun _ => ?_)
  refine br_c (fun _ => nl_build hU hT hN h (fun _ _ _ _ _ _ _ _ _ _ _ _ _ _ _ _ _ _ _ _ _ _ => nm_r (nI_1 t) (hJ _ _ _ _ _ _ _ _ _ _ _ _ _ _ _ _ _ _ _ _ _ _ _ _ h))) (fun _ => ?_)
  exact nl_mod hN0 (fun _ => nl_append hU hT hN h (fun _ _ _ _ h16 => nl_append hU hT hN h16 (fun _ _ _ _ h17 => nl_append hU hT hN h17 (fun _ _ _ _ h18 => nl_append hU hT hN h18 (fun _ _ _ _ h19 => nl_pk (fun _ => nl_pv hN0 (fun _ => nl_append hU hT hN h19 (fun _ _ _ _ h20 => nl_mod (by decide) (fun _ => nl_binop (fun _ => nl_append hU hT hN h20 (fun _ _ _ _ h21 => nl_pk (fun _ => nl_pv hN0 (fun _ => nl_append hU hT hN h21 (fun _ _ _ _ h22 => nl_append hU hT hN h22 (fun _ _ _ _ h23 => nl_append hU hT hN h23 (fun _ _ _ _ h24 => nm_r (nI_1 t) (hJ _ _ _ _ _ _ _ _ _ _ _ _ _ _ _ _ _ _ _ _ _ _ _ _ h24)))))))))))))))))
theorem nl_231b {U T N : Nat} {on ok fl dp tt pr : Int32} {K V ln ue dc uu ow st w ch no ns nr es nu re oT oP : Nat → Int32} {on' ok' fl' dp' tt' pr' : Int32} {K' V' ln' ue' dc' uu' ow' st' w' ch' no' ns' nr' es' nu' re' oT' oP' : Nat → Int32} {post : Int32 → Prop} {L : Nat} {xs : Nat → Int32} {J110 : ((Int32 × Int32 × Int32 × Int32 × Int32 × Int32 × Int32 × Int32 × Nat × Nat × Int32 × Int32 × Int32 × Int32 × Int32 × Int32 × Int32 × Int32 × Int32 × (Nat → Int32) × (Nat → Int32) × (Nat → Int32) × (Nat → Int32) × (Nat → Int32) × (Nat → Int32) × (Nat → Int32) × (Nat → Int32) × (Nat → Int32) × (Nat → Int32) × (Nat → Int32) × (Nat → Int32) × (Nat → Int32) × (Nat → Int32) × (Nat → Int32) × (Nat → Int32) × (Nat → Int32) × (Nat → Int32)) ⊕ (Int32 × Int32 × Int32 × Int32 × Int32 × Int32 × Int32 × Int32 × Nat × Nat × Int32 × Int32 × Int32 × Int32 × Int32 × Int32 × Int32 × Int32 × Int32 × (Nat → Int32) × (Nat → Int32) × (Nat → Int32) × (Nat → Int32) × (Nat → Int32) × (Nat → Int32) × (Nat → Int32) × (Nat → Int32) × (Nat → Int32) × (Nat → Int32) × (Nat → Int32) × (Nat → Int32) × (Nat → Int32) × (Nat → Int32) × (Nat → Int32) × (Nat → Int32) × (Nat → Int32) × (Nat → Int32) × Int32 × Int32 × Int32 × Int32 × Int32 × Int32 × Int32 × Int32 × Int32 × (Nat → Int32) × (Nat → Int32) × (Nat → Int32) × (Nat → Int32) × (Nat → Int32) × (Nat → Int32) × (Nat → Int32) × (Nat → Int32) × (Nat → Int32) × (Nat → Int32) × (Nat → Int32) × (Nat → Int32) × (Nat → Int32) × (Nat → Int32) × (Nat → Int32) × (Nat → Int32) × (Nat → Int32) × (Nat → Int32))) → Prop} {J147 : ((Int32 × Int32 × Int32 × Int32 × Int32 × Int32 × Int32 × Int32 × Int32 × Int32 × Nat × Nat × Int32 × Int32 × Int32 × Int32 × Int32 × Int32 × Int32 × Int32 × Int32 × (Nat → Int32) × (Nat → Int32) × (Nat → Int32) × (Nat → Int32) × (Nat → Int32) × (Nat → Int32) × (Nat → Int32) × (Nat → Int32) × (Nat → Int32) × (Nat → Int32) × (Nat → Int32) × (Nat → Int32) × (Nat → Int32) × (Nat → Int32) × (Nat → Int32) × (Nat → Int32) × (Nat → Int32) × (Nat → Int32)) ⊕ (Int32 × Int32 × Int32 × Int32 × Int32 × Int32 × Int32 × Int32 × Int32 × Int32 × Nat × Nat × Int32 × Int32 × Int32 × Int32 × Int32 × Int32 × Int32 × Int32 × Int32 × (Nat → Int32) × (Nat → Int32) × (Nat → Int32) × (Nat → Int32) × (Nat → Int32) × (Nat → Int32) × (Nat → Int32) × (Nat → Int32) × (Nat → Int32) × (Nat → Int32) × (Nat → Int32) × (Nat → Int32) × (Nat → Int32) × (Nat → Int32) × (Nat → Int32) × (Nat → Int32) × (Nat → Int32) × (Nat → Int32) × Int32 × Int32 × Int32 × Int32 × Int32 × Int32 × Int32 × Int32 × Int32 × (Nat → Int32) × (Nat → Int32) × (Nat → Int32) × (Nat → Int32) × (Nat → Int32) × (Nat → Int32) × (Nat → Int32) × (Nat → Int32) × (Nat → Int32) × (Nat → Int32) × (Nat → Int32) × (Nat → Int32) × (Nat → Int32) × (Nat → Int32) × (Nat → Int32) × (Nat → Int32) × (Nat → Int32) × (Nat → Int32))) → Prop} {x1 x2 x3 x8 x9 x10 x12 x15 x16 x17 x18 x19 : Int32} {kc ks t : Nat} (hU : U ≤ 8) (hT : T ≤ 32) (hN4 : 4 ≤ N) (hN : N ≤ 16) (h : nh_PV U T N K V ln)
    (h6 : ¬ x15 = 6) (hJ : ∀ K V ln, nh_PV U T N K V ln → J147 (.inr (x1, x2, x3, nI U, nI N, x8, x9, x10, x12, nI (t + 1), kc, ks, nI U, nI T, nI N, on, ok, fl, dp, tt, pr, K, V, ln, ue, dc, uu, ow, st, w, ch, no, ns, nr, es, nu, re, oT, oP, nI U, nI T, nI N, on', ok', fl', dp', tt', pr', K', V', ln', ue', dc', uu', ow', st', w', ch', no', ns', nr', es', nu', re', oT', oP'))) : wL_law_231_2 post L xs J110 J147 x1 x2 x3 (nI U) (nI N) x8 x9 x10 x12 (nI t) x15 x16 x17 x18 x19 kc ks (nI U) (nI T) (nI N) on ok fl dp tt pr K V ln ue dc uu ow st w ch no ns nr es nu re oT oP (nI U) (nI T) (nI N) on' ok' fl' dp' tt' pr' K' V' ln' ue' dc' uu' ow' st' w' ch' no' ns' nr' es' nu' re' oT' oP' := by
  have hN0 : ¬ nI N = 0 := nI_ne0 (by omega) (by omega)
  have hN1 : ¬ nI N + 1 = 0 := by rw [nI_1]; exact nI_ne0 (by omega) (by omega)
  have hU1 : ¬ nI U + 1 = 0 := by rw [nI_1]; exact nI_ne0 (by omega) (by omega)
  have hr2 : ∀ r : Int32, (r = -1 ∨ ∃ l, l ≤ T ∧ r = nI l) → ¬ r + 2 = 0 := by
    intro r hr
    rcases hr with e | ⟨l, hl, e⟩
    · rw [e]; decide
    · rw [e, show nI l + 2 = nI (l + 2) from nI_add l 2]; exact nI_ne0 (by omega) (by omega)
  refine nl_mod hU1 (fun _ => nl_len hU h.1 (fun r hr => nl_mod (hr2 r hr) (fun _ _ _ => ?_)))
  refine br_c (fun _ => nl_mod hN0 (fun _ => nl_append hU hT hN h (fun _ _ _ _ h1 => nl_append hU hT hN h1 (fun _ _ _ _ h2 => nl_pk (fun _ => nl_pv hN0 (fun _ => nl_append hU hT hN h2 (fun _ _ _ _ h3 => nl_mod (by decide) (fun _ => br_c (fun _ => nl_append hU hT hN h3 (fun _ _ _ _ h4 => nm_r (nI_1 t) (hJ _ _ _ h4))) (fun _ => nl_binop (fun _ => nl_append hU hT hN h3 (fun _ _ _ _ h5 => nl_pk (fun _ => nl_pv hN0 (fun _ => nl_append hU hT hN h5 (fun _ _ _ _ h6 => nl_append hU hT hN h6 (fun _ _ _ _ h7 => nm_r (nI_1 t) (hJ _ _ _ h7)))))))))))))))) (fun _ => ?_)
  refine br_c (fun _ => nl_mod (by decide) (fun _ _ _ => br_c (fun _ => nl_mod hN1 (fun _ => nl_append hU hT hN h (fun _ _ _ _ h8 => nm_r (nI_1 t) (hJ _ _ _ h8)))) (fun _ => nl_append hU hT hN h (fun _ _ _ _ h9 => nm_r (nI_1 t) (hJ _ _ _ h9))))) (fun _ => ?_)
  refine br_c (fun _ => nl_mod (by decide) (fun _ => br_c (fun _ => nl_mod hN1 (fun _ => nl_set hU hT hN h (fun _ _ _ _ h10 => nm_r (nI_1 t) (hJ _ _ _ h10)))) (fun _ => nl_set hU hT hN h (fun _ _ _ _ h11 => nm_r (nI_1 t) (hJ _ _ _ h11))))) (fun _ => ?_)
  refine br_c (fun _ => nl_mod (by decide) (fun _ => br_c (fun _ => nl_mod hN1 (fun _ => nl_ins hU hT hN h (fun _ _ _ _ h12 => nm_r (nI_1 t) (hJ _ _ _ h12)))) (fun _ => nl_ins hU hT hN h (fun _ _ _ _ h13 => nm_r (nI_1 t) (hJ _ _ _ h13))))) (fun _ => ?_)
  refine br_c (fun _ => nl_del hU hT hN h (fun _ _ _ _ h14 => nm_r (nI_1 t) (hJ _ _ _ h14))) (fun _ => ?_)
  refine br_c (fun _ => nl_clear hU h (fun _ _ _ _ h15 => nm_r (nI_1 t) (hJ _ _ _ h15))) (fun _ => ?_)
  refine br_f h6 ?_
  exact nl_mod hN0 (fun _ => nl_append hU hT hN h (fun _ _ _ _ h16 => nl_append hU hT hN h16 (fun _ _ _ _ h17 => nl_append hU hT hN h17 (fun _ _ _ _ h18 => nl_append hU hT hN h18 (fun _ _ _ _ h19 => nl_pk (fun _ => nl_pv hN0 (fun _ => nl_append hU hT hN h19 (fun _ _ _ _ h20 => nl_mod (by decide) (fun _ => nl_binop (fun _ => nl_append hU hT hN h20 (fun _ _ _ _ h21 => nl_pk (fun _ => nl_pv hN0 (fun _ => nl_append hU hT hN h21 (fun _ _ _ _ h22 => nl_append hU hT hN h22 (fun _ _ _ _ h23 => nl_append hU hT hN h23 (fun _ _ _ _ h24 => nm_r (nI_1 t) (hJ _ _ _ h24)))))))))))))))))
end
section
/-! 18: the law -/
theorem nh_x14 (t : Nat) : (4 : Int32) + 5 * nI t = nI (4 + 5 * t) := by
  rw [show (5 : Int32) = nI 5 from by decide, pk_mul, show (4 : Int32) = nI 4 from by decide, nI_add]
/-- the results of two builds over the same tokens -/
theorem nh_res {U N : Nat} {K V ln K' V' ln' uu uu' no no' ns ns' nr nr' ue ue' dc dc' ow ow' st st' w w' : Nat → Int32} (hN : N ≤ 16) (hTV : nh_TV N K V) (h : nh_ag U K V K' V' (nh_L ln) (nh_L ln'))
    (hb : ∀ u, u < U → nh_ubits K V ln u (uu u)) (hO : nh_OS K V (nh_L ln) U N no) (hs : nh_sol (nh_ow K V (nh_L ln) U) (nh_uq K V (nh_L ln) U) (nh_vl K V (nh_L ln) U) N ns nr)
    (hb' : ∀ u, u < U → nh_ubits K' V' ln' u (uu' u)) (hO' : nh_OS K' V' (nh_L ln') U N no') (hs' : nh_sol (nh_ow K' V' (nh_L ln') U) (nh_uq K' V' (nh_L ln') U) (nh_vl K' V' (nh_L ln') U) N ns' nr') :
    nh_AR U N (nh_mx U (nh_E K ln) ue) (nh_mx U (nh_C K ln) dc) uu (nh_mx N no ow) (nh_mx N ns st) (nh_mx N nr w) (nh_mx U (nh_E K' ln') ue') (nh_mx U (nh_C K' ln') dc') uu' (nh_mx N no' ow') (nh_mx N ns' st') (nh_mx N nr' w') := by
  have ho := nh_agow h
  rw [← ho, ← nh_aguq h, ← nh_agvl h] at hs'
  have hu := nh_sol1 (O := nh_ow K V (nh_L ln) U) (Q := nh_uq K V (nh_L ln) U) (E := nh_vl K V (nh_L ln) U) (fun n w w' x a b => nh_vlc hTV hN a b) (fun n w x y a b => nh_vl1 a b) hs hs'
  refine ⟨fun u hu => ?_, fun u hu => ?_, fun u m hu hm => ?_, fun n hn => ?_, fun n hn => ?_, fun n hn => ?_⟩
  · rw [nh_mxl hu, nh_mxl hu]; exact nh_agE h hu
  · rw [nh_mxl hu, nh_mxl hu]; exact nh_agC h hu
  · have h1 := hb u hu m (by omega)
    have h2 := hb' u hu m (by omega)
    have hi : (nh_E K ln u = -1 ∧ nh_uu K V (u * 32) (nh_L ln u) m) ↔ (nh_E K' ln' u = -1 ∧ nh_uu K' V' (u * 32) (nh_L ln' u) m) := by
      rw [nh_agE h hu]
      exact ⟨fun a => ⟨a.1, nh_aguu h hu a.2⟩, fun a => ⟨a.1, nh_aguu (nh_ags h) hu a.2⟩⟩
    rw [hi, ← h2] at h1
    cases e : bt (uu' u) m
    · exact nh_bt0 (fun h3 => by rw [h1.mp h3] at e; exact absurd e (by decide))
    · exact h1.mpr e
  · rw [nh_mxl hn, nh_mxl hn]
    rcases Classical.em (nh_ow K V (nh_L ln) U n) with h1 | h1
    · obtain ⟨u, s, hf⟩ := h1
      rw [(hO n hn).2 u s hf, (hO' n hn).2 u s (nh_agfs h hf)]
    · rw [(hO n hn).1 h1, (hO' n hn).1 (by rw [← ho]; exact h1)]
  · rw [nh_mxl hn, nh_mxl hn]; exact (hu n hn).1
  · rw [nh_mxl hn, nh_mxl hn]; exact (hu n hn).2
theorem nh_CPag {U T N : Nat} {K V ln K' V' ln' : Nat → Int32} (hU : U ≤ 8) (h : nh_CP U T N K V ln K' V' ln' 8 0) : nh_ag U K V K' V' (nh_L ln) (nh_L ln') := by
  intro u hu
  have ⟨a, b⟩ := (h.2 u hu).1 (by omega)
  exact ⟨by unfold nh_L; rw [a], b⟩
/-- the second round: edits of A alone, then the results compared once more -/
theorem nl_147b {U T N : Nat} {on ok fl dp tt pr : Int32} {ue dc uu ow st w ch no ns nr es nu re oT oP : Nat → Int32} {on' ok' fl' dp' tt' pr' : Int32} {K' V' ln' ue' dc' uu' ow' st' w' ch' no' ns' nr' es' nu' re' oT' oP' : Nat → Int32} {post : Int32 → Prop} {L : Nat} {xs : Nat → Int32} {J110 : ((Int32 × Int32 × Int32 × Int32 × Int32 × Int32 × Int32 × Int32 × Nat × Nat × Int32 × Int32 × Int32 × Int32 × Int32 × Int32 × Int32 × Int32 × Int32 × (Nat → Int32) × (Nat → Int32) × (Nat → Int32) × (Nat → Int32) × (Nat → Int32) × (Nat → Int32) × (Nat → Int32) × (Nat → Int32) × (Nat → Int32) × (Nat → Int32) × (Nat → Int32) × (Nat → Int32) × (Nat → Int32) × (Nat → Int32) × (Nat → Int32) × (Nat → Int32) × (Nat → Int32) × (Nat → Int32)) ⊕ (Int32 × Int32 × Int32 × Int32 × Int32 × Int32 × Int32 × Int32 × Nat × Nat × Int32 × Int32 × Int32 × Int32 × Int32 × Int32 × Int32 × Int32 × Int32 × (Nat → Int32) × (Nat → Int32) × (Nat → Int32) × (Nat → Int32) × (Nat → Int32) × (Nat → Int32) × (Nat → Int32) × (Nat → Int32) × (Nat → Int32) × (Nat → Int32) × (Nat → Int32) × (Nat → Int32) × (Nat → Int32) × (Nat → Int32) × (Nat → Int32) × (Nat → Int32) × (Nat → Int32) × (Nat → Int32) × Int32 × Int32 × Int32 × Int32 × Int32 × Int32 × Int32 × Int32 × Int32 × (Nat → Int32) × (Nat → Int32) × (Nat → Int32) × (Nat → Int32) × (Nat → Int32) × (Nat → Int32) × (Nat → Int32) × (Nat → Int32) × (Nat → Int32) × (Nat → Int32) × (Nat → Int32) × (Nat → Int32) × (Nat → Int32) × (Nat → Int32) × (Nat → Int32) × (Nat → Int32) × (Nat → Int32) × (Nat → Int32))) → Prop} {x1 x2 x3 x9 : Int32} {kc ks M : Nat} (hL : L ≤ 260) (hU : U ≤ 8) (hT : T ≤ 32) (hN4 : 4 ≤ N) (hN : N ≤ 16) (hM : M ≤ 60) (hR : nh_AR U N ue dc uu ow st w ue' dc' uu' ow' st' w')
    (hJ : ∀ K V ln, J110 (.inr (x1, x2, x3, nI U, nI N, nI M, x9, 2, kc, ks, nI U, nI T, nI N, on, ok, fl, dp, tt, pr, K, V, ln, ue, dc, uu, ow, st, w, ch, no, ns, nr, es, nu, re, oT, oP, nI U, nI T, nI N, on', ok', fl', dp', tt', pr', K', V', ln', ue', dc', uu', ow', st', w', ch', no', ns', nr', es', nu', re', oT', oP'))) :
    ∀ (d t n : Nat) (K V ln : Nat → Int32), t + d = M → d < n → nh_PV U T N K V ln → wL_law_147 post L xs J110 n (.inr (x1, x2, x3, nI U, nI N, nI M, x9, 1, nI M, nI t, kc, ks, nI U, nI T, nI N, on, ok, fl, dp, tt, pr, K, V, ln, ue, dc, uu, ow, st, w, ch, no, ns, nr, es, nu, re, oT, oP, nI U, nI T, nI N, on', ok', fl', dp', tt', pr', K', V', ln', ue', dc', uu', ow', st', w', ch', no', ns', nr', es', nu', re', oT', oP')) := by
  intro d
  induction d with
  | zero =>
    intro t n K V ln ht hn h
    obtain ⟨m, rfl⟩ : ∃ m, n = m + 1 := ⟨n - 1, by omega⟩
    refine br_t (nI_le (by omega) (by omega)) (br_f (by decide) ⟨20, ?_⟩)
    exact nl_834 hU hT hN hR (fun h0 => absurd h0 (by decide)) (by decide) (hJ K V ln) 19 0 20 (-1) (by decide) (by omega) (by omega)
  | succ d ih =>
    intro t n K V ln ht hn h
    obtain ⟨m, rfl⟩ : ∃ m, n = m + 1 := ⟨n - 1, by omega⟩
    refine br_f (nI_ge (by omega) (by omega)) (nm_r (nh_x14 t) ?_)
    have step : ∀ x15 x16 x17 x18 x19 : Int32, ¬ x15 = 6 → wL_law_231_2 post L xs J110 (wL_law_147 post L xs J110 m) x1 x2 x3 (nI U) (nI N) (nI M) x9 1 (nI M) (nI t) x15 x16 x17 x18 x19 kc ks (nI U) (nI T) (nI N) on ok fl dp tt pr K V ln ue dc uu ow st w ch no ns nr es nu re oT oP (nI U) (nI T) (nI N) on' ok' fl' dp' tt' pr' K' V' ln' ue' dc' uu' ow' st' w' ch' no' ns' nr' es' nu' re' oT' oP' :=
      fun x15 x16 x17 x18 x19 h6 => nl_231b hU hT hN4 hN h h6 (fun K2 V2 ln2 h2 => ih (t + 1) m K2 V2 ln2 (by omega) (by omega) h2)
    refine nl_cell hL (by omega) (fun _ => nl_mod (by decide) (fun r15 => ?_))
    rw [show nI (4 + 5 * t) + 1 = nI (4 + 5 * t + 1) from nI_add _ 1, show nI (4 + 5 * t) + 2 = nI (4 + 5 * t + 2) from nI_add _ 2, show nI (4 + 5 * t) + 3 = nI (4 + 5 * t + 3) from nI_add _ 3, show nI (4 + 5 * t) + 4 = nI (4 + 5 * t + 4) from nI_add _ 4]
    refine nl_cell hL (by omega) (fun r16 => nl_cell hL (by omega) (fun r17 => nl_cell hL (by omega) (fun r18 => nl_cell hL (by omega) (fun r19 => br_t rfl (br_c (fun _ => step 4 r16 r17 r18 r19 (by decide)) (fun h6 => step r15 r16 r17 r18 r19 h6))))))
/-- the first round: edits and builds of A; then A is built, copied into F, F is built, all is compared -/
theorem nl_147a {U T N : Nat} {post : Int32 → Prop} {L : Nat} {xs : Nat → Int32} {J110 : ((Int32 × Int32 × Int32 × Int32 × Int32 × Int32 × Int32 × Int32 × Nat × Nat × Int32 × Int32 × Int32 × Int32 × Int32 × Int32 × Int32 × Int32 × Int32 × (Nat → Int32) × (Nat → Int32) × (Nat → Int32) × (Nat → Int32) × (Nat → Int32) × (Nat → Int32) × (Nat → Int32) × (Nat → Int32) × (Nat → Int32) × (Nat → Int32) × (Nat → Int32) × (Nat → Int32) × (Nat → Int32) × (Nat → Int32) × (Nat → Int32) × (Nat → Int32) × (Nat → Int32) × (Nat → Int32)) ⊕ (Int32 × Int32 × Int32 × Int32 × Int32 × Int32 × Int32 × Int32 × Nat × Nat × Int32 × Int32 × Int32 × Int32 × Int32 × Int32 × Int32 × Int32 × Int32 × (Nat → Int32) × (Nat → Int32) × (Nat → Int32) × (Nat → Int32) × (Nat → Int32) × (Nat → Int32) × (Nat → Int32) × (Nat → Int32) × (Nat → Int32) × (Nat → Int32) × (Nat → Int32) × (Nat → Int32) × (Nat → Int32) × (Nat → Int32) × (Nat → Int32) × (Nat → Int32) × (Nat → Int32) × (Nat → Int32) × Int32 × Int32 × Int32 × Int32 × Int32 × Int32 × Int32 × Int32 × Int32 × (Nat → Int32) × (Nat → Int32) × (Nat → Int32) × (Nat → Int32) × (Nat → Int32) × (Nat → Int32) × (Nat → Int32) × (Nat → Int32) × (Nat → Int32) × (Nat → Int32) × (Nat → Int32) × (Nat → Int32) × (Nat → Int32) × (Nat → Int32) × (Nat → Int32) × (Nat → Int32) × (Nat → Int32) × (Nat → Int32))) → Prop} {x1 x2 x3 x8 : Int32} {kc ks P : Nat} (hL : L ≤ 260) (hU : U ≤ 8) (hT : T ≤ 32) (hN4 : 4 ≤ N) (hN : N ≤ 16) (hP : P ≤ 60) (hkc : kc ≤ 100) (hks : ks ≤ 2000)
    (xU : ∀ post : Int32 → Prop, post (nI U) → wpX_clamp post () x1 2 8) (xT : ∀ post : Int32 → Prop, post (nI T) → wpX_clamp post () x2 8 32) (xN : ∀ post : Int32 → Prop, post (nI N) → wpX_clamp post () x3 4 16)
    (hJ : ∀ on ok fl dp tt pr K V ln ue dc uu ow st w ch no ns nr es nu re oT oP on' ok' fl' dp' tt' pr' K' V' ln' ue' dc' uu' ow' st' w' ch' no' ns' nr' es' nu' re' oT' oP', nh_PV U T N K V ln → nh_AR U N ue dc uu ow st w ue' dc' uu' ow' st' w' → J110 (.inr (x1, x2, x3, nI U, nI N, x8, nI P, 1, kc + 1 + 18, ks + 27 + 768, nI U, nI T, nI N, on, ok, fl, dp, tt, pr, K, V, ln, ue, dc, uu, ow, st, w, ch, no, ns, nr, es, nu, re, oT, oP, nI U, nI T, nI N, on', ok', fl', dp', tt', pr', K', V', ln', ue', dc', uu', ow', st', w', ch', no', ns', nr', es', nu', re', oT', oP'))) :
    ∀ (d t n : Nat) (on ok fl dp tt pr : Int32) (K V ln ue dc uu ow st w ch no ns nr es nu re oT oP : Nat → Int32), t + d = P → d < n → nh_PV U T N K V ln → wL_law_147 post L xs J110 n (.inl (x1, x2, x3, nI U, nI N, x8, nI P, 0, nI P, nI t, kc, ks, nI U, nI T, nI N, on, ok, fl, dp, tt, pr, K, V, ln, ue, dc, uu, ow, st, w, ch, no, ns, nr, es, nu, re, oT, oP)) := by
  intro d
  induction d with
  | zero =>
    intro t n on ok fl dp tt pr K V ln ue dc uu ow st w ch no ns nr es nu re oT oP ht hn h
    obtain ⟨m, rfl⟩ : ∃ m, n = m + 1 := ⟨n - 1, by omega⟩
    refine br_t (nI_le (by omega) (by omega)) (br_t rfl (nx_build hU hN hT h.1 h.2.1 (fun on1 ok1 fl1 dp1 tt1 pr1 uu1 no1 ns1 nr1 es1 nu1 re1 oT1 oP1 hb hO hs => ⟨by omega, by omega, 18, 768, by omega, by omega, ?_⟩)))
    refine nl_init xU xT xN (fun on2 ok2 fl2 dp2 tt2 pr2 ue2 dc2 uu2 ow2 st2 w2 ch2 no2 ns2 nr2 es2 nu2 re2 oT2 oP2 => ⟨9, ?_⟩)
    refine nl_757 hU hT hN h (fun K2 V2 ln2 hc n1 => ?_) 8 0 9 nh_z0 nh_z0 nh_z0 (by omega) (by omega) ⟨nh_PV0, fun u1 hu1 => ⟨fun h1 => absurd h1 (Nat.not_lt_zero u1), fun _ => ⟨rfl, fun i hi => absurd hi (Nat.not_lt_zero i)⟩, fun _ => rfl⟩⟩
    refine br_t (nI_le (a := 8) (Nat.le_refl 8) (by decide)) (nx_build hU hN hT hc.1.1 hc.1.2.1 (fun on3 ok3 fl3 dp3 tt3 pr3 uu3 no3 ns3 nr3 es3 nu3 re3 oT3 oP3 hb3 hO3 hs3 => ⟨20, ?_⟩))
    have hag := nh_CPag hU hc
    have hAR := nh_res (ue := ue) (ue' := ue2) (dc := dc) (dc' := dc2) (ow := ow) (ow' := ow2) (st := st) (st' := st2) (w := w) (w' := w2) hN h.2.1 hag hb hO hs hb3 hO3 hs3
    refine nl_834 hU hT hN hAR (fun _ => ⟨h.1, fun u hu => ((hc.2 u hu).1 (by omega)).1.symm, fun u i hu hi => ((hag u hu).2 i hi).1, fun u i hu hi => ((hag u hu).2 i hi).2⟩) (by decide) (hJ _ _ _ _ _ _ _ _ _ _ _ _ _ _ _ _ _ _ _ _ _ _ _ _ _ _ _ _ _ _ _ _ _ _ _ _ _ _ _ _ _ _ _ _ _ _ _ _ h hAR) 19 0 20 (-1) (by decide) (by omega) (by omega)
  | succ d ih =>
    intro t n on ok fl dp tt pr K V ln ue dc uu ow st w ch no ns nr es nu re oT oP ht hn h
    obtain ⟨m, rfl⟩ : ∃ m, n = m + 1 := ⟨n - 1, by omega⟩
    refine br_f (nI_ge (by omega) (by omega)) (nm_r (nh_x14 t) ?_)
    have step : ∀ x15 x16 x17 x18 x19 : Int32, wL_law_231 post L xs J110 (wL_law_147 post L xs J110 m) x1 x2 x3 (nI U) (nI N) x8 (nI P) 0 (nI P) (nI t) x15 x16 x17 x18 x19 kc ks (nI U) (nI T) (nI N) on ok fl dp tt pr K V ln ue dc uu ow st w ch no ns nr es nu re oT oP :=
      fun x15 x16 x17 x18 x19 => nl_231 hU hT hN4 hN h (fun on2 ok2 fl2 dp2 tt2 pr2 K2 V2 ln2 ue2 dc2 uu2 ow2 st2 w2 ch2 no2 ns2 nr2 es2 nu2 re2 oT2 oP2 h2 => ih (t + 1) m on2 ok2 fl2 dp2 tt2 pr2 K2 V2 ln2 ue2 dc2 uu2 ow2 st2 w2 ch2 no2 ns2 nr2 es2 nu2 re2 oT2 oP2 (by omega) (by omega) h2)
    refine nl_cell hL (by omega) (fun _ => nl_mod (by decide) (fun r15 => ?_))
    rw [show nI (4 + 5 * t) + 1 = nI (4 + 5 * t + 1) from nI_add _ 1, show nI (4 + 5 * t) + 2 = nI (4 + 5 * t + 2) from nI_add _ 2, show nI (4 + 5 * t) + 3 = nI (4 + 5 * t + 3) from nI_add _ 3, show nI (4 + 5 * t) + 4 = nI (4 + 5 * t + 4) from nI_add _ 4]
    refine nl_cell hL (by omega) (fun r16 => nl_cell hL (by omega) (fun r17 => nl_cell hL (by omega) (fun r18 => nl_cell hL (by omega) (fun r19 => br_f (by decide) (step r15 r16 r17 r18 r19)))))
end
section
/-! 19: the owed statement -/
theorem nl_93 {U T N : Nat} {on ok fl dp tt pr : Int32} {K V ln ue dc uu ow st w ch no ns nr es nu re oT oP : Nat → Int32} {L : Nat} {xs : Nat → Int32} {x1 x2 x3 : Int32} {M : Nat} (hL : L ≤ 260) (hU : U ≤ 8) (hT : T ≤ 32) (hN4 : 4 ≤ N) (hN : N ≤ 16) (hM : M ≤ 60)
    (xU : ∀ post : Int32 → Prop, post (nI U) → wpX_clamp post () x1 2 8) (xT : ∀ post : Int32 → Prop, post (nI T) → wpX_clamp post () x2 8 32) (xN : ∀ post : Int32 → Prop, post (nI N) → wpX_clamp post () x3 4 16)
    (h : nh_PV U T N K V ln) : wL_law_93 (fun r => r = 1) L xs x1 x2 x3 (nI U) (nI N) (nI M) (1 + 18) (27 + 768) (nI U) (nI T) (nI N) on ok fl dp tt pr K V ln ue dc uu ow st w ch no ns nr es nu re oT oP := by
  refine nl_cell (q := 3) hL (by decide) (fun r => ?_)
  rw [nI_1 M]
  refine nl_modr (by omega) (by omega) (fun P hP => ⟨2 + 1, ?_⟩)
  refine br_f (by decide) (br_t rfl (br_t rfl ⟨P + 1, ?_⟩))
  refine nl_147a hL hU hT hN4 hN (by omega) (by omega) (by omega) xU xT xN (fun on ok fl dp tt pr K V ln ue dc uu ow st w ch no ns nr es nu re oT oP on' ok' fl' dp' tt' pr' K' V' ln' ue' dc' uu' ow' st' w' ch' no' ns' nr' es' nu' re' oT' oP' h1 hR => ?_) P 0 (P + 1) _ _ _ _ _ _ _ _ _ _ _ _ _ _ _ _ _ _ _ _ _ _ _ _ (by omega) (by omega) h
  have hB : wL_law_110 (fun r => r = 1) L xs (1 + 1) (.inr (x1, x2, x3, nI U, nI N, nI M, nI P, 1, 1 + 18 + 1 + 18, 27 + 768 + 27 + 768, nI U, nI T, nI N, on, ok, fl, dp, tt, pr, K, V, ln, ue, dc, uu, ow, st, w, ch, no, ns, nr, es, nu, re, oT, oP, nI U, nI T, nI N, on', ok', fl', dp', tt', pr', K', V', ln', ue', dc', uu', ow', st', w', ch', no', ns', nr', es', nu', re', oT', oP')) := by
    refine br_f (by decide) (br_f (by decide) (br_f (by decide) ⟨M - P + 1, ?_⟩))
    refine nl_147b hL hU hT hN4 hN hM hR (fun K2 V2 ln2 => ?_) (M - P) P (M - P + 1) K V ln (by omega) (by omega) h1
    have hC : wL_law_110 (fun r => r = 1) L xs (0 + 1) (.inr (x1, x2, x3, nI U, nI N, nI M, nI P, 2, 1 + 18 + 1 + 18, 27 + 768 + 27 + 768, nI U, nI T, nI N, on, ok, fl, dp, tt, pr, K2, V2, ln2, ue, dc, uu, ow, st, w, ch, no, ns, nr, es, nu, re, oT, oP, nI U, nI T, nI N, on', ok', fl', dp', tt', pr', K', V', ln', ue', dc', uu', ow', st', w', ch', no', ns', nr', es', nu', re', oT', oP')) := br_t (by decide) rfl
    exact hC
  exact hB
theorem i_vc (xs : Nat → Int32) (L : Nat) (hL : L ≤ 260) : wpL_law (fun r => r = 1) L xs := by
  unfold wpL_law
  refine nl_cell (q := 0) hL (by decide) (fun r1 => nl_mod (by decide) (fun a => nl_cell (q := 1) hL (by decide) (fun r3 => nl_mod (by decide) (fun b => nl_cell (q := 2) hL (by decide) (fun r5 => nl_mod (by decide) (fun c => ?_))))))
  obtain ⟨U, hU1, hU2, xU, yU⟩ := nl_clamp a 2 8 (by decide) (by decide)
  obtain ⟨T, hT1, hT2, xT, yT⟩ := nl_clamp b 8 32 (by decide) (by decide)
  obtain ⟨N, hN1, hN2, xN, yN⟩ := nl_clamp c 4 16 (by decide) (by decide)
  refine yU _ (yN _ ⟨18, 768, by omega, by omega, ?_⟩)
  refine nl_init xU xT xN (fun on ok fl dp tt pr ue dc uu ow st w ch no ns nr es nu re oT oP => ⟨by decide, fun x8 _ => ?_⟩)
  refine br_c (fun h0 => br_c (fun h60 => ?_) (fun _ => ?_)) (fun _ => br_t (by decide) ?_)
  · obtain ⟨M, hM, rfl⟩ := nI_of2 (M := 60) (n := 60) (by decide) (Int32.not_lt.mpr h0) h60
    exact nl_93 hL hU2 hT2 hN1 hN2 hM xU xT xN nh_PV0
  · exact nl_93 (M := 60) hL hU2 hT2 hN1 hN2 (by omega) xU xT xN nh_PV0
  · exact nl_93 (M := 0) hL hU2 hT2 hN1 hN2 (by omega) xU xT xN nh_PV0
end
