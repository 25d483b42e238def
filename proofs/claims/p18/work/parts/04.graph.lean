/-! 04: the graph, its closure, and why N rounds decide every name: pure -/
def nh_rl (O : Nat → Prop) (Q : Nat → Nat → Prop) : Nat → Nat → Nat → Prop
  | 0, a, c => Q a c ∧ O a ∧ O c
  | k + 1, a, c => nh_rl O Q k a c ∨ (nh_rl O Q k a k ∧ nh_rl O Q k k c)
theorem nh_rl0 {O : Nat → Prop} {Q : Nat → Nat → Prop} {a c : Nat} (h : nh_rl O Q 0 a c) : ∀ k, nh_rl O Q k a c := by
  intro k
  induction k with
  | zero => exact h
  | succ k ih => exact Or.inl ih
theorem nh_rlk {O : Nat → Prop} {Q : Nat → Nat → Prop} {k a : Nat} (h : nh_rl O Q (k + 1) a k) : nh_rl O Q k a k := Or.elim h id (fun h => h.1)
theorem nh_rlk' {O : Nat → Prop} {Q : Nat → Nat → Prop} {k c : Nat} (h : nh_rl O Q (k + 1) k c) : nh_rl O Q k k c := Or.elim h id (fun h => h.2)
theorem nh_rlt {O : Nat → Prop} {Q : Nat → Nat → Prop} : ∀ k a j c, j < k → nh_rl O Q k a j → nh_rl O Q k j c → nh_rl O Q k a c := by
  intro k
  induction k with
  | zero => intro a j c h; exact absurd h (Nat.not_lt_zero j)
  | succ k ih =>
    intro a j c hj h1 h2
    by_cases e : j = k
    · subst e
      exact Or.inr ⟨nh_rlk h1, nh_rlk' h2⟩
    · have hjk : j < k := by omega
      rcases h1 with h1 | ⟨h1, h1'⟩
      · rcases h2 with h2 | ⟨h2, h2'⟩
        · exact Or.inl (ih a j c hjk h1 h2)
        · exact Or.inr ⟨ih a j k hjk h1 h2, h2'⟩
      · rcases h2 with h2 | ⟨h2, h2'⟩
        · exact Or.inr ⟨h1, ih k j c hjk h1' h2⟩
        · exact Or.inr ⟨h1, h2'⟩
/-- a set each of whose members leads to a member holds a member that leads to itself -/
theorem nh_cyc {R : Nat → Nat → Prop} {M : Nat} (ht : ∀ a b c, b < M → R a b → R b c → R a c) : ∀ (N : Nat), N ≤ M → ∀ (P : Nat → Prop), (∀ n, n < N → P n → ∃ m, m < N ∧ P m ∧ R n m) → (∃ n, n < N ∧ P n) → ∃ n, n < N ∧ P n ∧ R n n := by
  intro N
  induction N with
  | zero => rintro _ P _ ⟨n, hn, _⟩; exact absurd hn (Nat.not_lt_zero n)
  | succ N ih =>
    intro hM P hs hex
    by_cases hP : P N
    · by_cases hR : R N N
      · exact ⟨N, by omega, hP, hR⟩
      · obtain ⟨m, hm, hPm, hRm⟩ := hs N (by omega) hP
        have hmN : m < N := by
          rcases Nat.lt_or_ge m N with h | h
          · exact h
          · have e : m = N := by omega
            subst e; exact absurd hRm hR
        obtain ⟨n, h1, h2, h3⟩ := ih (by omega) P (fun n hn hPn => by
          obtain ⟨q, hq, hPq, hRq⟩ := hs n (by omega) hPn
          rcases Nat.lt_or_ge q N with h | h
          · exact ⟨q, h, hPq, hRq⟩
          · have e : q = N := by omega
            subst e
            exact ⟨m, hmN, hPm, ht n q m (by omega) hRq hRm⟩) ⟨m, hmN, hPm⟩
        exact ⟨n, by omega, h2, h3⟩
    · obtain ⟨n0, h0, hP0⟩ := hex
      have hn0 : n0 < N := by
        rcases Nat.lt_or_ge n0 N with h | h
        · exact h
        · have e : n0 = N := by omega
          subst e; exact absurd hP0 hP
      obtain ⟨n, h1, h2, h3⟩ := ih (by omega) P (fun n hn hPn => by
        obtain ⟨q, hq, hPq, hRq⟩ := hs n (by omega) hPn
        rcases Nat.lt_or_ge q N with h | h
        · exact ⟨q, h, hPq, hRq⟩
        · have e : q = N := by omega
          subst e; exact absurd hPq hP) ⟨n0, hn0, hP0⟩
      exact ⟨n, by omega, h2, h3⟩
/-! counting -/
noncomputable def nh_b (p : Prop) : Nat := @ite Nat p (Classical.propDecidable p) 1 0
theorem nh_bT {p : Prop} (h : p) : nh_b p = 1 := @if_pos p (Classical.propDecidable p) h Nat 1 0
theorem nh_bF {p : Prop} (h : ¬ p) : nh_b p = 0 := @if_neg p (Classical.propDecidable p) h Nat 1 0
theorem nh_ble (p : Prop) : nh_b p ≤ 1 := by
  by_cases h : p
  · rw [nh_bT h]; exact Nat.le_refl 1
  · rw [nh_bF h]; exact Nat.zero_le 1
theorem nh_bm {p q : Prop} (h : p → q) : nh_b p ≤ nh_b q := by
  by_cases hp : p
  · rw [nh_bT hp, nh_bT (h hp)]; exact Nat.le_refl 1
  · rw [nh_bF hp]; exact Nat.zero_le _
noncomputable def nh_cn (p : Nat → Prop) : Nat → Nat
  | 0 => 0
  | n + 1 => nh_cn p n + nh_b (p n)
theorem nh_cnle (p : Nat → Prop) : ∀ n, nh_cn p n ≤ n := by
  intro n
  induction n with
  | zero => exact Nat.le_refl 0
  | succ n ih => rw [nh_cn]; have := nh_ble (p n); omega
theorem nh_cnm {p q : Nat → Prop} : ∀ n, (∀ i, i < n → p i → q i) → nh_cn p n ≤ nh_cn q n := by
  intro n
  induction n with
  | zero => intro _; exact Nat.le_refl 0
  | succ n ih =>
    intro h
    rw [nh_cn, nh_cn]
    have h1 := ih (fun i hi => h i (by omega))
    have h2 := nh_bm (h n (by omega))
    omega
theorem nh_cnlt {p q : Nat → Prop} : ∀ n, (∀ i, i < n → p i → q i) → (∃ i, i < n ∧ q i ∧ ¬ p i) → nh_cn p n < nh_cn q n := by
  intro n
  induction n with
  | zero => rintro _ ⟨i, hi, _⟩; exact absurd hi (Nat.not_lt_zero i)
  | succ n ih =>
    rintro h ⟨i, hi, hq, hp⟩
    rw [nh_cn, nh_cn]
    by_cases e : i = n
    · subst e
      rw [nh_bT hq, nh_bF hp]
      have h1 := nh_cnm i (fun j hj => h j (by omega))
      omega
    · have h1 := ih (fun j hj => h j (by omega)) ⟨i, by omega, hq, hp⟩
      have h2 := nh_bm (h n (by omega))
      omega
theorem nh_cn0 {p : Nat → Prop} : ∀ n, nh_cn p n = 0 → ∀ i, i < n → ¬ p i := by
  intro n
  induction n with
  | zero => intro _ i hi; exact absurd hi (Nat.not_lt_zero i)
  | succ n ih =>
    intro h i hi hp
    rw [nh_cn] at h
    by_cases e : i = n
    · subst e; rw [nh_bT hp] at h; omega
    · exact ih (by omega) i (by omega) hp
/-! pending names, and the round by which each is decided -/
def nh_pd (O : Nat → Prop) (Q : Nat → Nat → Prop) (N n : Nat) : Prop := O n ∧ ¬ nh_rl O Q N n n ∧ ∀ m, m < N → Q n m → O m
def nh_dn (O : Nat → Prop) (Q : Nat → Nat → Prop) (N : Nat) : Nat → Nat → Prop
  | 0, n => ¬ nh_pd O Q N n
  | r + 1, n => nh_dn O Q N r n ∨ ∀ m, m < N → Q n m → nh_dn O Q N r m
theorem nh_dn0 {O : Nat → Prop} {Q : Nat → Nat → Prop} {N n : Nat} (h : ¬ nh_pd O Q N n) : ∀ r, nh_dn O Q N r n := by
  intro r
  induction r with
  | zero => exact h
  | succ r ih => exact Or.inl ih
theorem nh_dnp {O : Nat → Prop} {Q : Nat → Nat → Prop} {N n r : Nat} (h : ¬ nh_dn O Q N r n) : nh_pd O Q N n := by
  rcases Classical.em (nh_pd O Q N n) with h1 | h1
  · exact h1
  · exact absurd (nh_dn0 h1 r) h
theorem nh_dng {O : Nat → Prop} {Q : Nat → Nat → Prop} {N r : Nat} (hex : ∃ n, n < N ∧ ¬ nh_dn O Q N r n) : ∃ n, n < N ∧ ¬ nh_dn O Q N r n ∧ nh_dn O Q N (r + 1) n := by
  rcases Classical.em (∃ n, n < N ∧ ¬ nh_dn O Q N r n ∧ nh_dn O Q N (r + 1) n) with h | h
  · exact h
  · exfalso
    obtain ⟨n, hn, h1, h2⟩ := nh_cyc (R := nh_rl O Q N) (M := N) (fun a b c hb => nh_rlt N a b c hb) N (Nat.le_refl N) (fun n => ¬ nh_dn O Q N r n) (fun n hn h1 => by
      have h2 : ¬ nh_dn O Q N (r + 1) n := fun h2 => h ⟨n, hn, h1, h2⟩
      have h3 : ¬ ∀ m, m < N → Q n m → nh_dn O Q N r m := fun h3 => h2 (Or.inr h3)
      rcases Classical.em (∃ m, m < N ∧ Q n m ∧ ¬ nh_dn O Q N r m) with h4 | h4
      · obtain ⟨m, hm, hQ, hd⟩ := h4
        exact ⟨m, hm, hd, nh_rl0 ⟨hQ, (nh_dnp h1).1, (nh_dnp hd).1⟩ N⟩
      · refine absurd (fun m hm hQ => ?_) h3
        rcases Classical.em (nh_dn O Q N r m) with h5 | h5
        · exact h5
        · exact absurd ⟨m, hm, hQ, h5⟩ h4) hex
    exact (nh_dnp h1).2.1 h2
theorem nh_dnc {O : Nat → Prop} {Q : Nat → Nat → Prop} {N : Nat} : ∀ r, nh_cn (fun n => ¬ nh_dn O Q N r n) N = 0 ∨ nh_cn (fun n => ¬ nh_dn O Q N r n) N + r ≤ N := by
  intro r
  induction r with
  | zero => exact Or.inr (nh_cnle _ N)
  | succ r ih =>
    have hm : ∀ i, i < N → ¬ nh_dn O Q N (r + 1) i → ¬ nh_dn O Q N r i := fun i _ h h1 => h (Or.inl h1)
    rcases Classical.em (∃ n, n < N ∧ ¬ nh_dn O Q N r n) with h | h
    · obtain ⟨n, hn, h1, h2⟩ := nh_dng h
      have h3 : nh_cn (fun n => ¬ nh_dn O Q N (r + 1) n) N < nh_cn (fun n => ¬ nh_dn O Q N r n) N := nh_cnlt N hm ⟨n, hn, h1, fun h4 => h4 h2⟩
      omega
    · have h4 : nh_cn (fun n => ¬ nh_dn O Q N r n) N = 0 := by
        have h5 := nh_cnm (p := fun n => ¬ nh_dn O Q N r n) (q := fun _ => False) N (fun i hi h6 => h ⟨i, hi, h6⟩)
        have h7 : ∀ k, nh_cn (fun _ => False) k = 0 := by
          intro k
          induction k with
          | zero => rfl
          | succ k ihk => rw [nh_cn, ihk, nh_bF (fun h => h)]
        have h8 := h7 N
        omega
      have h9 := nh_cnm N hm
      exact Or.inl (by omega)
theorem nh_dna {O : Nat → Prop} {Q : Nat → Nat → Prop} {N n : Nat} (hn : n < N) : nh_dn O Q N N n := by
  have h0 : nh_cn (fun n => ¬ nh_dn O Q N N n) N = 0 := by
    rcases nh_dnc (O := O) (Q := Q) (N := N) N with h | h
    · exact h
    · omega
  rcases Classical.em (nh_dn O Q N N n) with h | h
  · exact h
  · exact absurd h (nh_cn0 (p := fun n => ¬ nh_dn O Q N N n) N h0 n hn)
/-- statuses s and values w are those the document asks for; E n w x: x is the value of the definition of n, the names' values being w -/
def nh_sol (O : Nat → Prop) (Q : Nat → Nat → Prop) (E : Nat → (Nat → Int32) → Int32 → Prop) (N : Nat) (s w : Nat → Int32) : Prop :=
  ∀ n, n < N → (¬ O n → s n = 0 ∧ w n = 0) ∧ (O n → nh_rl O Q N n n → s n = 3 ∧ w n = 0) ∧ (O n → ¬ nh_rl O Q N n n → (∃ m, m < N ∧ Q n m ∧ ¬ O m) → s n = 2 ∧ w n = 0) ∧
    (nh_pd O Q N n → (s n = 4 ∧ w n = 0 ∧ ∃ m, m < N ∧ Q n m ∧ ¬ s m = 1) ∨ (s n = 1 ∧ (∀ m, m < N → Q n m → s m = 1) ∧ E n w (w n)))
