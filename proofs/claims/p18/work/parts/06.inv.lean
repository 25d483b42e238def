/-! 06: what the loops over names keep: pure -/
def nh_RR (O : Nat → Prop) (Q : Nat → Nat → Prop) (N k : Nat) (re : Nat → Int32) : Prop := ∀ a c, a < N → c < N → (bt (re a) c = true ↔ nh_rl O Q k a c)
def nh_RI (O : Nat → Prop) (Q : Nat → Nat → Prop) (N k i : Nat) (re : Nat → Int32) : Prop := ∀ a c, a < N → c < N → (bt (re a) c = true ↔ (nh_rl O Q k a c ∨ (a < i ∧ nh_rl O Q k a k ∧ nh_rl O Q k k c)))
theorem nh_RI0 {O : Nat → Prop} {Q : Nat → Nat → Prop} {N k : Nat} {re : Nat → Int32} (h : nh_RR O Q N k re) : nh_RI O Q N k 0 re := by
  intro a c ha hc
  rw [h a c ha hc]
  exact ⟨Or.inl, fun h => h.elim id (fun h => absurd h.1 (Nat.not_lt_zero a))⟩
theorem nh_RIe {O : Nat → Prop} {Q : Nat → Nat → Prop} {N k : Nat} {re : Nat → Int32} (h : nh_RI O Q N k N re) : nh_RR O Q N (k + 1) re := by
  intro a c ha hc
  rw [h a c ha hc]
  exact ⟨fun h => h.elim Or.inl (fun h => Or.inr h.2), fun h => Or.elim h Or.inl (fun h => Or.inr ⟨ha, h⟩)⟩
theorem nh_RIk {O : Nat → Prop} {Q : Nat → Nat → Prop} {N k i c : Nat} {re : Nat → Int32} (h : nh_RI O Q N k i re) (hk : k < N) (hc : c < N) : bt (re k) c = true ↔ nh_rl O Q k k c := by
  rw [h k c hk hc]
  exact ⟨fun h => h.elim id (fun h => h.2.2), Or.inl⟩
theorem nh_RIi {O : Nat → Prop} {Q : Nat → Nat → Prop} {N k i : Nat} {re : Nat → Int32} (h : nh_RI O Q N k i re) (hk : k < N) (hi : i < N) : bt (re i) k = true ↔ nh_rl O Q k i k := by
  rw [h i k hi hk]
  exact ⟨fun h => h.elim id (fun h => h.2.1), Or.inl⟩
theorem nh_RIt {O : Nat → Prop} {Q : Nat → Nat → Prop} {N k i : Nat} {re : Nat → Int32} (h : nh_RI O Q N k i re) (hk : k < N) (hi : i < N) (hb : bt (re i) k = true) : nh_RI O Q N k (i + 1) (upd re i (re i ||| re k)) := by
  have hik := (nh_RIi h hk hi).mp hb
  intro a c ha hc
  by_cases e : a = i
  · subst e
    rw [pk_us, b_or, Bool.or_eq_true, h a c ha hc, nh_RIk h hk hc]
    constructor
    · rintro ((h1 | h1) | h1)
      · exact Or.inl h1
      · exact Or.inr ⟨by omega, h1.2⟩
      · exact Or.inr ⟨by omega, hik, h1⟩
    · rintro (h1 | h1)
      · exact Or.inl (Or.inl h1)
      · exact Or.inr h1.2.2
  · rw [pk_un e, h a c ha hc]
    constructor
    · rintro (h1 | h1)
      · exact Or.inl h1
      · exact Or.inr ⟨by omega, h1.2⟩
    · rintro (h1 | h1)
      · exact Or.inl h1
      · exact Or.inr ⟨by omega, h1.2⟩
theorem nh_RIf {O : Nat → Prop} {Q : Nat → Nat → Prop} {N k i : Nat} {re : Nat → Int32} (h : nh_RI O Q N k i re) (hk : k < N) (hi : i < N) (hb : bt (re i) k = false) : nh_RI O Q N k (i + 1) re := by
  have hik : ¬ nh_rl O Q k i k := fun h1 => by rw [(nh_RIi h hk hi).mpr h1] at hb; exact absurd hb (by decide)
  intro a c ha hc
  rw [h a c ha hc]
  constructor
  · rintro (h1 | h1)
    · exact Or.inl h1
    · exact Or.inr ⟨by omega, h1.2⟩
  · rintro (h1 | h1)
    · exact Or.inl h1
    · refine Or.inr ⟨?_, h1.2⟩
      by_cases e : a = i
      · subst e; exact absurd h1.2.1 hik
      · omega
/-! the same in the reference's table: cell a * 16 + c -/
def nh_TR (O : Nat → Prop) (Q : Nat → Nat → Prop) (N k : Nat) (rc : Nat → Int32) : Prop := ∀ a c, a < N → c < N → (rc (a * 16 + c) = 0 ↔ ¬ nh_rl O Q k a c)
def nh_TI (O : Nat → Prop) (Q : Nat → Nat → Prop) (N k i j : Nat) (rc : Nat → Int32) : Prop :=
  ∀ a c, a < N → c < N → (rc (a * 16 + c) = 0 ↔ ¬ (nh_rl O Q k a c ∨ (nh_bf i j a c ∧ nh_rl O Q k a k ∧ nh_rl O Q k k c)))
theorem nh_TI0 {O : Nat → Prop} {Q : Nat → Nat → Prop} {N k : Nat} {rc : Nat → Int32} (h : nh_TR O Q N k rc) : nh_TI O Q N k 0 0 rc := by
  intro a c ha hc
  rw [h a c ha hc]
  refine not_congr ⟨Or.inl, fun h => h.elim id (fun h => ?_)⟩
  have h1 := h.1
  unfold nh_bf at h1
  omega
theorem nh_TIe {O : Nat → Prop} {Q : Nat → Nat → Prop} {N k : Nat} {rc : Nat → Int32} (h : nh_TI O Q N k N 0 rc) : nh_TR O Q N (k + 1) rc := by
  intro a c ha hc
  rw [h a c ha hc]
  exact not_congr ⟨fun h => h.elim Or.inl (fun h => Or.inr h.2), fun h => Or.elim h Or.inl (fun h => Or.inr ⟨Or.inl ha, h⟩)⟩
theorem nh_TIk {O : Nat → Prop} {Q : Nat → Nat → Prop} {N k i j c : Nat} {rc : Nat → Int32} (h : nh_TI O Q N k i j rc) (hk : k < N) (hc : c < N) : rc (k * 16 + c) = 0 ↔ ¬ nh_rl O Q k k c := by
  rw [h k c hk hc]
  exact not_congr ⟨fun h => h.elim id (fun h => h.2.2), Or.inl⟩
theorem nh_TIi {O : Nat → Prop} {Q : Nat → Nat → Prop} {N k i j a : Nat} {rc : Nat → Int32} (h : nh_TI O Q N k i j rc) (hk : k < N) (ha : a < N) : rc (a * 16 + k) = 0 ↔ ¬ nh_rl O Q k a k := by
  rw [h a k ha hk]
  exact not_congr ⟨fun h => h.elim id (fun h => h.2.1), Or.inl⟩
/-- row i is left out -/
theorem nh_TIs {O : Nat → Prop} {Q : Nat → Nat → Prop} {N k i : Nat} {rc : Nat → Int32} (h : nh_TI O Q N k i 0 rc) (hik : ¬ nh_rl O Q k i k) : nh_TI O Q N k (i + 1) 0 rc := by
  intro a c ha hc
  rw [h a c ha hc]
  refine not_congr ⟨fun h => h.elim Or.inl (fun h => Or.inr ⟨?_, h.2⟩), fun h => h.elim Or.inl (fun h => Or.inr ⟨?_, h.2⟩)⟩
  · have h1 := h.1
    unfold nh_bf at *
    omega
  · have h1 := h.1
    unfold nh_bf at *
    by_cases e : a = i
    · subst e; exact absurd h.2.1 hik
    · omega
/-- the end of row i -/
theorem nh_TIn {O : Nat → Prop} {Q : Nat → Nat → Prop} {N k i : Nat} {rc : Nat → Int32} (h : nh_TI O Q N k i N rc) : nh_TI O Q N k (i + 1) 0 rc := by
  intro a c ha hc
  rw [h a c ha hc]
  refine not_congr ⟨fun h => h.elim Or.inl (fun h => Or.inr ⟨?_, h.2⟩), fun h => h.elim Or.inl (fun h => Or.inr ⟨?_, h.2⟩)⟩
  · have h1 := h.1
    unfold nh_bf at *
    omega
  · have h1 := h.1
    unfold nh_bf at *
    omega
theorem nh_TIt {O : Nat → Prop} {Q : Nat → Nat → Prop} {N k i j : Nat} {rc : Nat → Int32} (h : nh_TI O Q N k i j rc) (hN : N ≤ 16) (hj : j < N) (hik : nh_rl O Q k i k) (hkj : nh_rl O Q k k j) {x : Int32} (hx : ¬ x = 0) : nh_TI O Q N k i (j + 1) (upd rc (i * 16 + j) x) := by
  intro a c ha hc
  by_cases e : a = i ∧ c = j
  · obtain ⟨e1, e2⟩ := e
    subst e1 e2
    rw [pk_us]
    exact ⟨fun h => absurd h hx, fun h => absurd (Or.inr ⟨Or.inr ⟨rfl, by omega⟩, hik, hkj⟩) h⟩
  · rw [pk_un (by omega), h a c ha hc]
    refine not_congr ⟨fun h => h.elim Or.inl (fun h => Or.inr ⟨?_, h.2⟩), fun h => h.elim Or.inl (fun h => Or.inr ⟨?_, h.2⟩)⟩
    · have h1 := h.1
      unfold nh_bf at *
      omega
    · have h1 := h.1
      unfold nh_bf at *
      omega
theorem nh_TIf {O : Nat → Prop} {Q : Nat → Nat → Prop} {N k i j : Nat} {rc : Nat → Int32} (h : nh_TI O Q N k i j rc) (hkj : ¬ nh_rl O Q k k j) : nh_TI O Q N k i (j + 1) rc := by
  intro a c ha hc
  rw [h a c ha hc]
  refine not_congr ⟨fun h => h.elim Or.inl (fun h => Or.inr ⟨?_, h.2⟩), fun h => h.elim Or.inl (fun h => Or.inr ⟨?_, h.2⟩)⟩
  · have h1 := h.1
    unfold nh_bf at *
    omega
  · have h1 := h.1
    unfold nh_bf at *
    by_cases e : c = j
    · subst e; exact absurd h.2.2 hkj
    · omega
/-! X decides from the graph -/
def nh_gs (O : Nat → Prop) (Q : Nat → Nat → Prop) (N n : Nat) (s : Int32) : Prop :=
  (¬ O n ∧ s = 0) ∨ (O n ∧ nh_rl O Q N n n ∧ s = 3) ∨ (O n ∧ ¬ nh_rl O Q N n n ∧ (∃ m, m < N ∧ Q n m ∧ ¬ O m) ∧ s = 2) ∨ (nh_pd O Q N n ∧ s = -1)
def nh_XG (O : Nat → Prop) (Q : Nat → Nat → Prop) (N i : Nat) (ns nr : Nat → Int32) (fl : Int32) : Prop :=
  ∀ n, n < N → (n < i → nh_gs O Q N n (ns n) ∧ nr n = 0) ∧ (bt fl n = true ↔ (n < i ∧ (ns n = 2 ∨ ns n = 3)))
theorem nh_XG0 {O : Nat → Prop} {Q : Nat → Nat → Prop} {N : Nat} {ns nr : Nat → Int32} : nh_XG O Q N 0 ns nr 0 := by
  intro n hn
  refine ⟨fun h => absurd h (Nat.not_lt_zero n), ?_⟩
  rw [b_0]
  exact ⟨fun h => absurd h (by decide), fun h => absurd h.1 (Nat.not_lt_zero n)⟩
theorem nh_XGs {O : Nat → Prop} {Q : Nat → Nat → Prop} {N i : Nat} {ns nr : Nat → Int32} {fl x : Int32} (h : nh_XG O Q N i ns nr fl) (hx : nh_gs O Q N i x) (h2 : ¬ x = 2) (h3 : ¬ x = 3) : nh_XG O Q N (i + 1) (upd ns i x) (upd nr i 0) fl := by
  intro n hn
  have hn1 := h n hn
  by_cases e : n = i
  · subst e
    rw [pk_us, pk_us]
    refine ⟨fun _ => ⟨hx, rfl⟩, ?_⟩
    rw [hn1.2]
    exact ⟨fun h1 => absurd h1.1 (by omega), fun h1 => h1.2.elim (fun h => absurd h h2) (fun h => absurd h h3)⟩
  · rw [pk_un e, pk_un e]
    refine ⟨fun h1 => hn1.1 (by omega), ?_⟩
    rw [hn1.2]
    exact ⟨fun h1 => ⟨by omega, h1.2⟩, fun h1 => ⟨by omega, h1.2⟩⟩
theorem nh_XGf {O : Nat → Prop} {Q : Nat → Nat → Prop} {N i : Nat} {ns nr : Nat → Int32} {fl x : Int32} (h : nh_XG O Q N i ns nr fl) (hN : N ≤ 16) (hi : i < N) (hx : nh_gs O Q N i x) (h2 : x = 2 ∨ x = 3) : nh_XG O Q N (i + 1) (upd ns i x) (upd nr i 0) (fl ||| ((1 : Int32) <<< (nI i &&& 31))) := by
  intro n hn
  have hn1 := h n hn
  rw [nh_or1 (by omega) (by omega)]
  by_cases e : n = i
  · subst e
    rw [pk_us, pk_us]
    exact ⟨fun _ => ⟨hx, rfl⟩, ⟨fun _ => ⟨by omega, h2⟩, fun _ => Or.inr rfl⟩⟩
  · rw [pk_un e, pk_un e]
    refine ⟨fun h1 => hn1.1 (by omega), ?_⟩
    rw [hn1.2]
    exact ⟨fun h1 => h1.elim (fun h1 => ⟨by omega, h1.2⟩) (fun h1 => absurd h1 e), fun h1 => Or.inl ⟨by omega, h1.2⟩⟩
/-! X decides the rest -/
def nh_XR (O : Nat → Prop) (Q : Nat → Nat → Prop) (E : Nat → (Nat → Int32) → Int32 → Prop) (N r i : Nat) (ns nr : Nat → Int32) (fl ok : Int32) : Prop :=
  ∀ n, n < N → (¬ nh_pd O Q N n → nh_gs O Q N n (ns n) ∧ nr n = 0) ∧
    (nh_pd O Q N n → (ns n = -1 ∧ nr n = 0) ∨ (ns n = 4 ∧ nr n = 0 ∧ ∃ m, m < N ∧ Q n m ∧ bt fl m = true) ∨ (ns n = 1 ∧ (∀ m, m < N → Q n m → ns m = 1) ∧ E n nr (nr n))) ∧
    (bt fl n = true ↔ (ns n = 2 ∨ ns n = 3 ∨ ns n = 4)) ∧ (bt ok n = true ↔ ns n = 1) ∧ (nh_dn O Q N r n → ¬ ns n = -1) ∧ (n < i → nh_dn O Q N (r + 1) n → ¬ ns n = -1)
theorem nh_gsp {O : Nat → Prop} {Q : Nat → Nat → Prop} {N n : Nat} {s : Int32} (h : nh_gs O Q N n s) : (nh_pd O Q N n → s = -1) ∧ (¬ nh_pd O Q N n → (¬ O n ∧ s = 0) ∨ (O n ∧ (s = 2 ∨ s = 3))) := by
  rcases h with ⟨h1, h2⟩ | ⟨h1, h2, h3⟩ | ⟨h1, h2, ⟨m, hm, hq, ho⟩, h3⟩ | ⟨h1, h2⟩
  · exact ⟨fun hp => absurd hp.1 h1, fun _ => Or.inl ⟨h1, h2⟩⟩
  · exact ⟨fun hp => absurd h2 hp.2.1, fun _ => Or.inr ⟨h1, Or.inr h3⟩⟩
  · exact ⟨fun hp => absurd (hp.2.2 m hm hq) ho, fun _ => Or.inr ⟨h1, Or.inl h3⟩⟩
  · exact ⟨fun _ => h2, fun hp => absurd h1 hp⟩
theorem nh_XR0 {O : Nat → Prop} {Q : Nat → Nat → Prop} {E : Nat → (Nat → Int32) → Int32 → Prop} {N : Nat} {ns nr : Nat → Int32} {fl : Int32} (h : nh_XG O Q N N ns nr fl) : nh_XR O Q E N 0 0 ns nr fl 0 := by
  intro n hn
  have ⟨h1, h2⟩ := h n hn
  have ⟨hg, hr⟩ := h1 hn
  have ⟨g1, g2⟩ := nh_gsp hg
  refine ⟨fun _ => ⟨hg, hr⟩, fun hp => Or.inl ⟨g1 hp, hr⟩, ?_, ?_, fun hp hm => ?_, fun h3 => absurd h3 (Nat.not_lt_zero n)⟩
  · rw [h2]
    constructor
    · rintro ⟨_, h3 | h3⟩
      · exact Or.inl h3
      · exact Or.inr (Or.inl h3)
    · rintro (h3 | h3 | h3)
      · exact ⟨hn, Or.inl h3⟩
      · exact ⟨hn, Or.inr h3⟩
      · rcases Classical.em (nh_pd O Q N n) with hp | hp
        · rw [g1 hp] at h3; exact absurd h3 (by decide)
        · rcases g2 hp with ⟨_, h4⟩ | ⟨_, h4 | h4⟩ <;> (rw [h4] at h3; exact absurd h3 (by decide))
  · rw [b_0]
    refine ⟨fun h => absurd h (by decide), fun h3 => ?_⟩
    rcases Classical.em (nh_pd O Q N n) with hp | hp
    · rw [g1 hp] at h3; exact absurd h3 (by decide)
    · rcases g2 hp with ⟨_, h4⟩ | ⟨_, h4 | h4⟩ <;> (rw [h4] at h3; exact absurd h3 (by decide))
  · rcases g2 hp with ⟨_, h4⟩ | ⟨_, h4 | h4⟩ <;> (rw [h4] at hm; exact absurd hm (by decide))
theorem nh_XRk {O : Nat → Prop} {Q : Nat → Nat → Prop} {E : Nat → (Nat → Int32) → Int32 → Prop} {N r i : Nat} {ns nr : Nat → Int32} {fl ok : Int32} (h : nh_XR O Q E N r i ns nr fl ok) (hs : ¬ ns i = -1) : nh_XR O Q E N r (i + 1) ns nr fl ok := by
  intro n hn
  have ⟨h1, h2, h3, h4, h5, h6⟩ := h n hn
  refine ⟨h1, h2, h3, h4, h5, fun h7 h8 => ?_⟩
  by_cases e : n = i
  · rw [e]; exact hs
  · exact h6 (by omega) h8
theorem nh_XRp {O : Nat → Prop} {Q : Nat → Nat → Prop} {E : Nat → (Nat → Int32) → Int32 → Prop} {N r i n : Nat} {ns nr : Nat → Int32} {fl ok : Int32} (h : nh_XR O Q E N r i ns nr fl ok) (hn : n < N) (hs : ns n = -1) : nh_pd O Q N n ∧ nr n = 0 := by
  have ⟨h1, h2, h3, h4, h5, h6⟩ := h n hn
  rcases Classical.em (nh_pd O Q N n) with hp | hp
  · refine ⟨hp, ?_⟩
    rcases h2 hp with h7 | h7 | h7
    · exact h7.2
    · exact h7.2.1
    · rw [h7.1] at hs; exact absurd hs (by decide)
  · rcases (nh_gsp (h1 hp).1).2 hp with ⟨_, h4⟩ | ⟨_, h4 | h4⟩ <;> (rw [h4] at hs; exact absurd hs (by decide))
theorem nh_XRb {O : Nat → Prop} {Q : Nat → Nat → Prop} {E : Nat → (Nat → Int32) → Int32 → Prop} {N r i : Nat} {ns nr : Nat → Int32} {fl ok : Int32} (h : nh_XR O Q E N r i ns nr fl ok) (hN : N ≤ 16) (hi : i < N) (hs : ns i = -1) (hm : ∃ m, m < N ∧ Q i m ∧ bt fl m = true) :
    nh_XR O Q E N r (i + 1) (upd ns i 4) nr (fl ||| ((1 : Int32) <<< (nI i &&& 31))) ok := by
  have hp := nh_XRp h hi hs
  have hfl : ∀ m, m < N → bt fl m = true → bt (fl ||| ((1 : Int32) <<< (nI i &&& 31))) m = true := fun m hm hb => (nh_or1 (by omega) (by omega)).mpr (Or.inl hb)
  intro n hn
  have ⟨h1, h2, h3, h4, h5, h6⟩ := h n hn
  by_cases e : n = i
  · subst e
    rw [pk_us]
    refine ⟨fun hnp => absurd hp.1 hnp, fun _ => Or.inr (Or.inl ⟨rfl, hp.2, ?_⟩), ⟨fun _ => Or.inr (Or.inr rfl), fun _ => (nh_or1 (by omega) (by omega)).mpr (Or.inr rfl)⟩, ?_, fun _ => by decide, fun _ _ => by decide⟩
    · obtain ⟨m, hm, hq, hb⟩ := hm
      exact ⟨m, hm, hq, hfl m hm hb⟩
    · rw [h4, hs]
      exact ⟨fun h => absurd h (by decide), fun h => absurd h (by decide)⟩
  · rw [pk_un e, nh_or1 (by omega) (by omega), h3]
    refine ⟨h1, fun hpn => ?_, ⟨fun h7 => h7.elim id (fun h7 => absurd h7 e), Or.inl⟩, h4, h5, fun h7 h8 => h6 (by omega) h8⟩
    rcases h2 hpn with h7 | ⟨h7, h8, m, hm, hq, hb⟩ | ⟨h7, h8, h9⟩
    · exact Or.inl h7
    · exact Or.inr (Or.inl ⟨h7, h8, m, hm, hq, hfl m hm hb⟩)
    · refine Or.inr (Or.inr ⟨h7, fun m hm hq => ?_, h9⟩)
      have h10 := h8 m hm hq
      rw [pk_un (fun e2 => by rw [e2, hs] at h10; exact absurd h10 (by decide))]
      exact h10
theorem nh_XRo {O : Nat → Prop} {Q : Nat → Nat → Prop} {E : Nat → (Nat → Int32) → Int32 → Prop} {N r i : Nat} {ns nr : Nat → Int32} {fl ok v : Int32} (hE : ∀ n w w' x, E n w x → (∀ m, m < N → Q n m → w m = w' m) → E n w' x)
    (h : nh_XR O Q E N r i ns nr fl ok) (hN : N ≤ 16) (hi : i < N) (hs : ns i = -1) (hq : ∀ m, m < N → Q i m → bt ok m = true) (he : E i nr v) :
    nh_XR O Q E N r (i + 1) (upd ns i 1) (upd nr i v) fl (ok ||| ((1 : Int32) <<< (nI i &&& 31))) := by
  have hp := nh_XRp h hi hs
  have hne : ∀ m, m < N → ns m = 1 → m ≠ i := fun m hm h1 e => by rw [e, hs] at h1; exact absurd h1 (by decide)
  have hq1 : ∀ m, m < N → Q i m → ns m = 1 := fun m hm hQ => (h m hm).2.2.2.1.mp (hq m hm hQ)
  intro n hn
  have ⟨h1, h2, h3, h4, h5, h6⟩ := h n hn
  by_cases e : n = i
  · subst e
    rw [pk_us, pk_us]
    refine ⟨fun hnp => absurd hp.1 hnp, fun _ => Or.inr (Or.inr ⟨rfl, fun m hm hQ => ?_, ?_⟩), ?_, ⟨fun _ => rfl, fun _ => (nh_or1 (by omega) (by omega)).mpr (Or.inr rfl)⟩, fun _ => by decide, fun _ _ => by decide⟩
    · rw [pk_un (hne m hm (hq1 m hm hQ))]; exact hq1 m hm hQ
    · refine hE n nr _ v he (fun m hm hQ => ?_)
      rw [pk_un (hne m hm (hq1 m hm hQ))]
    · rw [h3, hs]
      exact ⟨fun h => by rcases h with h | h | h <;> exact absurd h (by decide), fun h => by rcases h with h | h | h <;> exact absurd h (by decide)⟩
  · rw [pk_un e, pk_un e, nh_or1 (by omega) (by omega), h4]
    refine ⟨h1, fun hpn => ?_, h3, ⟨fun h7 => h7.elim id (fun h7 => absurd h7 e), Or.inl⟩, h5, fun h7 h8 => h6 (by omega) h8⟩
    rcases h2 hpn with h7 | h7 | ⟨h7, h8, h9⟩
    · exact Or.inl h7
    · exact Or.inr (Or.inl h7)
    · refine Or.inr (Or.inr ⟨h7, fun m hm hQ => ?_, ?_⟩)
      · rw [pk_un (hne m hm (h8 m hm hQ))]; exact h8 m hm hQ
      · refine hE n nr _ _ h9 (fun m hm hQ => ?_)
        rw [pk_un (hne m hm (h8 m hm hQ))]
theorem nh_XRs {O : Nat → Prop} {Q : Nat → Nat → Prop} {E : Nat → (Nat → Int32) → Int32 → Prop} {N r i : Nat} {ns nr : Nat → Int32} {fl ok : Int32} (h : nh_XR O Q E N r i ns nr fl ok) (hi : i < N) (hs : ns i = -1)
    (hf : ∀ m, m < N → Q i m → ¬ bt fl m = true) (hm : ∃ m, m < N ∧ Q i m ∧ ¬ bt ok m = true) : nh_XR O Q E N r (i + 1) ns nr fl ok := by
  have hp := nh_XRp h hi hs
  intro n hn
  have ⟨h1, h2, h3, h4, h5, h6⟩ := h n hn
  refine ⟨h1, h2, h3, h4, h5, fun h7 h8 => ?_⟩
  by_cases e : n = i
  · subst e
    rcases h8 with h8 | h8
    · exact h5 h8
    · exfalso
      obtain ⟨m, hm, hQ, hb⟩ := hm
      have ⟨g1, g2, g3, g4, g5, g6⟩ := h m hm
      have hnf := hf m hm hQ
      have hm1 := g5 (h8 m hm hQ)
      rw [g3] at hnf
      rw [g4] at hb
      rcases Classical.em (nh_pd O Q N m) with hpm | hpm
      · rcases g2 hpm with h9 | h9 | h9
        · exact hm1 h9.1
        · exact hnf (Or.inr (Or.inr h9.1))
        · exact hb h9.1
      · rcases (nh_gsp (g1 hpm).1).2 hpm with ⟨h9, _⟩ | ⟨_, h9 | h9⟩
        · exact h9 (hp.1.2.2 m hm hQ)
        · exact hnf (Or.inl h9)
        · exact hnf (Or.inr (Or.inl h9))
  · exact h6 (by omega) h8
theorem nh_XRe {O : Nat → Prop} {Q : Nat → Nat → Prop} {E : Nat → (Nat → Int32) → Int32 → Prop} {N r : Nat} {ns nr : Nat → Int32} {fl ok : Int32} (h : nh_XR O Q E N r N ns nr fl ok) : nh_XR O Q E N (r + 1) 0 ns nr fl ok := by
  intro n hn
  have ⟨h1, h2, h3, h4, h5, h6⟩ := h n hn
  exact ⟨h1, h2, h3, h4, h6 hn, fun h7 => absurd h7 (Nat.not_lt_zero n)⟩
theorem nh_XRf {O : Nat → Prop} {Q : Nat → Nat → Prop} {E : Nat → (Nat → Int32) → Int32 → Prop} {N : Nat} {ns nr : Nat → Int32} {fl ok : Int32} (h : nh_XR O Q E N N 0 ns nr fl ok) : nh_sol O Q E N ns nr := by
  intro n hn
  have ⟨h1, h2, h3, h4, h5, h6⟩ := h n hn
  have hd := h5 (nh_dna hn)
  refine ⟨fun ho => ?_, fun ho hr => ?_, fun ho hr hm => ?_, fun hp => ?_⟩
  · have ⟨g, z⟩ := h1 (fun hp => ho hp.1)
    refine ⟨?_, z⟩
    rcases g with g | g | g | g
    · exact g.2
    · exact absurd g.1 ho
    · exact absurd g.1 ho
    · exact absurd g.1.1 ho
  · have ⟨g, z⟩ := h1 (fun hp => hp.2.1 hr)
    refine ⟨?_, z⟩
    rcases g with g | g | g | g
    · exact absurd ho g.1
    · exact g.2.2
    · exact absurd hr g.2.1
    · exact absurd hr g.1.2.1
  · have ⟨g, z⟩ := h1 (fun hp => by
      obtain ⟨m, hm, hq, hno⟩ := hm
      exact hno (hp.2.2 m hm hq))
    refine ⟨?_, z⟩
    rcases g with g | g | g | g
    · exact absurd ho g.1
    · exact absurd g.2.1 hr
    · exact g.2.2.2
    · exact absurd g.2 hd
  · rcases h2 hp with h7 | ⟨h7, h8, m, hm, hq, hb⟩ | h7
    · exact absurd h7.1 hd
    · refine Or.inl ⟨h7, h8, m, hm, hq, fun h9 => ?_⟩
      have h10 := (h m hm).2.2.1.mp hb
      rw [h9] at h10
      rcases h10 with h10 | h10 | h10 <;> exact absurd h10 (by decide)
    · exact Or.inr h7
/-! the reference, beside X's solution s, x -/
def nh_YG (O : Nat → Prop) (Q : Nat → Nat → Prop) (N i : Nat) (st w rd : Nat → Int32) : Prop :=
  ∀ n, n < N → n < i → w n = 0 ∧ ((¬ nh_pd O Q N n ∧ nh_gs O Q N n (st n) ∧ ¬ rd n = 0) ∨ (nh_pd O Q N n ∧ rd n = 0))
theorem nh_YGs {O : Nat → Prop} {Q : Nat → Nat → Prop} {N i : Nat} {st w rd : Nat → Int32} {a b : Int32} (h : nh_YG O Q N i st w rd) (hx : (¬ nh_pd O Q N i ∧ nh_gs O Q N i a ∧ ¬ b = 0) ∨ (nh_pd O Q N i ∧ b = 0)) : nh_YG O Q N (i + 1) (upd st i a) (upd w i 0) (upd rd i b) := by
  intro n hn hi
  by_cases e : n = i
  · subst e
    rw [pk_us, pk_us, pk_us]
    exact ⟨rfl, hx⟩
  · rw [pk_un e, pk_un e, pk_un e]
    exact h n hn (by omega)
def nh_YS (O : Nat → Prop) (Q : Nat → Nat → Prop) (N r i : Nat) (s x st w rd : Nat → Int32) : Prop :=
  ∀ n, n < N → (¬ rd n = 0 → st n = s n ∧ w n = x n) ∧ (rd n = 0 → nh_pd O Q N n ∧ w n = 0) ∧ (nh_dn O Q N r n → ¬ rd n = 0) ∧ (n < i → nh_dn O Q N (r + 1) n → ¬ rd n = 0)
theorem nh_YS0 {O : Nat → Prop} {Q : Nat → Nat → Prop} {E : Nat → (Nat → Int32) → Int32 → Prop} {N : Nat} {s x st w rd : Nat → Int32} (hs : nh_sol O Q E N s x) (h : nh_YG O Q N N st w rd) : nh_YS O Q N 0 0 s x st w rd := by
  intro n hn
  have ⟨h1, h2⟩ := h n hn hn
  have ⟨s1, s2, s3, s4⟩ := hs n hn
  rcases h2 with ⟨hp, hg, hr⟩ | ⟨hp, hr⟩
  · refine ⟨fun _ => ?_, fun h => absurd h hr, fun _ => hr, fun h => absurd h (Nat.not_lt_zero n)⟩
    rcases hg with g | g | g | g
    · exact ⟨g.2.trans (s1 g.1).1.symm, h1.trans (s1 g.1).2.symm⟩
    · exact ⟨g.2.2.trans (s2 g.1 g.2.1).1.symm, h1.trans (s2 g.1 g.2.1).2.symm⟩
    · exact ⟨g.2.2.2.trans (s3 g.1 g.2.1 g.2.2.1).1.symm, h1.trans (s3 g.1 g.2.1 g.2.2.1).2.symm⟩
    · exact absurd g.1 hp
  · exact ⟨fun h => absurd hr h, fun _ => ⟨hp, h1⟩, fun h => absurd hp h, fun h => absurd h (Nat.not_lt_zero n)⟩
theorem nh_YSk {O : Nat → Prop} {Q : Nat → Nat → Prop} {N r i : Nat} {s x st w rd : Nat → Int32} (h : nh_YS O Q N r i s x st w rd) (hr : ¬ rd i = 0) : nh_YS O Q N r (i + 1) s x st w rd := by
  intro n hn
  have ⟨h1, h2, h3, h4⟩ := h n hn
  refine ⟨h1, h2, h3, fun h7 h8 => ?_⟩
  by_cases e : n = i
  · rw [e]; exact hr
  · exact h4 (by omega) h8
theorem nh_YSs {O : Nat → Prop} {Q : Nat → Nat → Prop} {N r i : Nat} {s x st w rd : Nat → Int32} (h : nh_YS O Q N r i s x st w rd) (hm : ∃ m, m < N ∧ Q i m ∧ rd m = 0) : nh_YS O Q N r (i + 1) s x st w rd := by
  intro n hn
  have ⟨h1, h2, h3, h4⟩ := h n hn
  refine ⟨h1, h2, h3, fun h7 h8 => ?_⟩
  by_cases e : n = i
  · subst e
    rcases h8 with h8 | h8
    · exact h3 h8
    · obtain ⟨m, hm, hq, hr⟩ := hm
      exact absurd hr ((h m hm).2.2.1 (h8 m hm hq))
  · exact h4 (by omega) h8
theorem nh_YSd {O : Nat → Prop} {Q : Nat → Nat → Prop} {N r i : Nat} {s x st w rd : Nat → Int32} {a b c : Int32} (h : nh_YS O Q N r i s x st w rd) (ha : a = s i) (hb : b = x i) (hc : ¬ c = 0) : nh_YS O Q N r (i + 1) s x (upd st i a) (upd w i b) (upd rd i c) := by
  intro n hn
  have ⟨h1, h2, h3, h4⟩ := h n hn
  by_cases e : n = i
  · subst e
    rw [pk_us, pk_us, pk_us]
    exact ⟨fun _ => ⟨ha, hb⟩, fun h => absurd h hc, fun _ => hc, fun _ _ => hc⟩
  · rw [pk_un e, pk_un e, pk_un e]
    exact ⟨h1, h2, h3, fun h7 h8 => h4 (by omega) h8⟩
theorem nh_YSo {O : Nat → Prop} {Q : Nat → Nat → Prop} {E : Nat → (Nat → Int32) → Int32 → Prop} {N r i : Nat} {s x st w rd : Nat → Int32} {v : Int32} (hE : ∀ n w w' x, E n w x → (∀ m, m < N → Q n m → w m = w' m) → E n w' x) (hE1 : ∀ n w x y, E n w x → E n w y → x = y)
    (hs : nh_sol O Q E N s x) (h : nh_YS O Q N r i s x st w rd) (hi : i < N) (hr : rd i = 0) (hm : ∀ m, m < N → Q i m → ¬ rd m = 0 ∧ st m = 1) (he : E i w v) : 1 = s i ∧ v = x i := by
  have hp := ((h i hi).2.1 hr).1
  rcases (hs i hi).2.2.2 hp with ⟨_, _, m, hm1, hq, h1⟩ | ⟨h1, h2, h3⟩
  · have ⟨h4, h5⟩ := hm m hm1 hq
    exact absurd (((h m hm1).1 h4).1.symm.trans h5) h1
  · refine ⟨h1.symm, hE1 i x v (x i) (hE i w x v he (fun m hm1 hq => ?_)) h3⟩
    exact ((h m hm1).1 (hm m hm1 hq).1).2
theorem nh_YSb {O : Nat → Prop} {Q : Nat → Nat → Prop} {E : Nat → (Nat → Int32) → Int32 → Prop} {N r i : Nat} {s x st w rd : Nat → Int32}
    (hs : nh_sol O Q E N s x) (h : nh_YS O Q N r i s x st w rd) (hi : i < N) (hr : rd i = 0) (hm : ∃ m, m < N ∧ Q i m ∧ ¬ rd m = 0 ∧ ¬ st m = 1) : 4 = s i ∧ w i = x i := by
  have ⟨hp, hw⟩ := (h i hi).2.1 hr
  rcases (hs i hi).2.2.2 hp with ⟨h1, h2, _⟩ | ⟨h1, h2, h3⟩
  · exact ⟨h1.symm, hw.trans h2.symm⟩
  · obtain ⟨m, hm1, hq, h4, h5⟩ := hm
    exact absurd (((h m hm1).1 h4).1.trans (h2 m hm1 hq)) h5
theorem nh_YSe {O : Nat → Prop} {Q : Nat → Nat → Prop} {N r : Nat} {s x st w rd : Nat → Int32} (h : nh_YS O Q N r N s x st w rd) : nh_YS O Q N (r + 1) 0 s x st w rd := by
  intro n hn
  have ⟨h1, h2, h3, h4⟩ := h n hn
  exact ⟨h1, h2, h4 hn, fun h7 => absurd h7 (Nat.not_lt_zero n)⟩
theorem nh_YSf {O : Nat → Prop} {Q : Nat → Nat → Prop} {N : Nat} {s x st w rd : Nat → Int32} (h : nh_YS O Q N (N + 1) 0 s x st w rd) : ∀ n, n < N → st n = s n ∧ w n = x n := by
  intro n hn
  have ⟨h1, h2, h3, h4⟩ := h n hn
  exact h1 (h3 (Or.inl (nh_dna hn)))
/-- two solutions are one -/
theorem nh_sol1 {O : Nat → Prop} {Q : Nat → Nat → Prop} {E : Nat → (Nat → Int32) → Int32 → Prop} {N : Nat} {s x s' x' : Nat → Int32} (hE : ∀ n w w' x, E n w x → (∀ m, m < N → Q n m → w m = w' m) → E n w' x) (hE1 : ∀ n w x y, E n w x → E n w y → x = y)
    (h : nh_sol O Q E N s x) (h' : nh_sol O Q E N s' x') : ∀ n, n < N → s n = s' n ∧ x n = x' n := by
  have key : ∀ n, n < N → ¬ nh_pd O Q N n → s n = s' n ∧ x n = x' n := by
    intro n hn hp
    have ⟨a1, a2, a3, a4⟩ := h n hn
    have ⟨b1, b2, b3, b4⟩ := h' n hn
    rcases Classical.em (O n) with ho | ho
    · rcases Classical.em (nh_rl O Q N n n) with hr | hr
      · exact ⟨(a2 ho hr).1.trans (b2 ho hr).1.symm, (a2 ho hr).2.trans (b2 ho hr).2.symm⟩
      · have hm : ∃ m, m < N ∧ Q n m ∧ ¬ O m := by
          rcases Classical.em (∃ m, m < N ∧ Q n m ∧ ¬ O m) with hm | hm
          · exact hm
          · refine absurd ⟨ho, hr, fun m h1 h2 => ?_⟩ hp
            rcases Classical.em (O m) with h3 | h3
            · exact h3
            · exact absurd ⟨m, h1, h2, h3⟩ hm
        exact ⟨(a3 ho hr hm).1.trans (b3 ho hr hm).1.symm, (a3 ho hr hm).2.trans (b3 ho hr hm).2.symm⟩
    · exact ⟨(a1 ho).1.trans (b1 ho).1.symm, (a1 ho).2.trans (b1 ho).2.symm⟩
  have step : ∀ r n, n < N → nh_dn O Q N r n → s n = s' n ∧ x n = x' n := by
    intro r
    induction r with
    | zero => exact fun n hn hd => key n hn hd
    | succ r ih =>
      intro n hn hd
      rcases hd with hd | hd
      · exact ih n hn hd
      · rcases Classical.em (nh_pd O Q N n) with hp | hp
        · rcases (h n hn).2.2.2 hp with ⟨a1, a2, m, hm, hq, a3⟩ | ⟨a1, a2, a3⟩
          · rcases (h' n hn).2.2.2 hp with ⟨b1, b2, _⟩ | ⟨b1, b2, b3⟩
            · exact ⟨a1.trans b1.symm, a2.trans b2.symm⟩
            · exact absurd ((ih m hm (hd m hm hq)).1.trans (b2 m hm hq)) a3
          · rcases (h' n hn).2.2.2 hp with ⟨b1, b2, m, hm, hq, b3⟩ | ⟨b1, b2, b3⟩
            · exact absurd ((ih m hm (hd m hm hq)).1.symm.trans (a2 m hm hq)) b3
            · refine ⟨a1.trans b1.symm, hE1 n x' _ _ (hE n x x' _ a3 (fun m hm hq => (ih m hm (hd m hm hq)).2)) b3⟩
        · exact key n hn hp
  exact fun n hn => step N n hn (nh_dna hn)
/-! changed names -/
def nh_ch (o s w o' s' w' : Nat → Int32) (n : Nat) : Int32 := if o n = o' n ∧ s n = s' n ∧ w n = w' n then 0 else 1
def nh_cc (c : Nat → Int32) : Nat → Nat
  | 0 => 0
  | n + 1 => if c n = 0 then nh_cc c n else nh_cc c n + 1
theorem nh_ccle (c : Nat → Int32) : ∀ n, nh_cc c n ≤ n := by
  intro n
  induction n with
  | zero => exact Nat.le_refl 0
  | succ n ih => rw [nh_cc]; split <;> omega
theorem nh_cce {c c' : Nat → Int32} : ∀ n, (∀ i, i < n → c i = c' i) → nh_cc c n = nh_cc c' n := by
  intro n
  induction n with
  | zero => intro _; rfl
  | succ n ih => intro h; rw [nh_cc, nh_cc, ih (fun i hi => h i (by omega)), h n (by omega)]
