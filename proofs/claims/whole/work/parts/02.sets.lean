/-! sets of states as numbers below 32; one step from a set; closures; adjoints -/
theorem fb_ol {a b i : Nat} (h : a.testBit i = true) : (a ||| b).testBit i = true := by simp [h]
theorem fb_orr {a b i : Nat} (h : b.testBit i = true) : (a ||| b).testBit i = true := by simp [h]
def fb_uo (r : Nat → Nat) (S : Nat) : Nat → Nat
  | 0 => 0
  | s + 1 => if S.testBit s = true then fb_uo r S s ||| r s else fb_uo r S s
def fb_u (r : Nat → Nat) (S : Nat) : Nat := fb_uo r S 5
def fb_B (r : Nat → Nat) : Prop := ∀ s, s < 5 → r s < 32
theorem fb_uo_bit (r : Nat → Nat) (S t : Nat) : ∀ n, (fb_uo r S n).testBit t = true ↔ ∃ s, s < n ∧ S.testBit s = true ∧ (r s).testBit t = true := by
  intro n
  induction n with
  | zero => simp [fb_uo]
  | succ n ih =>
    by_cases h : S.testBit n = true
    · rw [fb_uo, if_pos h, Nat.testBit_or, Bool.or_eq_true, ih]
      constructor
      · rintro (⟨s, a, b, c⟩ | c)
        · exact ⟨s, by omega, b, c⟩
        · exact ⟨n, by omega, h, c⟩
      · rintro ⟨s, a, b, c⟩
        by_cases e : s = n
        · subst e; exact Or.inr c
        · exact Or.inl ⟨s, by omega, b, c⟩
    · rw [fb_uo, if_neg h, ih]
      constructor
      · rintro ⟨s, a, b, c⟩; exact ⟨s, by omega, b, c⟩
      · rintro ⟨s, a, b, c⟩
        have e : s ≠ n := fun e => h (e ▸ b)
        exact ⟨s, by omega, b, c⟩
theorem fb_u_bit (r : Nat → Nat) (S t : Nat) : (fb_u r S).testBit t = true ↔ ∃ s, s < 5 ∧ S.testBit s = true ∧ (r s).testBit t = true := fb_uo_bit r S t 5
theorem fb_uo_lt {r : Nat → Nat} (h : fb_B r) (S : Nat) : ∀ n, n ≤ 5 → fb_uo r S n < 32 := by
  intro n
  induction n with
  | zero => intro _; simp [fb_uo]
  | succ n ih =>
    intro hn
    have i := ih (by omega)
    rw [fb_uo]
    split
    · exact Nat.or_lt_two_pow (n := 5) i (h n (by omega))
    · exact i
theorem fb_u_lt {r : Nat → Nat} (h : fb_B r) (S : Nat) : fb_u r S < 32 := fb_uo_lt h S 5 (Nat.le_refl _)
theorem fb_lt_bit {S t : Nat} (h : S < 32) (ht : S.testBit t = true) : t < 5 := by
  apply Classical.byContradiction
  intro hn
  have h1 : S < 2 ^ t := Nat.lt_of_lt_of_le h (Nat.pow_le_pow_right (n := 2) (by omega) (show 5 ≤ t by omega))
  rw [Nat.testBit_lt_two_pow h1] at ht
  exact Bool.noConfusion ht
theorem fb_ext {S T : Nat} (hS : S < 32) (hT : T < 32) (h : ∀ t, t < 5 → (S.testBit t = true ↔ T.testBit t = true)) : S = T := by
  apply Nat.eq_of_testBit_eq
  intro i
  by_cases hi : i < 5
  · have := h i hi
    cases hs : S.testBit i <;> cases ht : T.testBit i <;> simp_all
  · have a : S.testBit i = false := by
      cases hs : S.testBit i with
      | false => rfl
      | true => exact absurd (fb_lt_bit hS hs) hi
    have b : T.testBit i = false := by
      cases hs : T.testBit i with
      | false => rfl
      | true => exact absurd (fb_lt_bit hT hs) hi
    rw [a, b]
def fb_m (S T : Nat) : Prop := S &&& T ≠ 0
theorem fb_m_iff {S T : Nat} (hS : S < 32) : fb_m S T ↔ ∃ s, s < 5 ∧ S.testBit s = true ∧ T.testBit s = true := by
  constructor
  · intro h
    obtain ⟨i, hi⟩ := Nat.exists_testBit_of_ne_zero h
    rw [Nat.testBit_and, Bool.and_eq_true] at hi
    exact ⟨i, fb_lt_bit hS hi.1, hi.1, hi.2⟩
  · rintro ⟨s, _, a, b⟩ h
    have := congrArg (fun z => z.testBit s) h
    simp [a, b] at this
theorem fb_m_cm (S T : Nat) : fb_m S T ↔ fb_m T S := by
  unfold fb_m; rw [Nat.and_comm]
/-- r' goes the other way -/
def fb_cv (r r' : Nat → Nat) : Prop := ∀ s t, s < 5 → t < 5 → ((r s).testBit t = true ↔ (r' t).testBit s = true)
theorem fb_adj {r r' : Nat → Nat} (h : fb_B r) (c : fb_cv r r') {S T : Nat} (hS : S < 32) : fb_m (fb_u r S) T ↔ fb_m S (fb_u r' T) := by
  rw [fb_m_iff (fb_u_lt h S), fb_m_iff hS]
  constructor
  · rintro ⟨t, ht, a, b⟩
    obtain ⟨s, hs, a1, a2⟩ := (fb_u_bit r S t).mp a
    exact ⟨s, hs, a1, (fb_u_bit r' T s).mpr ⟨t, ht, b, (c s t hs ht).mp a2⟩⟩
  · rintro ⟨s, hs, a, b⟩
    obtain ⟨t, ht, b1, b2⟩ := (fb_u_bit r' T s).mp b
    exact ⟨t, ht, (fb_u_bit r S t).mpr ⟨s, hs, a, (c s t hs ht).mpr b2⟩, b1⟩
theorem fb_2p {s t : Nat} : (2 ^ s).testBit t = true ↔ s = t := by
  rw [Nat.testBit_two_pow]; simp
theorem fb_2lt {s : Nat} (h : s < 5) : 2 ^ s < 32 := by
  have : 2 ^ s < 2 ^ 5 := Nat.pow_lt_pow_right (by omega) h
  omega
theorem fb_u_one {r : Nat → Nat} (h : fb_B r) {s : Nat} (hs : s < 5) : fb_u r (2 ^ s) = r s := by
  apply fb_ext (fb_u_lt h _) (h s hs)
  intro t _
  rw [fb_u_bit]
  constructor
  · rintro ⟨s', _, a, b⟩
    rw [fb_2p] at a; subst a; exact b
  · intro b; exact ⟨s, hs, fb_2p.mpr rfl, b⟩
theorem fb_u_0 (r : Nat → Nat) : fb_u r 0 = 0 := by
  apply Nat.eq_of_testBit_eq
  intro i
  rw [Nat.zero_testBit]
  cases h : (fb_u r 0).testBit i with
  | false => rfl
  | true =>
    obtain ⟨s, _, a, _⟩ := (fb_u_bit r 0 i).mp h
    rw [Nat.zero_testBit] at a
    exact Bool.noConfusion a
theorem fb_u_or {r : Nat → Nat} (h : fb_B r) (S T : Nat) : fb_u r (S ||| T) = fb_u r S ||| fb_u r T := by
  apply fb_ext (fb_u_lt h _) (Nat.or_lt_two_pow (n := 5) (fb_u_lt h _) (fb_u_lt h _))
  intro t _
  rw [Nat.testBit_or, Bool.or_eq_true, fb_u_bit, fb_u_bit, fb_u_bit]
  constructor
  · rintro ⟨s, hs, a, b⟩
    rw [Nat.testBit_or, Bool.or_eq_true] at a
    rcases a with a | a
    · exact Or.inl ⟨s, hs, a, b⟩
    · exact Or.inr ⟨s, hs, a, b⟩
  · rintro (⟨s, hs, a, b⟩ | ⟨s, hs, a, b⟩)
    · exact ⟨s, hs, fb_ol a, b⟩
    · exact ⟨s, hs, fb_orr a, b⟩
/-- both letters at once -/
def fb_j (r0 r1 : Nat → Nat) (s : Nat) : Nat := r0 s ||| r1 s
theorem fb_j_B {r0 r1 : Nat → Nat} (h0 : fb_B r0) (h1 : fb_B r1) : fb_B (fb_j r0 r1) :=
  fun s hs => Nat.or_lt_two_pow (n := 5) (h0 s hs) (h1 s hs)
theorem fb_u_j {r0 r1 : Nat → Nat} (h0 : fb_B r0) (h1 : fb_B r1) (S : Nat) : fb_u (fb_j r0 r1) S = fb_u r0 S ||| fb_u r1 S := by
  apply fb_ext (fb_u_lt (fb_j_B h0 h1) _) (Nat.or_lt_two_pow (n := 5) (fb_u_lt h0 _) (fb_u_lt h1 _))
  intro t _
  rw [Nat.testBit_or, Bool.or_eq_true, fb_u_bit, fb_u_bit, fb_u_bit]
  constructor
  · rintro ⟨s, hs, a, b⟩
    unfold fb_j at b
    rw [Nat.testBit_or, Bool.or_eq_true] at b
    rcases b with b | b
    · exact Or.inl ⟨s, hs, a, b⟩
    · exact Or.inr ⟨s, hs, a, b⟩
  · rintro (⟨s, hs, a, b⟩ | ⟨s, hs, a, b⟩)
    · exact ⟨s, hs, a, fb_ol b⟩
    · exact ⟨s, hs, a, fb_orr b⟩
theorem fb_cv_j {r0 r1 q0 q1 : Nat → Nat} (c0 : fb_cv r0 q0) (c1 : fb_cv r1 q1) : fb_cv (fb_j r0 r1) (fb_j q0 q1) := by
  intro s t hs ht
  unfold fb_j
  rw [Nat.testBit_or, Nat.testBit_or, Bool.or_eq_true, Bool.or_eq_true, c0 s t hs ht, c1 s t hs ht]
/-- k rounds of a closure -/
def fb_cl (r : Nat → Nat) : Nat → Nat → Nat
  | 0, S => S
  | k + 1, S => fb_cl r k S ||| fb_u r (fb_cl r k S)
def fb_it (r : Nat → Nat) : Nat → Nat → Nat
  | 0, S => S
  | k + 1, S => fb_u r (fb_it r k S)
theorem fb_cl_lt {r : Nat → Nat} (h : fb_B r) {S : Nat} (hS : S < 32) : ∀ k, fb_cl r k S < 32 := by
  intro k
  induction k with
  | zero => exact hS
  | succ k ih => exact Nat.or_lt_two_pow (n := 5) ih (fb_u_lt h _)
theorem fb_it_lt {r : Nat → Nat} (h : fb_B r) {S : Nat} (hS : S < 32) : ∀ k, fb_it r k S < 32 := by
  intro k
  induction k with
  | zero => exact hS
  | succ k ih => exact fb_u_lt h _
theorem fb_cl_0 (r : Nat → Nat) : ∀ k, fb_cl r k 0 = 0 := by
  intro k
  induction k with
  | zero => rfl
  | succ k ih =>
    show fb_cl r k 0 ||| fb_u r (fb_cl r k 0) = 0
    simp [ih, fb_u_0]
theorem fb_cl_45 {r : Nat → Nat} (h : fb_B r) {S : Nat} (hS : S < 32) : fb_cl r 5 S = fb_cl r 4 S := by
  by_cases h0 : S = 0
  · subst h0; rw [fb_cl_0, fb_cl_0]
  · obtain ⟨i, hi⟩ := Nat.exists_testBit_of_ne_zero h0
    have mono : ∀ k i, i < 5 → (fb_cl r k S).testBit i = true → (fb_cl r (k + 1) S).testBit i = true := by
      intro k i _ hh
      exact fb_ol hh
    have e : ∀ i, i < 5 → (fb_cl r (4 + 1) S).testBit i = true → (fb_cl r 4 S).testBit i = true := by
      refine fa_chain (N := 5) (c := 1) (fun k i => (fb_cl r k S).testBit i = true) mono ?_ ?_ 4 (by omega)
      · intro k hh i hi h2
        have : fb_cl r (k + 1) S = fb_cl r k S :=
          fb_ext (fb_cl_lt h hS _) (fb_cl_lt h hS _) (fun t ht => ⟨hh t ht, mono k t ht⟩)
        have h3 : fb_cl r (k + 2) S = fb_cl r (k + 1) S := by
          show fb_cl r (k + 1) S ||| fb_u r (fb_cl r (k + 1) S) = fb_cl r (k + 1) S
          rw [this]; exact this
        rw [h3] at h2; exact h2
      · exact fa_ct_pos (fb_lt_bit hS hi) hi
    exact fb_ext (fb_cl_lt h hS _) (fb_cl_lt h hS _) (fun t ht => ⟨e t ht, mono 4 t ht⟩)
theorem fb_cl_s (r : Nat → Nat) (S : Nat) : ∀ k, fb_cl r (k + 1) S = fb_cl r k (S ||| fb_u r S) := by
  intro k
  induction k with
  | zero => rfl
  | succ k ih => rw [fb_cl, ih]; rfl
theorem fb_m_or {S T U : Nat} (hS : S < 32) (hT : T < 32) : fb_m (S ||| T) U ↔ fb_m S U ∨ fb_m T U := by
  rw [fb_m_iff (Nat.or_lt_two_pow (n := 5) hS hT), fb_m_iff hS, fb_m_iff hT]
  constructor
  · rintro ⟨s, hs, a, b⟩
    rw [Nat.testBit_or, Bool.or_eq_true] at a
    rcases a with a | a
    · exact Or.inl ⟨s, hs, a, b⟩
    · exact Or.inr ⟨s, hs, a, b⟩
  · rintro (⟨s, hs, a, b⟩ | ⟨s, hs, a, b⟩)
    · exact ⟨s, hs, fb_ol a, b⟩
    · exact ⟨s, hs, fb_orr a, b⟩
theorem fb_cl_adj {r r' : Nat → Nat} (h : fb_B r) (h' : fb_B r') (c : fb_cv r r') {S : Nat} (hS : S < 32) : ∀ k T, T < 32 → (fb_m (fb_cl r k S) T ↔ fb_m S (fb_cl r' k T)) := by
  intro k
  induction k with
  | zero => intro T _; exact Iff.rfl
  | succ k ih =>
    intro T hT
    have hk := fb_cl_lt h hS k
    rw [fb_cl_s r' T k, ← ih _ (Nat.or_lt_two_pow (n := 5) hT (fb_u_lt h' _)), fb_cl, fb_m_or hk (fb_u_lt h _), fb_adj h c hk,
      fb_m_cm (fb_cl r k S) (T ||| fb_u r' T), fb_m_or hT (fb_u_lt h' _), fb_m_cm T, fb_m_cm (fb_u r' T)]
theorem fb_cl_it {r : Nat → Nat} {S : Nat} : ∀ k t, (fb_cl r k S).testBit t = true ↔ ∃ i, i ≤ k ∧ (fb_it r i S).testBit t = true := by
  intro k
  induction k with
  | zero =>
    intro t
    constructor
    · intro hh; exact ⟨0, Nat.le_refl _, hh⟩
    · rintro ⟨i, hi, hh⟩
      have : i = 0 := by omega
      subst this; exact hh
  | succ k ih =>
    intro t
    rw [fb_cl, Nat.testBit_or, Bool.or_eq_true, ih, fb_u_bit]
    constructor
    · rintro (⟨i, hi, hh⟩ | ⟨s, hs, a, b⟩)
      · exact ⟨i, by omega, hh⟩
      · obtain ⟨i, hi, hh⟩ := (ih s).mp a
        exact ⟨i + 1, by omega, (fb_u_bit r _ t).mpr ⟨s, hs, hh, b⟩⟩
    · rintro ⟨i, hi, hh⟩
      by_cases e : i ≤ k
      · exact Or.inl ⟨i, e, hh⟩
      · have : i = k + 1 := by omega
        subst this
        obtain ⟨s, hs, a, b⟩ := (fb_u_bit r _ t).mp hh
        exact Or.inr ⟨s, hs, (ih s).mpr ⟨k, Nat.le_refl _, a⟩, b⟩
theorem fb_it_s (r : Nat → Nat) (S : Nat) : ∀ k, fb_it r k (fb_u r S) = fb_it r (k + 1) S := by
  intro k
  induction k with
  | zero => rfl
  | succ k ih => rw [fb_it, ih]; rfl
/-- live: both ways of finding it -/
theorem fb_live {r r' : Nat → Nat} (h : fb_B r) (h' : fb_B r') (c : fb_cv r r') {b e s : Nat} (hb : b < 32) (he : e < 32) (hs : s < 5) :
    ((fb_cl r 5 b).testBit s = true ∧ fb_m (fb_cl r 5 (2 ^ s)) e) ↔ (fb_cl r 4 b &&& fb_cl r' 4 e).testBit s = true := by
  rw [fb_cl_45 h hb, fb_cl_45 h (fb_2lt hs), fb_cl_adj h h' c (fb_2lt hs) 4 e he, Nat.testBit_and, Bool.and_eq_true, fb_m_iff (fb_2lt hs)]
  constructor
  · rintro ⟨a, t, _, e1, e2⟩
    rw [fb_2p] at e1; subst e1; exact ⟨a, e2⟩
  · rintro ⟨a, e2⟩
    exact ⟨a, s, hs, fb_2p.mpr rfl, e2⟩
/-- on a round: both ways -/
theorem fb_round {r : Nat → Nat} {s : Nat} : (fb_cl r 4 (fb_u r (2 ^ s))).testBit s = true ↔ ∃ n, n < 5 ∧ (fb_it r (n + 1) (2 ^ s)).testBit s = true := by
  rw [fb_cl_it]
  constructor
  · rintro ⟨i, hi, hh⟩
    rw [fb_it_s] at hh
    exact ⟨i, by omega, hh⟩
  · rintro ⟨n, hn, hh⟩
    exact ⟨n, by omega, by rw [fb_it_s]; exact hh⟩
/-- words: k letters of w from the k-th binary digit down -/
def fb_rn (st : Nat → Nat → Nat) (w : Nat) : Nat → Nat → Nat
  | 0, S => S
  | k + 1, S => fb_rn st w k (st S (w / 2 ^ k % 2))
theorem fb_rn_snoc (st : Nat → Nat → Nat) (w : Nat) : ∀ k S, fb_rn st w (k + 1) S = st (fb_rn st (w / 2) k S) (w % 2) := by
  intro k
  induction k with
  | zero =>
    intro S
    show st S (w / 2 ^ 0 % 2) = st S (w % 2)
    rw [Nat.pow_zero, Nat.div_one]
  | succ k ih =>
    intro S
    rw [fb_rn, ih, fb_rn]
    have : w / 2 ^ (k + 1) = w / 2 / 2 ^ k := by
      rw [Nat.div_div_eq_div_mul, Nat.pow_succ, Nat.mul_comm]
    rw [this]
/-- the two steps of a machine -/
def fb_st (r0 r1 : Nat → Nat) (S l : Nat) : Nat := if l = 0 then fb_u r0 S else fb_u r1 S
theorem fb_st_lt {r0 r1 : Nat → Nat} (h0 : fb_B r0) (h1 : fb_B r1) (S l : Nat) : fb_st r0 r1 S l < 32 := by
  unfold fb_st; split
  · exact fb_u_lt h0 S
  · exact fb_u_lt h1 S
theorem fb_rn_lt {r0 r1 : Nat → Nat} (h0 : fb_B r0) (h1 : fb_B r1) (w : Nat) : ∀ k S, S < 32 → fb_rn (fb_st r0 r1) w k S < 32 := by
  intro k
  induction k with
  | zero => intro S h; exact h
  | succ k ih => intro S h; exact ih _ (fb_st_lt h0 h1 _ _)
theorem fb_it_mono {r : Nat → Nat} {S T : Nat} (h : ∀ t, S.testBit t = true → T.testBit t = true) : ∀ t, (fb_u r S).testBit t = true → (fb_u r T).testBit t = true := by
  intro t hh
  obtain ⟨s, hs, a, b⟩ := (fb_u_bit r S t).mp hh
  exact (fb_u_bit r T t).mpr ⟨s, hs, h s a, b⟩
theorem fb_rn_in {r0 r1 : Nat → Nat} (h0 : fb_B r0) (h1 : fb_B r1) : ∀ k w S t, (fb_rn (fb_st r0 r1) w k S).testBit t = true → (fb_it (fb_j r0 r1) k S).testBit t = true := by
  intro k
  induction k with
  | zero => intro w S t h; exact h
  | succ k ih =>
    intro w S t h
    rw [fb_rn_snoc] at h
    rw [fb_it, fb_u_j h0 h1, Nat.testBit_or, Bool.or_eq_true]
    unfold fb_st at h
    split at h
    · exact Or.inl (fb_it_mono (ih (w / 2) S) t h)
    · exact Or.inr (fb_it_mono (ih (w / 2) S) t h)
theorem fb_rn_out {r0 r1 : Nat → Nat} (h0 : fb_B r0) (h1 : fb_B r1) : ∀ k S t, (fb_it (fb_j r0 r1) k S).testBit t = true → ∃ w, 2 ^ k ≤ w ∧ w < 2 ^ (k + 1) ∧ (fb_rn (fb_st r0 r1) w k S).testBit t = true := by
  intro k
  induction k with
  | zero => intro S t h; exact ⟨1, by decide, by decide, h⟩
  | succ k ih =>
    intro S t h
    rw [fb_it, fb_u_j h0 h1, Nat.testBit_or, Bool.or_eq_true, fb_u_bit, fb_u_bit] at h
    rcases h with ⟨s, hs, a, b⟩ | ⟨s, hs, a, b⟩
    · obtain ⟨w, l, u, hw⟩ := ih S s a
      refine ⟨2 * w, by rw [Nat.pow_succ]; omega, by rw [Nat.pow_succ]; omega, ?_⟩
      rw [fb_rn_snoc, show 2 * w / 2 = w by omega, show 2 * w % 2 = 0 by omega]
      exact (fb_u_bit r0 _ t).mpr ⟨s, hs, hw, b⟩
    · obtain ⟨w, l, u, hw⟩ := ih S s a
      refine ⟨2 * w + 1, by rw [Nat.pow_succ]; omega, by rw [Nat.pow_succ]; omega, ?_⟩
      rw [fb_rn_snoc, show (2 * w + 1) / 2 = w by omega, show (2 * w + 1) % 2 = 1 by omega]
      exact (fb_u_bit r1 _ t).mpr ⟨s, hs, hw, b⟩
/-- the states after a word -/
def fb_wd (st : Nat → Nat → Nat) (b w : Nat) : Nat := fb_rn st w (Nat.log2 w) b
theorem fb_log {w k : Nat} (h : 2 ^ k ≤ w) (h2 : w < 2 ^ (k + 1)) : Nat.log2 w = k := by
  have h0 : w ≠ 0 := by
    have := Nat.two_pow_pos k
    omega
  exact (Nat.log2_eq_iff h0).mpr ⟨h, h2⟩
/-- what is accepted by five letters is accepted by fewer -/
theorem fb_short {r0 r1 : Nat → Nat} (h0 : fb_B r0) (h1 : fb_B r1) {b e : Nat} (hb : b < 32)
    (hn : ∀ w, 1 ≤ w → w < 32 → ¬ fb_m (fb_wd (fb_st r0 r1) b w) e) : ∀ w, 32 ≤ w → w < 64 → ¬ fb_m (fb_wd (fb_st r0 r1) b w) e := by
  intro w hl hu hm
  have hlog : Nat.log2 w = 5 := fb_log (k := 5) hl hu
  unfold fb_wd at hm
  rw [hlog, fb_m_iff (fb_rn_lt h0 h1 w 5 b hb)] at hm
  obtain ⟨t, ht, a, ae⟩ := hm
  have a1 := fb_rn_in h0 h1 5 w b t a
  have hB := fb_j_B h0 h1
  have a2 : (fb_cl (fb_j r0 r1) 5 b).testBit t = true := (fb_cl_it 5 t).mpr ⟨5, Nat.le_refl _, a1⟩
  rw [fb_cl_45 hB hb] at a2
  obtain ⟨i, hi, a3⟩ := (fb_cl_it 4 t).mp a2
  obtain ⟨w', l, u, a4⟩ := fb_rn_out h0 h1 i b t a3
  have hlog' : Nat.log2 w' = i := fb_log l u
  have u2 : 2 ^ (i + 1) ≤ 2 ^ 5 := Nat.pow_le_pow_right (by omega) (by omega)
  have l2 : 1 ≤ 2 ^ i := Nat.two_pow_pos i
  apply hn w' (by omega) (by omega)
  unfold fb_wd
  rw [hlog', fb_m_iff (fb_rn_lt h0 h1 w' i b hb)]
  exact ⟨t, ht, a4, ae⟩
