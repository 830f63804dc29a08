/-! walks on five states by one letter: two machines that agree on fewer than thirty letters agree on thirty -/
def fc_w (e : Nat → Nat → Prop) : Nat → Nat → Nat → Prop
  | 0, u, x => u = x
  | k + 1, u, x => ∃ v, v < 5 ∧ e u v ∧ fc_w e k v x
section
variable {e : Nat → Nat → Prop}
theorem fc_add : ∀ i j u v x, v < 5 → fc_w e i u v → fc_w e j v x → fc_w e (i + j) u x := by
  intro i
  induction i with
  | zero => intro j u v x _ h g; cases h; rw [Nat.zero_add]; exact g
  | succ i ih =>
    intro j u v x hv h g
    obtain ⟨y, hy, a, b⟩ := h
    rw [Nat.succ_add]
    exact ⟨y, hy, a, ih j y v x hv b g⟩
theorem fc_cut : ∀ i j u x, u < 5 → fc_w e (i + j) u x → ∃ v, v < 5 ∧ fc_w e i u v ∧ fc_w e j v x := by
  intro i
  induction i with
  | zero => intro j u x hu h; rw [Nat.zero_add] at h; exact ⟨u, hu, rfl, h⟩
  | succ i ih =>
    intro j u x hu h
    rw [Nat.succ_add] at h
    obtain ⟨y, hy, a, b⟩ := h
    obtain ⟨v, hv, c, d⟩ := ih j y x hy b
    exact ⟨v, hv, ⟨y, hy, a, c⟩, d⟩
theorem fc_up {d v x : Nat} (hv : v < 5) (h : fc_w e d v v) : ∀ t k, fc_w e k v x → fc_w e (k + d * t) v x := by
  intro t
  induction t with
  | zero => intro k g; exact g
  | succ t ih =>
    intro k g
    have := fc_add d (k + d * t) v v x hv h (ih k g)
    rw [show k + d * (t + 1) = d + (k + d * t) by rw [Nat.mul_succ]; omega]
    exact this
theorem fc_dn {d v : Nat} (hv : v < 5) (h : fc_w e d v v) : ∀ t s x, x < 5 → fc_w e (d * 4 + d * t + s) v x → fc_w e (d * 4 + s) v x := by
  intro t s x hx g
  obtain ⟨y, hy, a, b⟩ := fc_cut (d * 4 + d * t) s v x hv g
  have a' : fc_w e (d * (4 + t)) v y := by rw [Nat.mul_add]; exact a
  have key : fc_w e (d * 4) v y := by
    refine fa_chain_far (N := 5) (c := 1) (fun j x => fc_w e (d * j) v x) ?_ ?_ ?_ 4 (by omega) t y hy a'
    · intro k i _ hh
      have := fc_add d (d * k) v v i hv h hh
      show fc_w e (d * (k + 1)) v i
      rw [Nat.mul_succ, Nat.add_comm]
      exact this
    · intro k hh i hi h2
      have h2' : fc_w e (d * (k + 1) + d) v i := by rw [← Nat.mul_succ]; exact h2
      obtain ⟨z, hz, p, q⟩ := fc_cut (d * (k + 1)) d v i hv h2'
      have p' := hh z hz p
      have := fc_add (d * k) d v z i hz p' q
      show fc_w e (d * (k + 1)) v i
      rw [Nat.mul_succ]
      exact this
    · exact fa_ct_pos hv rfl
  exact fc_add (d * 4) s v y x hy key b
/-- every walk of five steps meets, within its first five states, a state on a closed walk whose length divides p -/
def fc_H (e : Nat → Nat → Prop) (p D : Nat) : Prop := ∀ u x, u < 5 → x < 5 → fc_w e 5 u x → ∃ i v d, i ≤ 4 ∧ v < 5 ∧ 1 ≤ d ∧ d ≤ D ∧ d ∣ p ∧ fc_w e i u v ∧ fc_w e d v v ∧ fc_w e (5 - i) v x
theorem fc_H_k {p D : Nat} (H : fc_H e p D) {k u x : Nat} (hk : 5 ≤ k) (hu : u < 5) (hx : x < 5) (h : fc_w e k u x) :
    ∃ i v d, i ≤ 4 ∧ v < 5 ∧ 1 ≤ d ∧ d ≤ D ∧ d ∣ p ∧ fc_w e i u v ∧ fc_w e d v v ∧ fc_w e (k - i) v x := by
  have h' : fc_w e (5 + (k - 5)) u x := by rw [show 5 + (k - 5) = k by omega]; exact h
  obtain ⟨y, hy, a, b⟩ := fc_cut 5 (k - 5) u x hu h'
  obtain ⟨i, v, d, hi, hv, h1, h2, h3, h4, h5, h6⟩ := H u y hu hy a
  refine ⟨i, v, d, hi, hv, h1, h2, h3, h4, h5, ?_⟩
  have := fc_add (5 - i) (k - 5) v y x hy h6 b
  rw [show 5 - i + (k - 5) = k - i by omega] at this
  exact this
theorem fc_H_per {p D : Nat} (H : fc_H e p D) (hD : 1 ≤ D) {k u x : Nat} (hk : 4 + 4 * D ≤ k) (hu : u < 5) (hx : x < 5) : fc_w e k u x ↔ fc_w e (k + p) u x := by
  constructor
  · intro h
    obtain ⟨i, v, d, hi, hv, h1, h2, ⟨q, hq⟩, h4, h5, h6⟩ := fc_H_k H (by omega) hu hx h
    have a := fc_up (x := x) hv h5 q (k - i) h6
    have := fc_add i (k - i + d * q) u v x hv h4 a
    rw [show i + (k - i + d * q) = k + p by rw [hq]; omega] at this
    exact this
  · intro h
    obtain ⟨i, v, d, hi, hv, h1, h2, ⟨q, hq⟩, h4, h5, h6⟩ := fc_H_k H (by omega) hu hx h
    have hs : d * 4 ≤ k - i := by omega
    obtain ⟨s, hs'⟩ := Nat.exists_eq_add_of_le hs
    have a : fc_w e (d * 4 + d * q + s) v x := by
      rw [show d * 4 + d * q + s = k + p - i by rw [hq]; omega]; exact h6
    have b := fc_dn hv h5 q s x hx a
    have := fc_add i (d * 4 + s) u v x hv h4 b
    rw [show i + (d * 4 + s) = k by omega] at this
    exact this
theorem fc_six {a b c d g h : Nat} (ha : a < 5) (hb : b < 5) (hc : c < 5) (hd : d < 5) (hg : g < 5) (hh : h < 5)
    (hn : [a, b, c, d, g, h].Nodup) : False := by
  have : [a, b, c, d, g, h] ⊆ List.range 5 := by
    intro x hx
    rw [List.mem_range]
    simp only [List.mem_cons, List.not_mem_nil, or_false] at hx
    rcases hx with rfl | rfl | rfl | rfl | rfl | rfl <;> assumption
  have := List.Nodup.length_le_of_subset hn this
  simp at this
/-- a walk of five steps, its six states -/
theorem fc_5 {u x : Nat} (h : fc_w e 5 u x) : ∃ a b c d, a < 5 ∧ b < 5 ∧ c < 5 ∧ d < 5 ∧ e u a ∧ e a b ∧ e b c ∧ e c d ∧ e d x ∧ x < 5 := by
  obtain ⟨a, ha, e1, b, hb, e2, c, hc, e3, d, hd, e4, y, hy, e5, hx⟩ := h
  cases hx
  exact ⟨a, b, c, d, ha, hb, hc, hd, e1, e2, e3, e4, e5, hy⟩
theorem fc_1 {u v : Nat} (hv : v < 5) (h : e u v) : fc_w e 1 u v := ⟨v, hv, h, rfl⟩
theorem fc_2 {u v w : Nat} (hv : v < 5) (hw : w < 5) (h : e u v) (g : e v w) : fc_w e 2 u w := ⟨v, hv, h, fc_1 hw g⟩
theorem fc_3 {u v w y : Nat} (hv : v < 5) (hw : w < 5) (hy : y < 5) (h : e u v) (g : e v w) (k : e w y) : fc_w e 3 u y := ⟨v, hv, h, fc_2 hw hy g k⟩
theorem fc_4 {u v w y z : Nat} (hv : v < 5) (hw : w < 5) (hy : y < 5) (hz : z < 5) (h : e u v) (g : e v w) (k : e w y) (l : e y z) : fc_w e 4 u z := ⟨v, hv, h, fc_3 hw hy hz g k l⟩
theorem fc_A {c0 c1 : Nat} (h0 : c0 < 5) (h1 : c1 < 5) (hne : c0 ≠ c1) (w0 : fc_w e 3 c0 c0) (w1 : fc_w e 3 c1 c1) : fc_H e 6 3 := by
  intro u x hu hx h
  obtain ⟨a, b, c, d, ha, hb, hc, hd, e1, e2, e3, e4, e5, _⟩ := fc_5 h
  have t0 : fc_w e 5 u x := h
  have t1 : fc_w e 4 a x := fc_4 hb hc hd hx e2 e3 e4 e5
  have t2 : fc_w e 3 b x := fc_3 hc hd hx e3 e4 e5
  have t3 : fc_w e 2 c x := fc_2 hd hx e4 e5
  have s1 : fc_w e 1 u a := fc_1 ha e1
  have s2 : fc_w e 2 u b := fc_2 ha hb e1 e2
  have s3 : fc_w e 3 u c := fc_3 ha hb hc e1 e2 e3
  have d1 : 1 ∣ 6 := ⟨6, rfl⟩
  have d2 : 2 ∣ 6 := ⟨3, rfl⟩
  have d3 : 3 ∣ 6 := ⟨2, rfl⟩
  by_cases q1 : u = a
  · exact ⟨0, u, 1, by omega, hu, by omega, by omega, d1, rfl, fc_1 hu (by rw [← q1] at e1; exact e1), t0⟩
  by_cases q2 : u = b
  · exact ⟨0, u, 2, by omega, hu, by omega, by omega, d2, rfl, by rw [← q2] at s2; exact s2, t0⟩
  by_cases q3 : u = c
  · exact ⟨0, u, 3, by omega, hu, by omega, by omega, d3, rfl, by rw [← q3] at s3; exact s3, t0⟩
  by_cases q4 : a = b
  · exact ⟨1, a, 1, by omega, ha, by omega, by omega, d1, s1, fc_1 ha (by rw [← q4] at e2; exact e2), t1⟩
  by_cases q5 : a = c
  · exact ⟨1, a, 2, by omega, ha, by omega, by omega, d2, s1, fc_2 hb ha e2 (by rw [← q5] at e3; exact e3), t1⟩
  by_cases q6 : b = c
  · exact ⟨2, b, 1, by omega, hb, by omega, by omega, d1, s2, fc_1 hb (by rw [← q6] at e3; exact e3), t2⟩
  have hit : ∀ z, z < 5 → fc_w e 3 z z → (u = z ∨ a = z ∨ b = z ∨ c = z) → ∃ i v d, i ≤ 4 ∧ v < 5 ∧ 1 ≤ d ∧ d ≤ 3 ∧ d ∣ 6 ∧ fc_w e i u v ∧ fc_w e d v v ∧ fc_w e (5 - i) v x := by
    intro z hz wz hh
    rcases hh with rfl | rfl | rfl | rfl
    · exact ⟨0, _, 3, by omega, hz, by omega, by omega, d3, rfl, wz, t0⟩
    · exact ⟨1, _, 3, by omega, hz, by omega, by omega, d3, s1, wz, t1⟩
    · exact ⟨2, _, 3, by omega, hz, by omega, by omega, d3, s2, wz, t2⟩
    · exact ⟨3, _, 3, by omega, hz, by omega, by omega, d3, s3, wz, t3⟩
  by_cases m0 : u = c0 ∨ a = c0 ∨ b = c0 ∨ c = c0
  · exact hit c0 h0 w0 m0
  by_cases m1 : u = c1 ∨ a = c1 ∨ b = c1 ∨ c = c1
  · exact hit c1 h1 w1 m1
  exfalso
  refine fc_six h0 h1 hu ha hb hc ?_
  simp only [not_or] at m0 m1
  obtain ⟨x1, x2, x3, x4⟩ := m0
  obtain ⟨y1, y2, y3, y4⟩ := m1
  simp only [List.nodup_cons, List.mem_cons, List.not_mem_nil, or_false, not_or, not_false_eq_true, List.nodup_nil, and_true]
  exact ⟨⟨hne, Ne.symm x1, Ne.symm x2, Ne.symm x3, Ne.symm x4⟩, ⟨Ne.symm y1, Ne.symm y2, Ne.symm y3, Ne.symm y4⟩, ⟨q1, q2, q3⟩, ⟨q4, q5⟩, q6⟩
/-- with no two states on closed walks of three steps, such a walk is a loop -/
theorem fc_no3 (nA : ¬ ∃ c0 c1, c0 < 5 ∧ c1 < 5 ∧ c0 ≠ c1 ∧ fc_w e 3 c0 c0 ∧ fc_w e 3 c1 c1) {a b c : Nat} (ha : a < 5) (hb : b < 5) (hc : c < 5) (h : e a b) (g : e b c) (k : e c a) : fc_w e 1 a a := by
  by_cases q : a = b
  · exact fc_1 ha (by rw [← q] at h; exact h)
  · exact absurd ⟨a, b, ha, hb, q, fc_3 hb hc ha h g k, fc_3 hc ha hb g k h⟩ nA
/-- how a walk of five steps comes back to itself -/
theorem fc_rep {u a b c d x : Nat} (hu : u < 5) (ha : a < 5) (hb : b < 5) (hc : c < 5) (hd : d < 5) (hx : x < 5)
    (nA : ¬ ∃ c0 c1, c0 < 5 ∧ c1 < 5 ∧ c0 ≠ c1 ∧ fc_w e 3 c0 c0 ∧ fc_w e 3 c1 c1)
    (e1 : e u a) (e2 : e a b) (e3 : e b c) (e4 : e c d) (e5 : e d x) :
    (∃ i v q, i ≤ 4 ∧ v < 5 ∧ (q = 1 ∨ q = 2 ∨ q = 4) ∧ fc_w e i u v ∧ fc_w e q v v ∧ fc_w e (5 - i) v x) ∨ (u = x ∧ ∀ z, z < 5 → z = u ∨ z = a ∨ z = b ∨ z = c ∨ z = d) := by
  have t0 : fc_w e 5 u x := ⟨a, ha, e1, fc_4 hb hc hd hx e2 e3 e4 e5⟩
  have t1 : fc_w e 4 a x := fc_4 hb hc hd hx e2 e3 e4 e5
  have t2 : fc_w e 3 b x := fc_3 hc hd hx e3 e4 e5
  have t3 : fc_w e 2 c x := fc_2 hd hx e4 e5
  have t4 : fc_w e 1 d x := fc_1 hx e5
  have s1 : fc_w e 1 u a := fc_1 ha e1
  have s2 : fc_w e 2 u b := fc_2 ha hb e1 e2
  have s3 : fc_w e 3 u c := fc_3 ha hb hc e1 e2 e3
  have s4 : fc_w e 4 u d := fc_4 ha hb hc hd e1 e2 e3 e4
  by_cases q1 : u = a
  · exact Or.inl ⟨0, u, 1, by omega, hu, by omega, rfl, fc_1 hu (by rw [← q1] at e1; exact e1), t0⟩
  by_cases q2 : u = b
  · exact Or.inl ⟨0, u, 2, by omega, hu, by omega, rfl, by rw [← q2] at s2; exact s2, t0⟩
  by_cases q3 : u = c
  · exact Or.inl ⟨0, u, 1, by omega, hu, by omega, rfl, fc_no3 nA hu ha hb e1 e2 (by rw [← q3] at e3; exact e3), t0⟩
  by_cases q4 : u = d
  · exact Or.inl ⟨0, u, 4, by omega, hu, by omega, rfl, by rw [← q4] at s4; exact s4, t0⟩
  by_cases q5 : a = b
  · exact Or.inl ⟨1, a, 1, by omega, ha, by omega, s1, fc_1 ha (by rw [← q5] at e2; exact e2), t1⟩
  by_cases q6 : a = c
  · exact Or.inl ⟨1, a, 2, by omega, ha, by omega, s1, fc_2 hb ha e2 (by rw [← q6] at e3; exact e3), t1⟩
  by_cases q7 : a = d
  · exact Or.inl ⟨1, a, 1, by omega, ha, by omega, s1, fc_no3 nA ha hb hc e2 e3 (by rw [← q7] at e4; exact e4), t1⟩
  by_cases q8 : a = x
  · exact Or.inl ⟨1, a, 4, by omega, ha, by omega, s1, by rw [← q8] at t1; exact t1, t1⟩
  by_cases q9 : b = c
  · exact Or.inl ⟨2, b, 1, by omega, hb, by omega, s2, fc_1 hb (by rw [← q9] at e3; exact e3), t2⟩
  by_cases q10 : b = d
  · exact Or.inl ⟨2, b, 2, by omega, hb, by omega, s2, fc_2 hc hb e3 (by rw [← q10] at e4; exact e4), t2⟩
  by_cases q11 : b = x
  · exact Or.inl ⟨2, b, 1, by omega, hb, by omega, s2, fc_no3 nA hb hc hd e3 e4 (by rw [← q11] at e5; exact e5), t2⟩
  by_cases q12 : c = d
  · exact Or.inl ⟨3, c, 1, by omega, hc, by omega, s3, fc_1 hc (by rw [← q12] at e4; exact e4), t3⟩
  by_cases q13 : c = x
  · exact Or.inl ⟨3, c, 2, by omega, hc, by omega, s3, fc_2 hd hc e4 (by rw [← q13] at e5; exact e5), t3⟩
  by_cases q14 : d = x
  · exact Or.inl ⟨4, d, 1, by omega, hd, by omega, s4, fc_1 hd (by rw [← q14] at e5; exact e5), t4⟩
  have all : ∀ z, z < 5 → z = u ∨ z = a ∨ z = b ∨ z = c ∨ z = d := by
    intro z hz
    apply Classical.byContradiction
    intro hn
    simp only [not_or] at hn
    obtain ⟨z1, z2, z3, z4, z5⟩ := hn
    refine fc_six hz hu ha hb hc hd ?_
    simp only [List.nodup_cons, List.mem_cons, List.not_mem_nil, or_false, not_or, not_false_eq_true, List.nodup_nil, and_true]
    exact ⟨⟨z1, z2, z3, z4, z5⟩, ⟨q1, q2, q3, q4⟩, ⟨q5, q6, q7⟩, ⟨q9, q10⟩, q12⟩
  refine Or.inr ⟨?_, all⟩
  rcases all x hx with h | h | h | h | h
  · exact h.symm
  · exact absurd h.symm q8
  · exact absurd h.symm q11
  · exact absurd h.symm q13
  · exact absurd h.symm q14
theorem fc_B (nA : ¬ ∃ c0 c1, c0 < 5 ∧ c1 < 5 ∧ c0 ≠ c1 ∧ fc_w e 3 c0 c0 ∧ fc_w e 3 c1 c1) {z q : Nat} (hz : z < 5) (hq : q = 1 ∨ q = 2 ∨ q = 4) (w : fc_w e q z z) : fc_H e 4 4 := by
  have dv : ∀ q, (q = 1 ∨ q = 2 ∨ q = 4) → q ∣ 4 := by
    intro q hq
    rcases hq with rfl | rfl | rfl
    · exact ⟨4, rfl⟩
    · exact ⟨2, rfl⟩
    · exact ⟨1, rfl⟩
  intro u x hu hx h
  obtain ⟨a, b, c, d, ha, hb, hc, hd, e1, e2, e3, e4, e5, _⟩ := fc_5 h
  rcases fc_rep hu ha hb hc hd hx nA e1 e2 e3 e4 e5 with ⟨i, v, p, hi, hv, hp, h1, h2, h3⟩ | ⟨_, all⟩
  · exact ⟨i, v, p, hi, hv, by omega, by omega, dv p hp, h1, h2, h3⟩
  · rcases all z hz with rfl | rfl | rfl | rfl | rfl
    · exact ⟨0, _, q, by omega, hz, by omega, by omega, dv q hq, rfl, w, h⟩
    · exact ⟨1, _, q, by omega, hz, by omega, by omega, dv q hq, fc_1 hz e1, w, fc_4 hb hc hd hx e2 e3 e4 e5⟩
    · exact ⟨2, _, q, by omega, hz, by omega, by omega, dv q hq, fc_2 ha hz e1 e2, w, fc_3 hc hd hx e3 e4 e5⟩
    · exact ⟨3, _, q, by omega, hz, by omega, by omega, dv q hq, fc_3 ha hb hz e1 e2 e3, w, fc_2 hd hx e4 e5⟩
    · exact ⟨4, _, q, by omega, hz, by omega, by omega, dv q hq, fc_4 ha hb hc hz e1 e2 e3 e4, w, fc_1 hx e5⟩
theorem fc_per : ∃ p K, ((p = 6 ∧ K = 16) ∨ (p = 4 ∧ K = 20) ∨ (p = 5 ∧ K = 5)) ∧ ∀ k u x, K ≤ k → u < 5 → x < 5 → (fc_w e k u x ↔ fc_w e (k + p) u x) := by
  by_cases hA : ∃ c0 c1, c0 < 5 ∧ c1 < 5 ∧ c0 ≠ c1 ∧ fc_w e 3 c0 c0 ∧ fc_w e 3 c1 c1
  · obtain ⟨c0, c1, h0, h1, hne, w0, w1⟩ := hA
    exact ⟨6, 16, by omega, fun k u x hk hu hx => fc_H_per (fc_A h0 h1 hne w0 w1) (by omega) hk hu hx⟩
  · by_cases hB : ∃ z q, z < 5 ∧ (q = 1 ∨ q = 2 ∨ q = 4) ∧ fc_w e q z z
    · obtain ⟨z, q, hz, hq, w⟩ := hB
      exact ⟨4, 20, by omega, fun k u x hk hu hx => fc_H_per (fc_B hA hz hq w) (by omega) hk hu hx⟩
    · have id5 : ∀ u x, u < 5 → x < 5 → fc_w e 5 u x → u = x := by
        intro u x hu hx h
        obtain ⟨a, b, c, d, ha, hb, hc, hd, e1, e2, e3, e4, e5, _⟩ := fc_5 h
        rcases fc_rep hu ha hb hc hd hx hA e1 e2 e3 e4 e5 with ⟨i, v, p, hi, hv, hp, h1, h2, h3⟩ | ⟨h1, _⟩
        · exact absurd ⟨v, p, hv, hp, h2⟩ hB
        · exact h1
      refine ⟨5, 5, by omega, fun k u x hk hu hx => ⟨fun h => ?_, fun h => ?_⟩⟩
      · obtain ⟨v, hv, a, b⟩ := fc_cut 5 (k - 5) u x hu (by rw [show 5 + (k - 5) = k by omega]; exact h)
        have := id5 u v hu hv a
        subst this
        have := fc_add 5 k u u x hu a h
        rw [Nat.add_comm] at this
        exact this
      · obtain ⟨v, hv, a, b⟩ := fc_cut 5 k u x hu (by rw [Nat.add_comm]; exact h)
        have := id5 u v hu hv a
        subst this
        exact b
end
theorem fc_it {r : Nat → Nat} (S : Nat) : ∀ k t, t < 5 → ((fb_it r k S).testBit t = true ↔ ∃ u, u < 5 ∧ S.testBit u = true ∧ fc_w (fun s t => (r s).testBit t = true) k u t) := by
  intro k
  induction k generalizing S with
  | zero =>
    intro t ht
    constructor
    · intro h; exact ⟨t, ht, h, rfl⟩
    · rintro ⟨u, _, h, e⟩
      cases e; exact h
  | succ k ih =>
    intro t ht
    rw [← fb_it_s, ih (fb_u r S) t ht]
    constructor
    · rintro ⟨u, hu, a, b⟩
      obtain ⟨s, hs, a1, a2⟩ := (fb_u_bit r S u).mp a
      exact ⟨s, hs, a1, u, hu, a2, b⟩
    · rintro ⟨s, hs, a1, u, hu, a2, b⟩
      exact ⟨u, hu, (fb_u_bit r S u).mpr ⟨s, hs, a1, a2⟩, b⟩
theorem fc_acc {r : Nat → Nat} (h : fb_B r) {S : Nat} (hS : S < 32) (T k : Nat) : fb_m (fb_it r k S) T ↔ ∃ u t, u < 5 ∧ t < 5 ∧ S.testBit u = true ∧ T.testBit t = true ∧ fc_w (fun s t => (r s).testBit t = true) k u t := by
  rw [fb_m_iff (fb_it_lt h hS k)]
  constructor
  · rintro ⟨t, ht, a, b⟩
    obtain ⟨u, hu, a1, a2⟩ := (fc_it S k t ht).mp a
    exact ⟨u, t, hu, ht, a1, b, a2⟩
  · rintro ⟨u, t, hu, ht, a, b, c⟩
    exact ⟨t, ht, (fc_it S k t ht).mpr ⟨u, hu, a, c⟩, b⟩
theorem fc_accper {r : Nat → Nat} (h : fb_B r) {S : Nat} (hS : S < 32) (T : Nat) : ∃ p K, ((p = 6 ∧ K = 16) ∨ (p = 4 ∧ K = 20) ∨ (p = 5 ∧ K = 5)) ∧ ∀ k, K ≤ k → (fb_m (fb_it r k S) T ↔ fb_m (fb_it r (k + p) S) T) := by
  obtain ⟨p, K, hp, H⟩ := fc_per (e := fun s t => (r s).testBit t = true)
  refine ⟨p, K, hp, fun k hk => ?_⟩
  rw [fc_acc h hS, fc_acc h hS]
  constructor
  · rintro ⟨u, t, hu, ht, a, b, c⟩
    exact ⟨u, t, hu, ht, a, b, (H k u t hk hu ht).mp c⟩
  · rintro ⟨u, t, hu, ht, a, b, c⟩
    exact ⟨u, t, hu, ht, a, b, (H k u t hk hu ht).mpr c⟩
theorem fc_chain {f g : Nat → Prop} {p q K L : Nat} (hp : ∀ k, K ≤ k → (f k ↔ f (k + p))) (hq : ∀ k, L ≤ k → (g k ↔ g (k + q)))
    (h1 : K + p + q ≤ 30) (h2 : L + p + q ≤ 30) (p0 : 0 < p) (q0 : 0 < q) (ag : ∀ k, k < 30 → (f k ↔ g k)) : f 30 ↔ g 30 := by
  have a1 := hp (30 - p) (by omega)
  have a2 := ag (30 - p) (by omega)
  have a3 := hq (30 - p - q) (by omega)
  have a4 := ag (30 - p - q) (by omega)
  have a5 := hp (30 - p - q) (by omega)
  have a6 := ag (30 - q) (by omega)
  have a7 := hq (30 - q) (by omega)
  rw [show 30 - p + p = 30 by omega] at a1
  rw [show 30 - p - q + q = 30 - p by omega] at a3
  rw [show 30 - p - q + p = 30 - q by omega] at a5
  rw [show 30 - q + q = 30 by omega] at a7
  rw [← a1, a2, ← a3, ← a4, a5, a6, a7]
theorem fc_30 {r r' : Nat → Nat} (h : fb_B r) (h' : fb_B r') {S S' : Nat} (hS : S < 32) (hS' : S' < 32) (T T' : Nat)
    (ag : ∀ k, k < 30 → (fb_m (fb_it r k S) T ↔ fb_m (fb_it r' k S') T')) : fb_m (fb_it r 30 S) T ↔ fb_m (fb_it r' 30 S') T' := by
  obtain ⟨p, K, hp, H⟩ := fc_accper h hS T
  obtain ⟨q, L, hq, H'⟩ := fc_accper h' hS' T'
  exact fc_chain H H' (by omega) (by omega) (by omega) (by omega) ag
