/-! what the arrays hold -/
def fk_T (t : Nat → Int32) (a : Nat → Nat) : Prop := ∀ m S l, m < 2 → S < 32 → l < 2 → t ((m * 32 + S) * 2 + l) = nI (ff_st a m S l)
def fk_V (t : Nat → Int32) (b : Nat → Nat) : Prop := ∀ m, m < 2 → t m = nI (b m)
def fk_A (t : Nat → Int32) (a : Nat → Nat) : Prop := ∀ i, i < 20 → t i = nI (a i)
def fk_ok (b : Nat → Nat) : Prop := ∀ m, m < 2 → b m < 32
theorem ff_st_u (a : Nat → Nat) (m S : Nat) {l : Nat} (hl : l < 2) : ff_st a m S l = fb_u (ff_r a m l) S := by
  have : l = 0 ∨ l = 1 := by omega
  rcases this with rfl | rfl
  · rfl
  · rfl
theorem ff_st_0 (a : Nat → Nat) (m : Nat) {l : Nat} (hl : l < 2) : ff_st a m 0 l = 0 := by
  rw [ff_st_u a m 0 hl, fb_u_0]
theorem ff_st_1 {a : Nat → Nat} (h : ff_ok a) {m s l : Nat} (hm : m < 2) (hs : s < 5) (hl : l < 2) : ff_st a m (2 ^ s) l = a (10 * m + 2 * s + l) := by
  rw [ff_st_u a m _ hl, fb_u_one (ff_B h hm hl) hs]; rfl
theorem ff_st_or {a : Nat → Nat} (h : ff_ok a) {m l : Nat} (hm : m < 2) (hl : l < 2) (S T : Nat) : ff_st a m (S ||| T) l = ff_st a m S l ||| ff_st a m T l := by
  rw [ff_st_u a m _ hl, ff_st_u a m _ hl, ff_st_u a m _ hl, fb_u_or (ff_B h hm hl)]
/-- one arrow flipped -/
def fk_fl (a : Nat → Nat) (i t : Nat) : Nat → Nat := fun j => if j = i then a j ^^^ 2 ^ t else a j
theorem fk_fl_s (a : Nat → Nat) (i t : Nat) : fk_fl a i t i = a i ^^^ 2 ^ t := if_pos rfl
theorem fk_fl_n {a : Nat → Nat} {i t j : Nat} (h : j ≠ i) : fk_fl a i t j = a j := if_neg h
theorem fk_fl_ok {a : Nat → Nat} (h : ff_ok a) {i t : Nat} (ht : t < 5) : ff_ok (fk_fl a i t) := by
  intro j hj
  by_cases q : j = i
  · subst q
    rw [fk_fl_s]
    exact Nat.xor_lt_two_pow (n := 5) (h j hj) (fb_2lt ht)
  · rw [fk_fl_n q]; exact h j hj
theorem fk_xb (x t t' : Nat) : (x ^^^ 2 ^ t).testBit t' = true ↔ ¬ (x.testBit t' = true ↔ t = t') := by
  rw [Nat.testBit_xor, Nat.testBit_two_pow]
  by_cases h : t = t'
  · cases x.testBit t' <;> simp [h]
  · cases x.testBit t' <;> simp [h]
theorem fk_fl_cv {a a' : Nat → Nat} (h : ff_cv a a') {m s l t : Nat} (hs : s < 5) (hl : l < 2) (ht : t < 5) : ff_cv (fk_fl a (10 * m + 2 * s + l) t) (fk_fl a' (10 * m + 2 * t + l) s) := by
  intro m' l' hm' hl' s' t' hs' ht'
  have base := h m' l' hm' hl' s' t' hs' ht'
  unfold ff_r at base ⊢
  by_cases q : m' = m ∧ l' = l
  · obtain ⟨rfl, rfl⟩ := q
    by_cases p : s' = s
    · subst p
      rw [fk_fl_s, fk_xb]
      by_cases p' : t' = t
      · subst p'
        rw [fk_fl_s, fk_xb, base]
        simp
      · rw [fk_fl_n (by omega), ← base]
        have : ¬ t = t' := fun e => p' e.symm
        simp [this]
    · rw [fk_fl_n (by omega)]
      by_cases p' : t' = t
      · subst p'
        rw [fk_fl_s, fk_xb, base]
        have : ¬ s = s' := fun e => p e.symm
        simp [this]
      · rw [fk_fl_n (by omega)]; exact base
  · rw [fk_fl_n (by omega), fk_fl_n (by omega)]; exact base
theorem fk_orx : ∀ x, x < 32 → ∀ t, t < 5 → x / 2 ^ t % 2 = 0 → x ||| 2 ^ t = x ^^^ 2 ^ t := by decide +kernel
theorem fk_negx : ∀ x, x < 32 → ∀ t, t < 5 → x / 2 ^ t % 2 = 1 → nI x &&& (nI (2 ^ t) ^^^ (-1)) = nI (x ^^^ 2 ^ t) := by decide +kernel
/-- exchanged for machine m alone -/
def fk_sw (a a' : Nat → Nat) (m : Nat) : Nat → Nat := fun i => if i / 10 = m then a' i else a i
theorem fk_sw_ok {a a' : Nat → Nat} (h : ff_ok a) (h' : ff_ok a') (m : Nat) : ff_ok (fk_sw a a' m) := by
  intro i hi
  unfold fk_sw
  split
  · exact h' i hi
  · exact h i hi
theorem fk_sw_r {a a' : Nat → Nat} {m m' l s : Nat} (hl : l < 2) (hs : s < 5) : ff_r (fk_sw a a' m) m' l s = if m' = m then ff_r a' m' l s else ff_r a m' l s := by
  unfold ff_r fk_sw
  rw [show (10 * m' + 2 * s + l) / 10 = m' by omega]
theorem fk_sw_cv {a a' : Nat → Nat} (h : ff_cv a a') (m : Nat) : ff_cv (fk_sw a a' m) (fk_sw a' a m) := by
  intro m' l hm hl s t hs ht
  have base := h m' l hm hl
  rw [fk_sw_r hl hs, fk_sw_r hl ht]
  by_cases q : m' = m
  · rw [if_pos q, if_pos q]; exact (base t s ht hs).symm
  · rw [if_neg q, if_neg q]; exact base s t hs ht
theorem fk_uo_congr {r r' : Nat → Nat} (h : ∀ s, s < 5 → r s = r' s) (S : Nat) : ∀ n, n ≤ 5 → fb_uo r S n = fb_uo r' S n := by
  intro n
  induction n with
  | zero => intro _; rfl
  | succ n ih =>
    intro hn
    show (if S.testBit n = true then fb_uo r S n ||| r n else fb_uo r S n) = (if S.testBit n = true then fb_uo r' S n ||| r' n else fb_uo r' S n)
    rw [ih (by omega), h n (by omega)]
theorem fk_st_congr {a a' : Nat → Nat} {m l : Nat} (h : ∀ s, s < 5 → ff_r a m l s = ff_r a' m l s) (hl : l < 2) (S : Nat) : ff_st a m S l = ff_st a' m S l := by
  rw [ff_st_u a m S hl, ff_st_u a' m S hl]
  exact fk_uo_congr h S 5 (Nat.le_refl _)
theorem fk_sw_st {a a' : Nat → Nat} (m m' S : Nat) {l : Nat} (hl : l < 2) : ff_st (fk_sw a a' m) m' S l = if m' = m then ff_st a' m' S l else ff_st a m' S l := by
  by_cases q : m' = m
  · rw [if_pos q]
    exact fk_st_congr (fun s hs => by rw [fk_sw_r hl hs, if_pos q]) hl S
  · rw [if_neg q]
    exact fk_st_congr (fun s hs => by rw [fk_sw_r hl hs, if_neg q]) hl S
def fk_swv (b e : Nat → Nat) (m : Nat) : Nat → Nat := fun i => if i = m then e i else b i
/-- a table whose one row of single states has been set: what the joining does to it -/
def fk_J (t : Nat → Int32) (a : Nat → Nat) (m l c : Nat) : Prop :=
  ∀ m' S l', m' < 2 → S < 32 → l' < 2 → ((m' ≠ m ∨ l' ≠ l) ∨ S < c ∨ ∃ s, s < 5 ∧ S = 2 ^ s) → t ((m' * 32 + S) * 2 + l') = nI (ff_st a m' S l')
theorem fk_J_end {t : Nat → Int32} {a : Nat → Nat} {m l : Nat} (h : fk_J t a m l 32) : fk_T t a :=
  fun m' S l' hm hS hl => h m' S l' hm hS hl (Or.inr (Or.inl hS))
theorem fk_J_step {t : Nat → Int32} {a : Nat → Nat} (ha : ff_ok a) {m l c : Nat} (hm : m < 2) (hl : l < 2) (hc : c < 32) (h0 : 0 < c) (h : fk_J t a m l c) :
    fk_J (upd t ((m * 32 + c) * 2 + l) (t ((m * 32 + fj_low c) * 2 + l) ||| t ((m * 32 + (c - fj_low c)) * 2 + l))) a m l (c + 1) := by
  obtain ⟨_, hle, hor, s, hs, hlow⟩ := fj_lowI c hc h0
  have e1 := h m (fj_low c) l hm (by omega) hl (Or.inr (Or.inr ⟨s, hs, hlow⟩))
  have hpos : 0 < fj_low c := by rw [hlow]; exact Nat.two_pow_pos s
  have e2 := h m (c - fj_low c) l hm (by omega) hl (Or.inr (Or.inl (by omega)))
  have e3 : nI (ff_st a m (fj_low c) l) ||| nI (ff_st a m (c - fj_low c) l) = nI (ff_st a m c l) := by
    rw [fj_or, ← ff_st_or ha hm hl, ← hor]
  intro m' S l' hm' hS hl' hh
  by_cases q : (m' * 32 + S) * 2 + l' = (m * 32 + c) * 2 + l
  · have q1 : m' = m := by omega
    have q2 : S = c := by omega
    have q3 : l' = l := by omega
    subst q1; subst q2; subst q3
    rw [pk_us, e1, e2, e3]
  · rw [pk_un q]
    apply h m' S l' hm' hS hl'
    rcases hh with hh | hh | hh
    · exact Or.inl hh
    · by_cases g : m' ≠ m ∨ l' ≠ l
      · exact Or.inl g
      · have : S ≠ c := fun e => q (by
          have : m' = m := Classical.byContradiction fun z => g (Or.inl z)
          have : l' = l := Classical.byContradiction fun z => g (Or.inr z)
          subst e; omega)
        exact Or.inr (Or.inl (by omega))
    · exact Or.inr (Or.inr hh)
/-- the table after the flip of one entry, ready to be joined -/
theorem fk_J_flip {t : Nat → Int32} {a : Nat → Nat} (ha : ff_ok a) {m s l u : Nat} (hm : m < 2) (hs : s < 5) (hl : l < 2) (hu : u < 5) (h : fk_T t a) :
    fk_J (upd t ((m * 32 + 2 ^ s) * 2 + l) (nI (a (10 * m + 2 * s + l) ^^^ 2 ^ u))) (fk_fl a (10 * m + 2 * s + l) u) m l 1 := by
  have ha' : ff_ok (fk_fl a (10 * m + 2 * s + l) u) := fk_fl_ok ha hu
  have h2 := fb_2lt hs
  have h2p : 0 < 2 ^ s := Nat.two_pow_pos s
  intro m' S l' hm' hS hl' hh
  by_cases q : (m' * 32 + S) * 2 + l' = (m * 32 + 2 ^ s) * 2 + l
  · have q1 : m' = m := by omega
    have q2 : S = 2 ^ s := by omega
    have q3 : l' = l := by omega
    subst q1; subst q2; subst q3
    rw [pk_us, ff_st_1 ha' hm hs hl, fk_fl_s]
  · rw [pk_un q, h m' S l' hm' hS hl']
    rcases hh with hh | hh | ⟨s', hs', rfl⟩
    · rw [fk_st_congr (a := fk_fl a (10 * m + 2 * s + l) u) (a' := a) (fun s' hs' => by
        unfold ff_r; rw [fk_fl_n (by omega)]) hl' S]
    · have : S = 0 := by omega
      subst this
      rw [ff_st_0 _ _ hl', ff_st_0 _ _ hl']
    · rw [ff_st_1 ha' hm' hs' hl', ff_st_1 ha hm' hs' hl']
      by_cases g : 10 * m' + 2 * s' + l' = 10 * m + 2 * s + l
      · have q1 : m' = m := by omega
        have q2 : s' = s := by omega
        have q3 : l' = l := by omega
        exact absurd (by rw [q1, q2, q3]) q
      · rw [fk_fl_n g]
/-! turning: fifty bits in one long -/
def fk_tn (a : Nat → Nat) (m c A : Nat) : Prop := A < 2 ^ 50 ∧ ∀ j, A.testBit j = true ↔ ∃ k, k < c ∧ j = 10 * (k % 5) + 5 * (k / 5 % 2) + k / 10 ∧ (a (10 * m + 2 * (k / 10) + k / 5 % 2)).testBit (k % 5) = true
theorem fk_tn_0 (a : Nat → Nat) (m : Nat) : fk_tn a m 0 0 :=
  ⟨by decide, fun j => ⟨fun h => by rw [Nat.zero_testBit] at h; exact Bool.noConfusion h, fun ⟨k, hk, _⟩ => absurd hk (Nat.not_lt_zero _)⟩⟩
theorem fk_tn_n {a : Nat → Nat} {m c A : Nat} (h : fk_tn a m c A) (hn : ¬ (a (10 * m + 2 * (c / 10) + c / 5 % 2)).testBit (c % 5) = true) : fk_tn a m (c + 1) A := by
  refine ⟨h.1, fun j => (h.2 j).trans ⟨fun ⟨k, hk, e⟩ => ⟨k, by omega, e⟩, fun ⟨k, hk, e1, e2⟩ => ?_⟩⟩
  have : k ≠ c := fun e => hn (e ▸ e2)
  exact ⟨k, by omega, e1, e2⟩
theorem fk_tn_y {a : Nat → Nat} {m c A : Nat} (h : fk_tn a m c A) (hc : c < 50) (hy : (a (10 * m + 2 * (c / 10) + c / 5 % 2)).testBit (c % 5) = true) : fk_tn a m (c + 1) (A ||| 2 ^ (10 * (c % 5) + 5 * (c / 5 % 2) + c / 10)) := by
  refine ⟨Nat.or_lt_two_pow h.1 (Nat.pow_lt_pow_right (by omega) (by omega)), fun j => ⟨fun hj => ?_, fun ⟨k, hk, e1, e2⟩ => ?_⟩⟩
  · rcases fe_or_e hj with hj | hj
    · obtain ⟨k, hk, e⟩ := (h.2 j).mp hj
      exact ⟨k, by omega, e⟩
    · rw [fb_2p] at hj
      exact ⟨c, by omega, hj.symm, hy⟩
  · by_cases q : k = c
    · subst q
      exact fb_orr (fb_2p.mpr e1.symm)
    · exact fb_ol ((h.2 j).mpr ⟨k, by omega, e1, e2⟩)
theorem fk_tn_v {a a' : Nat → Nat} {m A : Nat} (h : fk_tn a m 50 A) (hm : m < 2) (cv : ff_cv a a') (ok' : ff_ok a') : ∀ c, c < 10 → A / 2 ^ (5 * c) % 32 = a' (10 * m + c) := by
  intro c hc
  apply fb_ext (Nat.mod_lt _ (by omega)) (ok' _ (by omega))
  intro s hs
  have e : (A / 2 ^ (5 * c) % 32).testBit s = A.testBit (s + 5 * c) := by
    rw [show (32 : Nat) = 2 ^ 5 from rfl, Nat.testBit_mod_two_pow, Nat.testBit_div_two_pow]
    simp [hs]
  have base := cv m (c % 2) hm (by omega) s (c / 2) hs (by omega)
  unfold ff_r at base
  rw [show 10 * m + 2 * (c / 2) + c % 2 = 10 * m + c by omega] at base
  rw [e, h.2, ← base]
  constructor
  · rintro ⟨k, hk, e1, e2⟩
    have q1 : k / 10 = s := by omega
    have q2 : k / 5 % 2 = c % 2 := by omega
    have q3 : k % 5 = c / 2 := by omega
    rw [q1, q2, q3] at e2; exact e2
  · intro e2
    have k1 : (10 * s + 5 * (c % 2) + c / 2) / 10 = s := by omega
    have k2 : (10 * s + 5 * (c % 2) + c / 2) / 5 = 2 * s + c % 2 := by omega
    have k3 : (2 * s + c % 2) % 2 = c % 2 := by omega
    have k4 : (10 * s + 5 * (c % 2) + c / 2) % 5 = c / 2 := by omega
    refine ⟨10 * s + 5 * (c % 2) + c / 2, by omega, ?_, ?_⟩
    · rw [k1, k2, k3, k4]; omega
    · rw [k1, k2, k3, k4]; exact e2
/-! the words of the walk, in a long that stops growing -/
def fk_w (y W L : Nat) : Prop := (L ≤ 40 → y = W) ∧ (40 < L → 1099511627776 < y) ∧ y < 4398046511104
theorem fk_p40 {W L : Nat} (h : W < 2 ^ (L + 1)) (h2 : 1099511627776 ≤ W) : 40 ≤ L := by
  apply Classical.byContradiction
  intro hn
  have : 2 ^ (L + 1) ≤ 2 ^ 40 := Nat.pow_le_pow_right (by omega) (by omega)
  have e : (2 : Nat) ^ 40 = 1099511627776 := by decide
  omega
theorem fk_w_0 : fk_w 1 1 0 := ⟨fun _ => rfl, fun h => by omega, by omega⟩
theorem fk_w_t {y W L l : Nat} (h : fk_w y W L) (hW : W < 2 ^ (L + 1)) (hy : 1099511627776 < y) : fk_w y (2 * W + l) (L + 1) := by
  obtain ⟨h1, h2, h3⟩ := h
  have : 40 ≤ L := by
    by_cases q : L ≤ 40
    · have e := h1 q
      exact fk_p40 hW (by omega)
    · omega
  exact ⟨fun g => by omega, fun _ => hy, h3⟩
theorem fk_w_f {y W L l : Nat} (h : fk_w y W L) (hl : l < 2) (hL : 2 ^ L ≤ W) (hy : ¬ 1099511627776 < y) : fk_w (2 * y + l) (2 * W + l) (L + 1) := by
  obtain ⟨h1, h2, h3⟩ := h
  have q : L ≤ 40 := by
    apply Classical.byContradiction
    intro q
    exact hy (h2 (by omega))
  have e := h1 q
  subst e
  refine ⟨fun _ => rfl, fun g => ?_, by omega⟩
  have : L = 40 := by omega
  subst this
  have e : (2 : Nat) ^ 40 = 1099511627776 := by decide
  omega
theorem fk_w_d {y W L : Nat} (h : fk_w y W L) (h1 : 2 ^ L ≤ W) (h2 : W < 2 ^ (L + 1)) (hn : W ≠ 2 ^ 30) : (L ≤ 29 → y = W ∧ y ≤ 1073741824) ∧ (29 < L → 1073741824 < y) := by
  have e : (2 : Nat) ^ 30 = 1073741824 := by decide
  refine ⟨fun hL => ?_, fun hL => ?_⟩
  · have a := h.1 (by omega)
    have : 2 ^ (L + 1) ≤ 2 ^ 30 := Nat.pow_le_pow_right (by omega) (by omega)
    omega
  · have : 2 ^ 30 ≤ 2 ^ L := Nat.pow_le_pow_right (by omega) (by omega)
    by_cases q : L ≤ 40
    · have a := h.1 q
      omega
    · have a := h.2.1 (by omega)
      omega
