/-! the number of kinds, found in several ways -/
def fe_nb (R : Nat → Prop) (E : Nat → Nat → Prop) (s : Nat) : Prop := R s ∧ ∀ t, t < s → R t → ¬ E t s
theorem fe_nb_congr {R R' : Nat → Prop} {E E' : Nat → Nat → Prop} {n : Nat} (hR : ∀ s, s < n → (R s ↔ R' s)) (hE : ∀ s t, s < n → t < n → R s → R t → (E s t ↔ E' s t)) :
    fa_ct (fe_nb R E) n = fa_ct (fe_nb R' E') n := by
  apply fa_ct_congr
  intro s hs
  constructor
  · rintro ⟨h, g⟩
    refine ⟨(hR s hs).mp h, fun t ht hr he => g t ht ((hR t (by omega)).mpr hr) ((hE t s (by omega) hs ((hR t (by omega)).mpr hr) h).mpr he)⟩
  · rintro ⟨h, g⟩
    refine ⟨(hR s hs).mpr h, fun t ht hr he => g t ht ((hR t (by omega)).mp hr) ((hE t s (by omega) hs hr ((hR s hs).mpr h)).mp he)⟩
/-- a list without doubles that holds just the values of M on R is as long as there are kinds -/
theorem fe_list {β : Type} {R : Nat → Prop} {M : Nat → β} {G : Nat → β} {n N : Nat}
    (hi : ∀ i j, i < n → j < n → G i = G j → i = j) (h1 : ∀ i, i < n → ∃ s, s < N ∧ R s ∧ G i = M s) (h2 : ∀ s, s < N → R s → ∃ i, i < n ∧ G i = M s) :
    n = fa_ct (fe_nb R (fun s t => M s = M t)) N := by
  have nd1 : ((List.range n).map G).Nodup :=
    fa_nd_map _ _ (fun x hx y hy => hi x y (List.mem_range.mp hx) (List.mem_range.mp hy)) List.nodup_range
  have nd2 : ((fa_fl (fe_nb R (fun s t => M s = M t)) N).map M).Nodup := by
    refine fa_nd_map _ _ (fun x hx y hy e => ?_) (fa_fl_nd N)
    have hx' := (fa_fl_mem N x).mp hx
    have hy' := (fa_fl_mem N y).mp hy
    rcases Nat.lt_trichotomy x y with h | h | h
    · exact absurd e (hy'.2.2 x h hx'.2.1)
    · exact h
    · exact absurd e.symm (hx'.2.2 y h hy'.2.1)
  have s1 : (List.range n).map G ⊆ (fa_fl (fe_nb R (fun s t => M s = M t)) N).map M := by
    intro g hg
    obtain ⟨i, hi', e⟩ := List.mem_map.mp hg
    obtain ⟨s, hs, hr, es⟩ := h1 i (List.mem_range.mp hi')
    obtain ⟨k, hk, hp, hl⟩ := fa_least (P := fun k => R k ∧ M k = M s) ⟨hr, rfl⟩
    refine List.mem_map.mpr ⟨k, (fa_fl_mem N k).mpr ⟨by omega, hp.1, fun t ht hrt het => hl t ht ⟨hrt, het.trans hp.2⟩⟩, ?_⟩
    rw [hp.2, ← es, e]
  have s2 : (fa_fl (fe_nb R (fun s t => M s = M t)) N).map M ⊆ (List.range n).map G := by
    intro g hg
    obtain ⟨s, hs, e⟩ := List.mem_map.mp hg
    have hs' := (fa_fl_mem N s).mp hs
    obtain ⟨i, hi', ei⟩ := h2 s hs'.1 hs'.2.1
    exact List.mem_map.mpr ⟨i, List.mem_range.mpr hi', ei.trans e⟩
  have a := List.Nodup.length_le_of_subset nd1 s1
  have b := List.Nodup.length_le_of_subset nd2 s2
  rw [List.length_map, List.length_map, List.length_range] at a b
  exact Nat.le_antisymm a b
/-- such a list is never longer than there are sets -/
theorem fe_short {β : Type} {M : Nat → β} {G : Nat → β} {n N : Nat}
    (hi : ∀ i j, i < n → j < n → G i = G j → i = j) (h1 : ∀ i, i < n → ∃ s, s < N ∧ G i = M s) : n ≤ N := by
  have nd1 : ((List.range n).map G).Nodup :=
    fa_nd_map _ _ (fun x hx y hy => hi x y (List.mem_range.mp hx) (List.mem_range.mp hy)) List.nodup_range
  have s1 : (List.range n).map G ⊆ (List.range N).map M := by
    intro g hg
    obtain ⟨i, hi', e⟩ := List.mem_map.mp hg
    obtain ⟨s, hs, es⟩ := h1 i (List.mem_range.mp hi')
    exact List.mem_map.mpr ⟨s, List.mem_range.mpr hs, by rw [← es, e]⟩
  have a := List.Nodup.length_le_of_subset nd1 s1
  rw [List.length_map, List.length_map, List.length_range, List.length_range] at a
  exact a
section
variable {r0 r1 q0 q1 : Nat → Nat} {e : Nat}
theorem fe_adj (B0 : fb_B r0) (B1 : fb_B r1) (c0 : fb_cv r0 q0) (c1 : fb_cv r1 q1) {S T l : Nat} (hS : S < 32) :
    fb_m T (fb_st r0 r1 S l) ↔ fb_m (fb_st q0 q1 T l) S := by
  rw [fb_m_cm T, fb_m_cm _ S]
  unfold fb_st
  split
  · exact fb_adj B0 c0 hS
  · exact fb_adj B1 c1 hS
/-- words told by the sets that the turned machine reaches -/
theorem fe_ner (B0 : fb_B r0) (B1 : fb_B r1) (c0 : fb_cv r0 q0) (c1 : fb_cv r1 q1) {S S' : Nat} (hS : S < 32) (hS' : S' < 32) :
    (∀ T, fa_R (fb_st q0 q1) e T → (fb_m T S ↔ fb_m T S')) ↔ fa_I (fb_st r0 r1) (fun S => fb_m S e) S S' := by
  constructor
  · intro h
    refine fa_I_of (fun x y => x < 32 ∧ y < 32 ∧ ∀ T, fa_R (fb_st q0 q1) e T → (fb_m T x ↔ fb_m T y)) ?_ ?_ ?_ S S' ⟨hS, hS', h⟩
    · rintro x y ⟨_, _, hh⟩
      show fb_m x e ↔ fb_m y e
      rw [fb_m_cm x, fb_m_cm y]
      exact hh e fa_R_b
    · rintro x y ⟨hx, hy, hh⟩
      refine ⟨fb_st_lt B0 B1 _ _, fb_st_lt B0 B1 _ _, fun T hT => ?_⟩
      rw [fe_adj B0 B1 c0 c1 hx, fe_adj B0 B1 c0 c1 hy]
      exact hh _ (fa_R_0 hT)
    · rintro x y ⟨hx, hy, hh⟩
      refine ⟨fb_st_lt B0 B1 _ _, fb_st_lt B0 B1 _ _, fun T hT => ?_⟩
      rw [fe_adj B0 B1 c0 c1 hx, fe_adj B0 B1 c0 c1 hy]
      exact hh _ (fa_R_1 hT)
  · intro h T hT
    have key : ∀ T, fa_R (fb_st q0 q1) e T → ∀ x y, x < 32 → y < 32 → fa_I (fb_st r0 r1) (fun S => fb_m S e) x y → (fb_m T x ↔ fb_m T y) := by
      refine fa_R_of (fun T => ∀ x y, x < 32 → y < 32 → fa_I (fb_st r0 r1) (fun S => fb_m S e) x y → (fb_m T x ↔ fb_m T y)) ?_ ?_ ?_
      · intro x y _ _ hh
        rw [fb_m_cm e, fb_m_cm e]
        exact fa_I_f hh
      · intro T hT x y hx hy hh
        rw [← fe_adj B0 B1 c0 c1 hx, ← fe_adj B0 B1 c0 c1 hy]
        exact hT _ _ (fb_st_lt B0 B1 _ _) (fb_st_lt B0 B1 _ _) (fa_I_s0 hh)
      · intro T hT x y hx hy hh
        rw [← fe_adj B0 B1 c0 c1 hx, ← fe_adj B0 B1 c0 c1 hy]
        exact hT _ _ (fb_st_lt B0 B1 _ _) (fb_st_lt B0 B1 _ _) (fa_I_s1 hh)
    exact key T hT S S' hS hS' h
end
/-- marks: what is marked is apart, what few letters tell apart is marked -/
def fe_mk (d : Nat → Nat → Nat) (f : Nat → Prop) (r c : Nat) (Q : Nat → Prop) : Prop :=
  (∀ x y, x < 32 → y < 32 → Q (32 * x + y) → ¬ fa_I d f x y) ∧ (∀ x y, x < 32 → y < 32 → ¬ fa_E d f r x y → Q (32 * x + y)) ∧
  (∀ x y, x < 32 → y < 32 → 32 * x + y < c → ¬ fa_E d f (r + 1) x y → Q (32 * x + y))
section
variable {d : Nat → Nat → Nat} {f : Nat → Prop}
theorem fe_mk_0 {Q : Nat → Prop} (h : ∀ x y, x < 32 → y < 32 → (Q (32 * x + y) ↔ ¬ (f x ↔ f y))) : fe_mk d f 0 0 Q :=
  ⟨fun x y hx hy hq hi => (h x y hx hy).mp hq (fa_I_f hi), fun x y hx hy hn => (h x y hx hy).mpr hn, fun _ _ _ _ hc => absurd hc (Nat.not_lt_zero _)⟩
theorem fe_mk_s {r x y : Nat} {Q Q' : Nat → Prop} (h : fe_mk d f r (32 * x + y) Q) (hx : x < 32) (hy : y < 32) (hc : ∀ x, x < 32 → d x 0 < 32 ∧ d x 1 < 32)
    (hn : ∀ z, z < 1024 → z ≠ 32 * x + y → (Q' z ↔ Q z)) (he : Q' (32 * x + y) ↔ Q (32 * x + y) ∨ Q (32 * d x 0 + d y 0) ∨ Q (32 * d x 1 + d y 1)) : fe_mk d f r (32 * x + y + 1) Q' := by
  obtain ⟨h1, h2, h3⟩ := h
  have up : ∀ z, z < 1024 → Q z → Q' z := by
    intro z hz hq
    by_cases q : z = 32 * x + y
    · subst q; exact he.mpr (Or.inl hq)
    · exact (hn z hz q).mpr hq
  refine ⟨fun x' y' hx' hy' hq hi => ?_, fun x' y' hx' hy' hn' => up _ (by omega) (h2 x' y' hx' hy' hn'), fun x' y' hx' hy' hlt hn' => ?_⟩
  · by_cases q : 32 * x' + y' = 32 * x + y
    · have ex : x' = x := by omega
      have ey : y' = y := by omega
      subst ex; subst ey
      rcases he.mp hq with g | g | g
      · exact h1 _ _ hx hy g hi
      · exact h1 _ _ (hc _ hx).1 (hc _ hy).1 g (fa_I_s0 hi)
      · exact h1 _ _ (hc _ hx).2 (hc _ hy).2 g (fa_I_s1 hi)
    · exact h1 _ _ hx' hy' ((hn _ (by omega) q).mp hq) hi
  · by_cases q : 32 * x' + y' = 32 * x + y
    · have ex : x' = x := by omega
      have ey : y' = y := by omega
      subst ex; subst ey
      apply he.mpr
      apply Classical.byContradiction
      intro hno
      simp only [not_or] at hno
      refine hn' ⟨Classical.byContradiction fun g => hno.1 (h2 _ _ hx hy g), Classical.byContradiction fun g => hno.2.1 (h2 _ _ (hc _ hx).1 (hc _ hy).1 g), Classical.byContradiction fun g => hno.2.2 (h2 _ _ (hc _ hx).2 (hc _ hy).2 g)⟩
    · exact up _ (by omega) (h3 x' y' hx' hy' (by omega) hn')
theorem fe_mk_r {r : Nat} {Q : Nat → Prop} (h : fe_mk d f r 1024 Q) : fe_mk d f (r + 1) 0 Q :=
  ⟨h.1, fun x y hx hy => h.2.2 x y hx hy (by omega), fun _ _ _ _ hc => absurd hc (Nat.not_lt_zero _)⟩
theorem fe_mk_big {r : Nat} {Q : Nat → Prop} (h : fe_mk d f r 0 Q) (hr : 31 ≤ r) (hc : ∀ x, x < 32 → d x 0 < 32 ∧ d x 1 < 32) {x y : Nat} (hx : x < 32) (hy : y < 32) : Q (32 * x + y) ↔ ¬ fa_I d f x y :=
  ⟨h.1 x y hx hy, fun hn => h.2.1 x y hx hy (fun he => hn (fa_E_big (by omega) hc r (by omega) x y hx hy he))⟩
theorem fe_mk_cl {Q : Nat → Prop} {r : Nat} (h : fe_mk d f r 0 Q) (hc : ∀ x, x < 32 → d x 0 < 32 ∧ d x 1 < 32)
    (hcl : ∀ x y, x < 32 → y < 32 → ¬ Q (32 * x + y) → ¬ Q (32 * d x 0 + d y 0) ∧ ¬ Q (32 * d x 1 + d y 1)) {x y : Nat} (hx : x < 32) (hy : y < 32) : Q (32 * x + y) ↔ ¬ fa_I d f x y := by
  refine ⟨h.1 x y hx hy, fun hn => Classical.byContradiction fun hq => hn ?_⟩
  refine fa_I_of (fun x y => x < 32 ∧ y < 32 ∧ ¬ Q (32 * x + y)) ?_ ?_ ?_ x y ⟨hx, hy, hq⟩
  · rintro x y ⟨hx, hy, hq⟩
    have : fa_E d f r x y := Classical.byContradiction fun g => hq (h.2.1 x y hx hy g)
    exact fa_E_dn r 0 x y (by rw [Nat.zero_add]; exact this)
  · rintro x y ⟨hx, hy, hq⟩
    exact ⟨(hc x hx).1, (hc y hy).1, (hcl x y hx hy hq).1⟩
  · rintro x y ⟨hx, hy, hq⟩
    exact ⟨(hc x hx).2, (hc y hy).2, (hcl x y hx hy hq).2⟩
end
/-- masks of sets -/
def fe_rc (d : Nat → Nat → Nat) (b r K : Nat) : Prop :=
  K < 2 ^ 32 ∧ (∀ i, K.testBit i = true → fa_R d b i) ∧ (∀ s, fa_rk d b r s → K.testBit s = true)
/-- while a round goes over the sets: from K, the sets below c done, into W -/
def fe_rw (d : Nat → Nat → Nat) (b c K W : Nat) : Prop :=
  W < 2 ^ 32 ∧ (∀ i, W.testBit i = true → fa_R d b i) ∧ (∀ i, K.testBit i = true → W.testBit i = true) ∧ (∀ s, s < c → K.testBit s = true → W.testBit (d s 0) = true ∧ W.testBit (d s 1) = true)
theorem fe_or_l {a b i : Nat} (h : a.testBit i = true) : (a ||| b).testBit i = true := fb_ol h
theorem fe_or_r {a b i : Nat} (h : b.testBit i = true) : (a ||| b).testBit i = true := fb_orr h
theorem fe_or_e {a b i : Nat} (h : (a ||| b).testBit i = true) : a.testBit i = true ∨ b.testBit i = true := by
  rw [Nat.testBit_or, Bool.or_eq_true] at h; exact h
theorem fe_2p32 {s : Nat} (h : s < 32) : 2 ^ s < 2 ^ 32 := Nat.pow_lt_pow_right (by omega) h
section
variable {d : Nat → Nat → Nat} {b : Nat}
theorem fe_rc_0 (hb : b < 32) : fe_rc d b 0 (2 ^ b) :=
  ⟨fe_2p32 hb, fun i hi => by rw [fb_2p] at hi; exact hi ▸ fa_R_b, fun s hs => by rw [show s = b from hs]; exact fb_2p.mpr rfl⟩
theorem fe_rw_0 {r K : Nat} (h : fe_rc d b r K) : fe_rw d b 0 K K :=
  ⟨h.1, h.2.1, fun _ g => g, fun _ hs => absurd hs (Nat.not_lt_zero _)⟩
theorem fe_rw_n {c K W : Nat} (h : fe_rw d b c K W) (hn : ¬ K.testBit c = true) : fe_rw d b (c + 1) K W :=
  ⟨h.1, h.2.1, h.2.2.1, fun s hs g => by
    by_cases q : s = c
    · subst q; exact absurd g hn
    · exact h.2.2.2 s (by omega) g⟩
theorem fe_rw_y {c K W : Nat} (h : fe_rw d b c K W) (hy : K.testBit c = true) (hc : d c 0 < 32 ∧ d c 1 < 32) : fe_rw d b (c + 1) K (W ||| 2 ^ d c 0 ||| 2 ^ d c 1) := by
  have hr : fa_R d b c := h.2.1 c (h.2.2.1 c hy)
  refine ⟨Nat.or_lt_two_pow (Nat.or_lt_two_pow h.1 (fe_2p32 hc.1)) (fe_2p32 hc.2), fun i hi => ?_, fun i hi => fe_or_l (fe_or_l (h.2.2.1 i hi)), fun s hs g => ?_⟩
  · rcases fe_or_e hi with hi | hi
    · rcases fe_or_e hi with hi | hi
      · exact h.2.1 i hi
      · rw [fb_2p] at hi; exact hi ▸ fa_R_0 hr
    · rw [fb_2p] at hi; exact hi ▸ fa_R_1 hr
  · by_cases q : s = c
    · subst q
      exact ⟨fe_or_l (fe_or_r (fb_2p.mpr rfl)), fe_or_r (fb_2p.mpr rfl)⟩
    · exact ⟨fe_or_l (fe_or_l (h.2.2.2 s (by omega) g).1), fe_or_l (fe_or_l (h.2.2.2 s (by omega) g).2)⟩
theorem fe_rw_r {r K W : Nat} (h : fe_rc d b r K) (g : fe_rw d b 32 K W) (hc : ∀ x, x < 32 → d x 0 < 32 ∧ d x 1 < 32) (hb : b < 32) : fe_rc d b (r + 1) W := by
  refine ⟨g.1, g.2.1, fun s hs => ?_⟩
  rcases hs with hs | ⟨t, ht, e⟩
  · exact g.2.2.1 s (h.2.2 s hs)
  · have := g.2.2.2 t (fa_rk_lt hc hb r t ht) (h.2.2 t ht)
    rcases e with e | e
    · rw [e]; exact this.1
    · rw [e]; exact this.2
theorem fe_rc_st {r K : Nat} (h : fe_rc d b r K) (g : fe_rw d b 32 K K) (hc : ∀ x, x < 32 → d x 0 < 32 ∧ d x 1 < 32) (hb : b < 32) : ∀ s, K.testBit s = true ↔ fa_R d b s := by
  intro s
  refine ⟨h.2.1 s, fun hr => ?_⟩
  have hb' : fa_rk d b r b := by
    have := fa_mono_far (N := 32) (fa_rk d b) (fun _ _ _ h => Or.inl h) r 0 b hb rfl
    rw [Nat.zero_add] at this
    exact this
  have := fa_R_of (d := d) (b := b) (fun s => s < 32 ∧ K.testBit s = true) ⟨hb, h.2.2 b hb'⟩
    (fun s hs => ⟨(hc s hs.1).1, (g.2.2.2 s hs.1 hs.2).1⟩) (fun s hs => ⟨(hc s hs.1).2, (g.2.2.2 s hs.1 hs.2).2⟩) s hr
  exact this.2
theorem fe_rc_big {r K : Nat} (h : fe_rc d b r K) (hr : 31 ≤ r) (hc : ∀ x, x < 32 → d x 0 < 32 ∧ d x 1 < 32) (hb : b < 32) : ∀ s, K.testBit s = true ↔ fa_R d b s :=
  fun s => ⟨h.2.1 s, fun hs => h.2.2 s (fa_R_big hc hb r (by omega) hs)⟩
end
theorem fe_ext32 {K L : Nat} (hK : K < 2 ^ 32) (hL : L < 2 ^ 32) (h : ∀ t, t < 32 → (K.testBit t = true ↔ L.testBit t = true)) : K = L := by
  apply Nat.eq_of_testBit_eq
  intro i
  by_cases hi : i < 32
  · have := h i hi
    cases hs : K.testBit i <;> cases ht : L.testBit i <;> simp_all
  · have p : 2 ^ 32 ≤ 2 ^ i := Nat.pow_le_pow_right (by omega) (by omega)
    rw [Nat.testBit_lt_two_pow (Nat.lt_of_lt_of_le hK p), Nat.testBit_lt_two_pow (Nat.lt_of_lt_of_le hL p)]
