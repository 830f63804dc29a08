/-! masks built by a loop over the sets; the groups of the turned machine -/
theorem fm_inj {x y : Nat} (hx : x < 2 ^ 32) (hy : y < 2 ^ 32) : nI x = nI y ↔ x = y := by
  constructor
  · intro h
    have := congrArg (fun z : Int32 => z.toBitVec.toNat) h
    have h1 : (nI x).toBitVec.toNat = (nI y).toBitVec.toNat := this
    rw [pk_tn hx, pk_tn hy] at h1
    exact h1
  · intro h; rw [h]
noncomputable def fm_k (p : Nat → Prop) : Nat → Nat
  | 0 => 0
  | c + 1 => @ite Nat (p c) (Classical.propDecidable _) (fm_k p c ||| 2 ^ c) (fm_k p c)
theorem fm_k_t {p : Nat → Prop} {c : Nat} (h : p c) : fm_k p (c + 1) = fm_k p c ||| 2 ^ c := by
  show @ite Nat (p c) (Classical.propDecidable _) _ _ = _
  exact if_pos h
theorem fm_k_f {p : Nat → Prop} {c : Nat} (h : ¬ p c) : fm_k p (c + 1) = fm_k p c := by
  show @ite Nat (p c) (Classical.propDecidable _) _ _ = _
  exact if_neg h
theorem fm_k_bit (p : Nat → Prop) : ∀ c i, (fm_k p c).testBit i = true ↔ i < c ∧ p i := by
  intro c
  induction c with
  | zero =>
    intro i
    show (0 : Nat).testBit i = true ↔ _
    rw [Nat.zero_testBit]
    exact ⟨fun h => Bool.noConfusion h, fun h => absurd h.1 (Nat.not_lt_zero _)⟩
  | succ c ih =>
    intro i
    by_cases h : p c
    · rw [fm_k_t h, Nat.testBit_or, Bool.or_eq_true, ih, fb_2p]
      constructor
      · rintro (g | g)
        · exact ⟨by omega, g.2⟩
        · subst g; exact ⟨by omega, h⟩
      · intro g
        by_cases q : i = c
        · exact Or.inr q.symm
        · exact Or.inl ⟨by omega, g.2⟩
    · rw [fm_k_f h, ih]
      constructor
      · intro g; exact ⟨by omega, g.2⟩
      · intro g
        have : i ≠ c := fun e => h (e ▸ g.2)
        exact ⟨by omega, g.2⟩
theorem fm_k_lt (p : Nat → Prop) : ∀ c, c ≤ 32 → fm_k p c < 2 ^ 32 := by
  intro c
  induction c with
  | zero => intro _; show 0 < 2 ^ 32; decide
  | succ c ih =>
    intro hc
    have := ih (by omega)
    by_cases h : p c
    · rw [fm_k_t h]; exact Nat.or_lt_two_pow this (fe_2p32 (by omega))
    · rw [fm_k_f h]; exact this
theorem fm_k_eq (p q : Nat → Prop) : fm_k p 32 = fm_k q 32 ↔ ∀ i, i < 32 → (p i ↔ q i) := by
  constructor
  · intro h i hi
    have a := fm_k_bit p 32 i
    have b := fm_k_bit q 32 i
    rw [h] at a
    constructor
    · intro g; exact (b.mp (a.mpr ⟨hi, g⟩)).2
    · intro g; exact (a.mp (b.mpr ⟨hi, g⟩)).2
  · intro h
    apply fe_ext32 (fm_k_lt p 32 (Nat.le_refl _)) (fm_k_lt q 32 (Nat.le_refl _))
    intro t ht
    rw [fm_k_bit, fm_k_bit]
    exact ⟨fun g => ⟨g.1, (h t ht).mp g.2⟩, fun g => ⟨g.1, (h t ht).mpr g.2⟩⟩
/-- the sets of K that meet S -/
def fm_p (K S T : Nat) : Prop := K.testBit T = true ∧ fb_m T S
noncomputable def fm_M (K S : Nat) : Nat := fm_k (fm_p K S) 32
theorem fm_M_lt (K S : Nat) : fm_M K S < 2 ^ 32 := fm_k_lt _ 32 (Nat.le_refl _)
/-- the sets of K that a letter leads (backwards) into the group G -/
def fm_q (d' : Nat → Nat → Nat) (K G l T : Nat) : Prop := K.testBit T = true ∧ G.testBit (d' T l) = true
section
variable {a a' b e : Nat → Nat} {m K : Nat}
theorem fm_M_I (ha : ff_ok a) (ha' : ff_ok a') (cv : ff_cv a a') (hm : m < 2) (he : e m < 32) (hK : ∀ s, K.testBit s = true ↔ fa_R (ff_st a' m) (e m) s) {S S' : Nat} (hS : S < 32) (hS' : S' < 32) :
    fm_M K S = fm_M K S' ↔ fa_I (ff_st a m) (ff_g e m) S S' := by
  have ner := fe_ner (e := e m) (ff_B ha hm (show 0 < 2 by omega)) (ff_B ha hm (show 1 < 2 by omega)) (cv m 0 hm (by omega)) (cv m 1 hm (by omega)) hS hS'
  have tgt : fa_I (ff_st a m) (ff_g e m) S S' ↔ fa_I (fb_st (ff_r a m 0) (ff_r a m 1)) (fun S => fb_m S (e m)) S S' := Iff.rfl
  rw [tgt, ← ner]
  unfold fm_M
  rw [fm_k_eq]
  constructor
  · intro h T hT
    have hK' := (hK T).mpr hT
    have := h T (fa_R_lt (ff_st_c ha' hm) he hT)
    exact ⟨fun g => (this.mp ⟨hK', g⟩).2, fun g => (this.mpr ⟨hK', g⟩).2⟩
  · intro h T hT
    constructor
    · rintro ⟨g1, g2⟩; exact ⟨g1, (h T ((hK T).mp g1)).mp g2⟩
    · rintro ⟨g1, g2⟩; exact ⟨g1, (h T ((hK T).mp g1)).mpr g2⟩
theorem fm_q_M (ha : ff_ok a) (ha' : ff_ok a') (cv : ff_cv a a') (hm : m < 2) (hK : ∀ s, K.testBit s = true ↔ fa_R (ff_st a' m) (e m) s) {S l : Nat} (hS : S < 32) (hl : l < 2) :
    fm_k (fm_q (ff_st a' m) K (fm_M K S) l) 32 = fm_M K (ff_st a m S l) := by
  unfold fm_M
  rw [fm_k_eq]
  intro T hT
  have adj := fe_adj (l := l) (T := T) (ff_B ha hm (show 0 < 2 by omega)) (ff_B ha hm (show 1 < 2 by omega)) (cv m 0 hm (by omega)) (cv m 1 hm (by omega)) hS
  have hl' : l = 0 ∨ l = 1 := by omega
  have cl : K.testBit T = true → K.testBit (ff_st a' m T l) = true := by
    intro h
    rw [hK] at h ⊢
    rcases hl' with rfl | rfl
    · exact fa_R_0 h
    · exact fa_R_1 h
  constructor
  · rintro ⟨g1, g2⟩
    have := ((fm_k_bit _ 32 _).mp g2).2.2
    exact ⟨g1, adj.mpr this⟩
  · rintro ⟨g1, g2⟩
    exact ⟨g1, (fm_k_bit _ 32 _).mpr ⟨ff_st_lt ha' hm _ _, cl g1, adj.mp g2⟩⟩
end
/-- the list of groups: no doubles, each the group of a reached set, the first one's among them -/
def fm_G (R : Nat → Prop) (M : Nat → Nat) (n : Nat) (G : Nat → Int32) : Prop :=
  (∀ i j, i < n → j < n → G i = G j → i = j) ∧ (∀ i, i < n → ∃ s, s < 32 ∧ R s ∧ G i = nI (M s))
theorem fm_G_32 {R : Nat → Prop} {M : Nat → Nat} {n : Nat} {G : Nat → Int32} (h : fm_G R M n G) : n ≤ 32 :=
  fe_short (M := fun s => nI (M s)) h.1 (fun i hi => by
    obtain ⟨s, hs, _, e⟩ := h.2 i hi
    exact ⟨s, hs, e⟩)
theorem fm_G_new {R : Nat → Prop} {M : Nat → Nat} {n s : Nat} {G : Nat → Int32} (h : fm_G R M n G) (hs : s < 32) (hr : R s) (hn : ∀ i, i < n → G i ≠ nI (M s)) : fm_G R M (n + 1) (upd G n (nI (M s))) := by
  refine ⟨fun i j hi hj e => ?_, fun i hi => ?_⟩
  · by_cases q : i = n
    · subst q
      by_cases q' : j = i
      · exact q'.symm
      · rw [pk_us, pk_un q'] at e
        exact absurd e.symm (hn j (by omega))
    · by_cases q' : j = n
      · subst q'
        rw [pk_us, pk_un q] at e
        exact absurd e (hn i (by omega))
      · rw [pk_un q, pk_un q'] at e
        exact h.1 i j (by omega) (by omega) e
  · by_cases q : i = n
    · subst q
      exact ⟨s, hs, hr, pk_us⟩
    · obtain ⟨s', h1, h2, h3⟩ := h.2 i (by omega)
      exact ⟨s', h1, h2, by rw [pk_un q]; exact h3⟩
theorem fm_G_end {R : Nat → Prop} {M : Nat → Nat} {n : Nat} {G : Nat → Int32} (hM : ∀ s, M s < 2 ^ 32) (h : fm_G R M n G) (hall : ∀ s, s < 32 → R s → ∃ i, i < n ∧ G i = nI (M s)) :
    n = fa_ct (fe_nb R (fun s t => M s = M t)) 32 := by
  have := fe_list (M := fun s => nI (M s)) h.1 h.2 hall
  rw [this]
  apply fe_nb_congr (fun _ _ => Iff.rfl)
  intro s t _ _ _ _
  exact fm_inj (hM s) (hM t)
/-- worked off up to i: both letters' groups are on the list -/
def fm_W (d : Nat → Nat → Nat) (M : Nat → Nat) (n i : Nat) (G : Nat → Int32) : Prop :=
  ∀ j s, j < i → s < 32 → G j = nI (M s) → (∃ k, k < n ∧ G k = nI (M (d s 0))) ∧ (∃ k, k < n ∧ G k = nI (M (d s 1)))
