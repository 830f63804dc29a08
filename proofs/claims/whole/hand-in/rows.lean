section
/-! counting below a bound, chains that stand still, deterministic machines -/
noncomputable def fa_fl (p : Nat → Prop) : Nat → List Nat
  | 0 => []
  | n + 1 => @ite (List Nat) (p n) (Classical.propDecidable (p n)) (n :: fa_fl p n) (fa_fl p n)
noncomputable def fa_ct (p : Nat → Prop) (n : Nat) : Nat := (fa_fl p n).length
theorem fa_fl_t {p : Nat → Prop} {n : Nat} (h : p n) : fa_fl p (n + 1) = n :: fa_fl p n := by
  show @ite (List Nat) (p n) (Classical.propDecidable (p n)) _ _ = _
  exact if_pos h
theorem fa_fl_f {p : Nat → Prop} {n : Nat} (h : ¬ p n) : fa_fl p (n + 1) = fa_fl p n := by
  show @ite (List Nat) (p n) (Classical.propDecidable (p n)) _ _ = _
  exact if_neg h
theorem fa_fl_mem {p : Nat → Prop} : ∀ (n i : Nat), i ∈ fa_fl p n ↔ i < n ∧ p i := by
  intro n
  induction n with
  | zero => intro i; simp [fa_fl]
  | succ n ih =>
    intro i
    by_cases h : p n
    · rw [fa_fl_t h, List.mem_cons, ih]
      constructor
      · intro hi
        rcases hi with hi | hi
        · subst hi; exact ⟨Nat.lt_succ_self _, h⟩
        · exact ⟨Nat.lt_succ_of_lt hi.1, hi.2⟩
      · intro hi
        by_cases e : i = n
        · exact Or.inl e
        · exact Or.inr ⟨by omega, hi.2⟩
    · rw [fa_fl_f h, ih]
      constructor
      · intro hi; exact ⟨Nat.lt_succ_of_lt hi.1, hi.2⟩
      · intro hi
        have e : i ≠ n := fun e => h (e ▸ hi.2)
        exact ⟨by omega, hi.2⟩
theorem fa_fl_nd {p : Nat → Prop} : ∀ n : Nat, (fa_fl p n).Nodup := by
  intro n
  induction n with
  | zero => exact List.Pairwise.nil
  | succ n ih =>
    by_cases h : p n
    · rw [fa_fl_t h, List.nodup_cons]
      exact ⟨fun hm => Nat.lt_irrefl _ ((fa_fl_mem n n).mp hm).1, ih⟩
    · rw [fa_fl_f h]; exact ih
theorem fa_nd_map {α β : Type} (g : α → β) : ∀ l : List α, (∀ x, x ∈ l → ∀ y, y ∈ l → g x = g y → x = y) → l.Nodup → (l.map g).Nodup := by
  intro l
  induction l with
  | nil => intro _ _; exact List.Pairwise.nil
  | cons a l ih =>
    intro hi hn
    rw [List.nodup_cons] at hn
    rw [List.map_cons, List.nodup_cons]
    refine ⟨fun hm => ?_, ih (fun x hx y hy => hi x (List.mem_cons_of_mem _ hx) y (List.mem_cons_of_mem _ hy)) hn.2⟩
    obtain ⟨y, hy, e⟩ := List.mem_map.mp hm
    have := hi y (List.mem_cons_of_mem _ hy) a List.mem_cons_self e
    exact hn.1 (this ▸ hy)
theorem fa_ct_t {p : Nat → Prop} {n : Nat} (h : p n) : fa_ct p (n + 1) = fa_ct p n + 1 := by
  unfold fa_ct; rw [fa_fl_t h]; rfl
theorem fa_ct_f {p : Nat → Prop} {n : Nat} (h : ¬ p n) : fa_ct p (n + 1) = fa_ct p n := by
  unfold fa_ct; rw [fa_fl_f h]
theorem fa_ct_0 {p : Nat → Prop} : fa_ct p 0 = 0 := rfl
theorem fa_ct_bd {p : Nat → Prop} : ∀ n : Nat, fa_ct p n ≤ n := by
  intro n
  induction n with
  | zero => exact Nat.le_refl _
  | succ n ih =>
    by_cases h : p n
    · rw [fa_ct_t h]; omega
    · rw [fa_ct_f h]; omega
theorem fa_ct_le {p q : Nat → Prop} : ∀ n : Nat, (∀ i, i < n → p i → q i) → fa_ct p n ≤ fa_ct q n := by
  intro n
  induction n with
  | zero => intro _; exact Nat.le_refl _
  | succ n ih =>
    intro h
    have ih' := ih (fun i hi => h i (by omega))
    by_cases hp : p n
    · rw [fa_ct_t hp, fa_ct_t (h n (by omega) hp)]; omega
    · rw [fa_ct_f hp]
      by_cases hq : q n
      · rw [fa_ct_t hq]; omega
      · rw [fa_ct_f hq]; omega
theorem fa_ct_lt {p q : Nat → Prop} : ∀ n : Nat, (∀ i, i < n → p i → q i) → ∀ j, j < n → q j → ¬ p j → fa_ct p n < fa_ct q n := by
  intro n
  induction n with
  | zero => intro _ j hj; omega
  | succ n ih =>
    intro h j hj hq hp
    have le' := fa_ct_le (p := p) (q := q) n (fun i hi => h i (by omega))
    by_cases e : j = n
    · subst e
      rw [fa_ct_t hq, fa_ct_f hp]; omega
    · have ih' := ih (fun i hi => h i (by omega)) j (by omega) hq hp
      by_cases hp' : p n
      · rw [fa_ct_t hp', fa_ct_t (h n (by omega) hp')]; omega
      · rw [fa_ct_f hp']
        by_cases hq' : q n
        · rw [fa_ct_t hq']; omega
        · rw [fa_ct_f hq']; omega
theorem fa_ct_eq {p q : Nat → Prop} {n : Nat} (h : ∀ i, i < n → p i → q i) (e : fa_ct p n = fa_ct q n) : ∀ i, i < n → q i → p i := by
  intro i hi hq
  apply Classical.byContradiction
  intro hp
  have := fa_ct_lt n h i hi hq hp
  omega
theorem fa_ct_congr {p q : Nat → Prop} {n : Nat} (h : ∀ i, i < n → (p i ↔ q i)) : fa_ct p n = fa_ct q n :=
  Nat.le_antisymm (fa_ct_le n (fun i hi => (h i hi).mp)) (fa_ct_le n (fun i hi => (h i hi).mpr))
theorem fa_ct_pos {p : Nat → Prop} {n i : Nat} (hi : i < n) (h : p i) : 1 ≤ fa_ct p n := by
  have hm : i ∈ fa_fl p n := (fa_fl_mem n i).mpr ⟨hi, h⟩
  unfold fa_ct
  exact List.length_pos_of_mem hm
/-- a chain of growing sets below N, each given by the one ahead of it, stands still -/
theorem fa_chain {N c : Nat} (p : Nat → Nat → Prop) (mono : ∀ k i, i < N → p k i → p (k + 1) i)
    (st : ∀ k, (∀ i, i < N → p (k + 1) i → p k i) → (∀ i, i < N → p (k + 2) i → p (k + 1) i))
    (h0 : c ≤ fa_ct (p 0) N) : ∀ k, N ≤ c + k → ∀ i, i < N → p (k + 1) i → p k i := by
  have key : ∀ k, (∀ i, i < N → p (k + 1) i → p k i) ∨ c + k + 1 ≤ fa_ct (p (k + 1)) N := by
    intro k
    induction k with
    | zero =>
      by_cases h : ∀ i, i < N → p (0 + 1) i → p 0 i
      · exact Or.inl h
      · right
        have : ∃ i, i < N ∧ p (0 + 1) i ∧ ¬ p 0 i := by
          apply Classical.byContradiction
          intro hn
          exact h (fun i hi h1 => Classical.byContradiction fun h2 => hn ⟨i, hi, h1, h2⟩)
        obtain ⟨i, hi, h1, h2⟩ := this
        have := fa_ct_lt N (mono 0) i hi h1 h2
        omega
    | succ k ih =>
      rcases ih with ih | ih
      · exact Or.inl (st k ih)
      · by_cases h : ∀ i, i < N → p (k + 1 + 1) i → p (k + 1) i
        · exact Or.inl h
        · right
          have : ∃ i, i < N ∧ p (k + 1 + 1) i ∧ ¬ p (k + 1) i := by
            apply Classical.byContradiction
            intro hn
            exact h (fun i hi h1 => Classical.byContradiction fun h2 => hn ⟨i, hi, h1, h2⟩)
          obtain ⟨i, hi, h1, h2⟩ := this
          have := fa_ct_lt N (mono (k + 1)) i hi h1 h2
          omega
  intro k hk i hi h
  rcases key k with h1 | h1
  · exact h1 i hi h
  · have := fa_ct_bd (p := p (k + 1)) N
    omega
theorem fa_chain_far {N c : Nat} (p : Nat → Nat → Prop) (mono : ∀ k i, i < N → p k i → p (k + 1) i)
    (st : ∀ k, (∀ i, i < N → p (k + 1) i → p k i) → (∀ i, i < N → p (k + 2) i → p (k + 1) i))
    (h0 : c ≤ fa_ct (p 0) N) (k : Nat) (hk : N ≤ c + k) : ∀ j i, i < N → p (k + j) i → p k i := by
  intro j
  induction j with
  | zero => intro i _ h; exact h
  | succ j ih =>
    intro i hi h
    exact ih i hi (fa_chain p mono st h0 (k + j) (by omega) i hi h)
theorem fa_mono_far {N : Nat} (p : Nat → Nat → Prop) (mono : ∀ k i, i < N → p k i → p (k + 1) i) :
    ∀ j k i, i < N → p k i → p (k + j) i := by
  intro j
  induction j with
  | zero => intro k i _ h; exact h
  | succ j ih => intro k i hi h; exact mono (k + j) i hi (ih k i hi h)
theorem fa_least {P : Nat → Prop} {n : Nat} (h : P n) : ∃ k, k ≤ n ∧ P k ∧ ∀ j, j < k → ¬ P j := by
  induction n using Nat.strongRecOn with
  | _ n ih =>
    by_cases hx : ∃ j, j < n ∧ P j
    · obtain ⟨j, hj, hp⟩ := hx
      obtain ⟨k, hk, hr⟩ := ih j hj hp
      exact ⟨k, by omega, hr⟩
    · exact ⟨n, Nat.le_refl _, h, fun j hj hp => hx ⟨j, hj, hp⟩⟩
/-- like k: no word of at most k letters tells the two apart -/
def fa_E (d : Nat → Nat → Nat) (f : Nat → Prop) : Nat → Nat → Nat → Prop
  | 0, x, y => (f x ↔ f y)
  | k + 1, x, y => fa_E d f k x y ∧ fa_E d f k (d x 0) (d y 0) ∧ fa_E d f k (d x 1) (d y 1)
def fa_I (d : Nat → Nat → Nat) (f : Nat → Prop) (x y : Nat) : Prop := ∀ k, fa_E d f k x y
section
variable {d : Nat → Nat → Nat} {f : Nat → Prop}
theorem fa_E_rf : ∀ k x, fa_E d f k x x := by
  intro k
  induction k with
  | zero => intro x; exact Iff.rfl
  | succ k ih => intro x; exact ⟨ih _, ih _, ih _⟩
theorem fa_E_sm : ∀ k x y, fa_E d f k x y → fa_E d f k y x := by
  intro k
  induction k with
  | zero => intro x y h; exact Iff.symm h
  | succ k ih => intro x y h; exact ⟨ih _ _ h.1, ih _ _ h.2.1, ih _ _ h.2.2⟩
theorem fa_E_tr : ∀ k x y z, fa_E d f k x y → fa_E d f k y z → fa_E d f k x z := by
  intro k
  induction k with
  | zero => intro x y z h g; exact Iff.trans h g
  | succ k ih => intro x y z h g; exact ⟨ih _ _ _ h.1 g.1, ih _ _ _ h.2.1 g.2.1, ih _ _ _ h.2.2 g.2.2⟩
theorem fa_E_dn : ∀ j k x y, fa_E d f (k + j) x y → fa_E d f k x y := by
  intro j
  induction j with
  | zero => intro k x y h; exact h
  | succ j ih => intro k x y h; exact ih k x y h.1
theorem fa_I_rf (x : Nat) : fa_I d f x x := fun k => fa_E_rf k x
theorem fa_I_sm {x y : Nat} (h : fa_I d f x y) : fa_I d f y x := fun k => fa_E_sm k _ _ (h k)
theorem fa_I_tr {x y z : Nat} (h : fa_I d f x y) (g : fa_I d f y z) : fa_I d f x z := fun k => fa_E_tr k _ _ _ (h k) (g k)
theorem fa_I_s0 {x y : Nat} (h : fa_I d f x y) : fa_I d f (d x 0) (d y 0) := fun k => (h (k + 1)).2.1
theorem fa_I_s1 {x y : Nat} (h : fa_I d f x y) : fa_I d f (d x 1) (d y 1) := fun k => (h (k + 1)).2.2
theorem fa_I_f {x y : Nat} (h : fa_I d f x y) : f x ↔ f y := h 0
/-- a relation that agrees on f and is kept by both letters lies in fa_I -/
theorem fa_I_of (Q : Nat → Nat → Prop) (hf : ∀ x y, Q x y → (f x ↔ f y)) (h0 : ∀ x y, Q x y → Q (d x 0) (d y 0)) (h1 : ∀ x y, Q x y → Q (d x 1) (d y 1)) :
    ∀ x y, Q x y → fa_I d f x y := by
  intro x y h k
  induction k generalizing x y with
  | zero => exact hf x y h
  | succ k ih => exact ⟨ih x y h, ih _ _ (h0 x y h), ih _ _ (h1 x y h)⟩
/-- the first of its kind -/
def fa_rep (d : Nat → Nat → Nat) (f : Nat → Prop) (k n : Nat) : Prop := ∀ i, i < n → ¬ fa_E d f k i n
theorem fa_rep_up {k n : Nat} (h : fa_rep d f k n) : fa_rep d f (k + 1) n := fun i hi e => h i hi e.1
theorem fa_rep_ex (k x : Nat) : ∃ y, y ≤ x ∧ fa_E d f k y x ∧ fa_rep d f k y := by
  obtain ⟨y, hy, he, hl⟩ := fa_least (P := fun y => fa_E d f k y x) (n := x) (fa_E_rf k x)
  exact ⟨y, hy, he, fun i hi e => hl i hi (fa_E_tr k _ _ _ e he)⟩
theorem fa_rep_un {k x y : Nat} (hx : fa_rep d f k x) (hy : fa_rep d f k y) (e : fa_E d f k x y) : x = y := by
  rcases Nat.lt_trichotomy x y with h | h | h
  · exact absurd e (hy x h)
  · exact h
  · exact absurd (fa_E_sm k _ _ e) (hx y h)
theorem fa_rep_E {N k : Nat} (h : ∀ i, i < N → fa_rep d f (k + 1) i → fa_rep d f k i) : ∀ x y, x < N → y < N → fa_E d f k x y → fa_E d f (k + 1) x y := by
  intro x y hx hy e
  obtain ⟨x', lx, ex, rx⟩ := fa_rep_ex (d := d) (f := f) (k + 1) x
  obtain ⟨y', ly, ey, ry⟩ := fa_rep_ex (d := d) (f := f) (k + 1) y
  have e1 : fa_E d f k x' y' := fa_E_tr k _ _ _ ex.1 (fa_E_tr k _ _ _ e (fa_E_sm k _ _ ey.1))
  have := fa_rep_un (h x' (by omega) rx) (h y' (by omega) ry) e1
  subst this
  exact fa_E_tr _ _ _ _ (fa_E_sm _ _ _ ex) ey
theorem fa_E_st {N k : Nat} (hc : ∀ x, x < N → d x 0 < N ∧ d x 1 < N) (h : ∀ x y, x < N → y < N → fa_E d f k x y → fa_E d f (k + 1) x y) :
    ∀ x y, x < N → y < N → fa_E d f (k + 1) x y → fa_E d f (k + 2) x y := by
  intro x y hx hy e
  exact ⟨e, h _ _ (hc x hx).1 (hc y hy).1 e.2.1, h _ _ (hc x hx).2 (hc y hy).2 e.2.2⟩
theorem fa_E_st2 {N k : Nat} (hc : ∀ x, x < N → d x 0 < N ∧ d x 1 < N) (h : ∀ x y, x < N → y < N → fa_E d f k x y → fa_E d f (k + 1) x y) :
    ∀ j x y, x < N → y < N → fa_E d f (k + j) x y → fa_E d f (k + j + 1) x y := by
  intro j
  induction j with
  | zero => exact h
  | succ j ih => exact fa_E_st hc ih
theorem fa_E_I {N k : Nat} (hc : ∀ x, x < N → d x 0 < N ∧ d x 1 < N) (h : ∀ x y, x < N → y < N → fa_E d f k x y → fa_E d f (k + 1) x y) :
    ∀ x y, x < N → y < N → fa_E d f k x y → fa_I d f x y := by
  intro x y hx hy e j
  by_cases hj : j ≤ k
  · obtain ⟨t, rfl⟩ := Nat.exists_eq_add_of_le hj
    exact fa_E_dn t j x y e
  · obtain ⟨t, rfl⟩ := Nat.exists_eq_add_of_le (Nat.le_of_lt (Nat.lt_of_not_le hj))
    clear hj
    induction t with
    | zero => exact e
    | succ t ih => exact fa_E_st2 hc h t x y hx hy ih
/-- counts of kinds alike: nothing more is told apart -/
theorem fa_E_ct {N k : Nat} (hc : ∀ x, x < N → d x 0 < N ∧ d x 1 < N) (h : fa_ct (fa_rep d f k) N = fa_ct (fa_rep d f (k + 1)) N) :
    ∀ x y, x < N → y < N → fa_E d f k x y → fa_I d f x y :=
  fa_E_I hc (fa_rep_E (fa_ct_eq (fun _ _ => fa_rep_up) h))
theorem fa_E_big {N : Nat} (hN : 0 < N) (hc : ∀ x, x < N → d x 0 < N ∧ d x 1 < N) (k : Nat) (hk : N ≤ k + 1) :
    ∀ x y, x < N → y < N → fa_E d f k x y → fa_I d f x y := by
  refine fa_E_I hc (fa_rep_E (fa_chain (N := N) (c := 1) (fa_rep d f) (fun k i _ => fa_rep_up) ?_ ?_ k (by omega)))
  · intro k h i hi hr i' hi' e
    exact hr i' hi' (fa_E_st hc (fa_rep_E h) i' i (by omega) hi e)
  · exact fa_ct_pos hN (fun i hi => absurd hi (Nat.not_lt_zero _))
end
/-- reached by at most k letters -/
def fa_rk (d : Nat → Nat → Nat) (b : Nat) : Nat → Nat → Prop
  | 0, s => s = b
  | k + 1, s => fa_rk d b k s ∨ ∃ t, fa_rk d b k t ∧ (s = d t 0 ∨ s = d t 1)
def fa_R (d : Nat → Nat → Nat) (b s : Nat) : Prop := ∃ k, fa_rk d b k s
section
variable {d : Nat → Nat → Nat} {b N : Nat}
theorem fa_rk_lt (hc : ∀ x, x < N → d x 0 < N ∧ d x 1 < N) (hb : b < N) : ∀ k s, fa_rk d b k s → s < N := by
  intro k
  induction k with
  | zero => intro s h; exact h ▸ hb
  | succ k ih =>
    intro s h
    rcases h with h | ⟨t, ht, h | h⟩
    · exact ih s h
    · exact h ▸ (hc t (ih t ht)).1
    · exact h ▸ (hc t (ih t ht)).2
theorem fa_R_lt (hc : ∀ x, x < N → d x 0 < N ∧ d x 1 < N) (hb : b < N) {s : Nat} (h : fa_R d b s) : s < N := by
  obtain ⟨k, h⟩ := h
  exact fa_rk_lt hc hb k s h
theorem fa_R_b : fa_R d b b := ⟨0, rfl⟩
theorem fa_R_0 {s : Nat} (h : fa_R d b s) : fa_R d b (d s 0) := by
  obtain ⟨k, h⟩ := h
  exact ⟨k + 1, Or.inr ⟨s, h, Or.inl rfl⟩⟩
theorem fa_R_1 {s : Nat} (h : fa_R d b s) : fa_R d b (d s 1) := by
  obtain ⟨k, h⟩ := h
  exact ⟨k + 1, Or.inr ⟨s, h, Or.inr rfl⟩⟩
theorem fa_R_of (Q : Nat → Prop) (hb : Q b) (h0 : ∀ s, Q s → Q (d s 0)) (h1 : ∀ s, Q s → Q (d s 1)) : ∀ s, fa_R d b s → Q s := by
  intro s ⟨k, h⟩
  induction k generalizing s with
  | zero => exact h ▸ hb
  | succ k ih =>
    rcases h with h | ⟨t, ht, h | h⟩
    · exact ih s h
    · exact h ▸ h0 t (ih t ht)
    · exact h ▸ h1 t (ih t ht)
theorem fa_R_big (hc : ∀ x, x < N → d x 0 < N ∧ d x 1 < N) (hb : b < N) (k : Nat) (hk : N ≤ k + 1) {s : Nat} (h : fa_R d b s) : fa_rk d b k s := by
  have hs := fa_R_lt hc hb h
  obtain ⟨j, h⟩ := h
  have h2 : fa_rk d b (k + j) s := by
    have := fa_mono_far (N := N) (fa_rk d b) (fun _ _ _ h => Or.inl h) k j s hs h
    rw [Nat.add_comm] at this
    exact this
  refine fa_chain_far (N := N) (c := 1) (fa_rk d b) (fun _ _ _ h => Or.inl h) ?_ ?_ k (by omega) j s hs h2
  · intro k h i hi hr
    rcases hr with hr | ⟨t, ht, e⟩
    · exact hr
    · exact Or.inr ⟨t, h t (fa_rk_lt hc hb _ t ht) ht, e⟩
  · exact fa_ct_pos hb rfl
end
end
section
/-! sets of states as numbers below 32; one step from a set; closures; adjoints -/
theorem fb_ol {a b i : Nat} (h : a.testBit i = true) : (a ||| b).testBit i = true := by simp [h]
theorem fb_orr {a b i : Nat} (h : b.testBit i = true) : (a ||| b).testBit i = true := by simp [h]
def fb_uo (r : Nat → Nat) (S : Nat) : Nat → Nat
  | 0 => 0
  | s + 1 => if S.testBit s = true then fb_uo r S s ||| r s else fb_uo r S s
def fb_u (r : Nat → Nat) (S : Nat) : Nat := fb_uo r S 5
def fb_B (r : Nat → Nat) : Prop := ∀ s, s < 5 → r s < 32
theorem fb_uo_bit (r : Nat → Nat) (S t : Nat) : ∀ n, (fb_uo r S n).testBit t = true ↔ ∃ s, s < n ∧ S.testBit s = true ∧ (r s).testBit t = true := by
  intro n
  induction n with
  | zero => simp [fb_uo]
  | succ n ih =>
    by_cases h : S.testBit n = true
    · rw [fb_uo, if_pos h, Nat.testBit_or, Bool.or_eq_true, ih]
      constructor
      · rintro (⟨s, a, b, c⟩ | c)
        · exact ⟨s, by omega, b, c⟩
        · exact ⟨n, by omega, h, c⟩
      · rintro ⟨s, a, b, c⟩
        by_cases e : s = n
        · subst e; exact Or.inr c
        · exact Or.inl ⟨s, by omega, b, c⟩
    · rw [fb_uo, if_neg h, ih]
      constructor
      · rintro ⟨s, a, b, c⟩; exact ⟨s, by omega, b, c⟩
      · rintro ⟨s, a, b, c⟩
        have e : s ≠ n := fun e => h (e ▸ b)
        exact ⟨s, by omega, b, c⟩
theorem fb_u_bit (r : Nat → Nat) (S t : Nat) : (fb_u r S).testBit t = true ↔ ∃ s, s < 5 ∧ S.testBit s = true ∧ (r s).testBit t = true := fb_uo_bit r S t 5
theorem fb_uo_lt {r : Nat → Nat} (h : fb_B r) (S : Nat) : ∀ n, n ≤ 5 → fb_uo r S n < 32 := by
  intro n
  induction n with
  | zero => intro _; simp [fb_uo]
  | succ n ih =>
    intro hn
    have i := ih (by omega)
    rw [fb_uo]
    split
    · exact Nat.or_lt_two_pow (n := 5) i (h n (by omega))
    · exact i
theorem fb_u_lt {r : Nat → Nat} (h : fb_B r) (S : Nat) : fb_u r S < 32 := fb_uo_lt h S 5 (Nat.le_refl _)
theorem fb_lt_bit {S t : Nat} (h : S < 32) (ht : S.testBit t = true) : t < 5 := by
  apply Classical.byContradiction
  intro hn
  have h1 : S < 2 ^ t := Nat.lt_of_lt_of_le h (Nat.pow_le_pow_right (n := 2) (by omega) (show 5 ≤ t by omega))
  rw [Nat.testBit_lt_two_pow h1] at ht
  exact Bool.noConfusion ht
theorem fb_ext {S T : Nat} (hS : S < 32) (hT : T < 32) (h : ∀ t, t < 5 → (S.testBit t = true ↔ T.testBit t = true)) : S = T := by
  apply Nat.eq_of_testBit_eq
  intro i
  by_cases hi : i < 5
  · have := h i hi
    cases hs : S.testBit i <;> cases ht : T.testBit i <;> simp_all
  · have a : S.testBit i = false := by
      cases hs : S.testBit i with
      | false => rfl
      | true => exact absurd (fb_lt_bit hS hs) hi
    have b : T.testBit i = false := by
      cases hs : T.testBit i with
      | false => rfl
      | true => exact absurd (fb_lt_bit hT hs) hi
    rw [a, b]
def fb_m (S T : Nat) : Prop := S &&& T ≠ 0
theorem fb_m_iff {S T : Nat} (hS : S < 32) : fb_m S T ↔ ∃ s, s < 5 ∧ S.testBit s = true ∧ T.testBit s = true := by
  constructor
  · intro h
    obtain ⟨i, hi⟩ := Nat.exists_testBit_of_ne_zero h
    rw [Nat.testBit_and, Bool.and_eq_true] at hi
    exact ⟨i, fb_lt_bit hS hi.1, hi.1, hi.2⟩
  · rintro ⟨s, _, a, b⟩ h
    have := congrArg (fun z => z.testBit s) h
    simp [a, b] at this
theorem fb_m_cm (S T : Nat) : fb_m S T ↔ fb_m T S := by
  unfold fb_m; rw [Nat.and_comm]
/-- r' goes the other way -/
def fb_cv (r r' : Nat → Nat) : Prop := ∀ s t, s < 5 → t < 5 → ((r s).testBit t = true ↔ (r' t).testBit s = true)
theorem fb_adj {r r' : Nat → Nat} (h : fb_B r) (c : fb_cv r r') {S T : Nat} (hS : S < 32) : fb_m (fb_u r S) T ↔ fb_m S (fb_u r' T) := by
  rw [fb_m_iff (fb_u_lt h S), fb_m_iff hS]
  constructor
  · rintro ⟨t, ht, a, b⟩
    obtain ⟨s, hs, a1, a2⟩ := (fb_u_bit r S t).mp a
    exact ⟨s, hs, a1, (fb_u_bit r' T s).mpr ⟨t, ht, b, (c s t hs ht).mp a2⟩⟩
  · rintro ⟨s, hs, a, b⟩
    obtain ⟨t, ht, b1, b2⟩ := (fb_u_bit r' T s).mp b
    exact ⟨t, ht, (fb_u_bit r S t).mpr ⟨s, hs, a, (c s t hs ht).mpr b2⟩, b1⟩
theorem fb_2p {s t : Nat} : (2 ^ s).testBit t = true ↔ s = t := by
  rw [Nat.testBit_two_pow]; simp
theorem fb_2lt {s : Nat} (h : s < 5) : 2 ^ s < 32 := by
  have : 2 ^ s < 2 ^ 5 := Nat.pow_lt_pow_right (by omega) h
  omega
theorem fb_u_one {r : Nat → Nat} (h : fb_B r) {s : Nat} (hs : s < 5) : fb_u r (2 ^ s) = r s := by
  apply fb_ext (fb_u_lt h _) (h s hs)
  intro t _
  rw [fb_u_bit]
  constructor
  · rintro ⟨s', _, a, b⟩
    rw [fb_2p] at a; subst a; exact b
  · intro b; exact ⟨s, hs, fb_2p.mpr rfl, b⟩
theorem fb_u_0 (r : Nat → Nat) : fb_u r 0 = 0 := by
  apply Nat.eq_of_testBit_eq
  intro i
  rw [Nat.zero_testBit]
  cases h : (fb_u r 0).testBit i with
  | false => rfl
  | true =>
    obtain ⟨s, _, a, _⟩ := (fb_u_bit r 0 i).mp h
    rw [Nat.zero_testBit] at a
    exact Bool.noConfusion a
theorem fb_u_or {r : Nat → Nat} (h : fb_B r) (S T : Nat) : fb_u r (S ||| T) = fb_u r S ||| fb_u r T := by
  apply fb_ext (fb_u_lt h _) (Nat.or_lt_two_pow (n := 5) (fb_u_lt h _) (fb_u_lt h _))
  intro t _
  rw [Nat.testBit_or, Bool.or_eq_true, fb_u_bit, fb_u_bit, fb_u_bit]
  constructor
  · rintro ⟨s, hs, a, b⟩
    rw [Nat.testBit_or, Bool.or_eq_true] at a
    rcases a with a | a
    · exact Or.inl ⟨s, hs, a, b⟩
    · exact Or.inr ⟨s, hs, a, b⟩
  · rintro (⟨s, hs, a, b⟩ | ⟨s, hs, a, b⟩)
    · exact ⟨s, hs, fb_ol a, b⟩
    · exact ⟨s, hs, fb_orr a, b⟩
/-- both letters at once -/
def fb_j (r0 r1 : Nat → Nat) (s : Nat) : Nat := r0 s ||| r1 s
theorem fb_j_B {r0 r1 : Nat → Nat} (h0 : fb_B r0) (h1 : fb_B r1) : fb_B (fb_j r0 r1) :=
  fun s hs => Nat.or_lt_two_pow (n := 5) (h0 s hs) (h1 s hs)
theorem fb_u_j {r0 r1 : Nat → Nat} (h0 : fb_B r0) (h1 : fb_B r1) (S : Nat) : fb_u (fb_j r0 r1) S = fb_u r0 S ||| fb_u r1 S := by
  apply fb_ext (fb_u_lt (fb_j_B h0 h1) _) (Nat.or_lt_two_pow (n := 5) (fb_u_lt h0 _) (fb_u_lt h1 _))
  intro t _
  rw [Nat.testBit_or, Bool.or_eq_true, fb_u_bit, fb_u_bit, fb_u_bit]
  constructor
  · rintro ⟨s, hs, a, b⟩
    unfold fb_j at b
    rw [Nat.testBit_or, Bool.or_eq_true] at b
    rcases b with b | b
    · exact Or.inl ⟨s, hs, a, b⟩
    · exact Or.inr ⟨s, hs, a, b⟩
  · rintro (⟨s, hs, a, b⟩ | ⟨s, hs, a, b⟩)
    · exact ⟨s, hs, a, fb_ol b⟩
    · exact ⟨s, hs, a, fb_orr b⟩
theorem fb_cv_j {r0 r1 q0 q1 : Nat → Nat} (c0 : fb_cv r0 q0) (c1 : fb_cv r1 q1) : fb_cv (fb_j r0 r1) (fb_j q0 q1) := by
  intro s t hs ht
  unfold fb_j
  rw [Nat.testBit_or, Nat.testBit_or, Bool.or_eq_true, Bool.or_eq_true, c0 s t hs ht, c1 s t hs ht]
/-- k rounds of a closure -/
def fb_cl (r : Nat → Nat) : Nat → Nat → Nat
  | 0, S => S
  | k + 1, S => fb_cl r k S ||| fb_u r (fb_cl r k S)
def fb_it (r : Nat → Nat) : Nat → Nat → Nat
  | 0, S => S
  | k + 1, S => fb_u r (fb_it r k S)
theorem fb_cl_lt {r : Nat → Nat} (h : fb_B r) {S : Nat} (hS : S < 32) : ∀ k, fb_cl r k S < 32 := by
  intro k
  induction k with
  | zero => exact hS
  | succ k ih => exact Nat.or_lt_two_pow (n := 5) ih (fb_u_lt h _)
theorem fb_it_lt {r : Nat → Nat} (h : fb_B r) {S : Nat} (hS : S < 32) : ∀ k, fb_it r k S < 32 := by
  intro k
  induction k with
  | zero => exact hS
  | succ k ih => exact fb_u_lt h _
theorem fb_cl_0 (r : Nat → Nat) : ∀ k, fb_cl r k 0 = 0 := by
  intro k
  induction k with
  | zero => rfl
  | succ k ih =>
    show fb_cl r k 0 ||| fb_u r (fb_cl r k 0) = 0
    simp [ih, fb_u_0]
theorem fb_cl_45 {r : Nat → Nat} (h : fb_B r) {S : Nat} (hS : S < 32) : fb_cl r 5 S = fb_cl r 4 S := by
  by_cases h0 : S = 0
  · subst h0; rw [fb_cl_0, fb_cl_0]
  · obtain ⟨i, hi⟩ := Nat.exists_testBit_of_ne_zero h0
    have mono : ∀ k i, i < 5 → (fb_cl r k S).testBit i = true → (fb_cl r (k + 1) S).testBit i = true := by
      intro k i _ hh
      exact fb_ol hh
    have e : ∀ i, i < 5 → (fb_cl r (4 + 1) S).testBit i = true → (fb_cl r 4 S).testBit i = true := by
      refine fa_chain (N := 5) (c := 1) (fun k i => (fb_cl r k S).testBit i = true) mono ?_ ?_ 4 (by omega)
      · intro k hh i hi h2
        have : fb_cl r (k + 1) S = fb_cl r k S :=
          fb_ext (fb_cl_lt h hS _) (fb_cl_lt h hS _) (fun t ht => ⟨hh t ht, mono k t ht⟩)
        have h3 : fb_cl r (k + 2) S = fb_cl r (k + 1) S := by
          show fb_cl r (k + 1) S ||| fb_u r (fb_cl r (k + 1) S) = fb_cl r (k + 1) S
          rw [this]; exact this
        rw [h3] at h2; exact h2
      · exact fa_ct_pos (fb_lt_bit hS hi) hi
    exact fb_ext (fb_cl_lt h hS _) (fb_cl_lt h hS _) (fun t ht => ⟨e t ht, mono 4 t ht⟩)
theorem fb_cl_s (r : Nat → Nat) (S : Nat) : ∀ k, fb_cl r (k + 1) S = fb_cl r k (S ||| fb_u r S) := by
  intro k
  induction k with
  | zero => rfl
  | succ k ih => rw [fb_cl, ih]; rfl
theorem fb_m_or {S T U : Nat} (hS : S < 32) (hT : T < 32) : fb_m (S ||| T) U ↔ fb_m S U ∨ fb_m T U := by
  rw [fb_m_iff (Nat.or_lt_two_pow (n := 5) hS hT), fb_m_iff hS, fb_m_iff hT]
  constructor
  · rintro ⟨s, hs, a, b⟩
    rw [Nat.testBit_or, Bool.or_eq_true] at a
    rcases a with a | a
    · exact Or.inl ⟨s, hs, a, b⟩
    · exact Or.inr ⟨s, hs, a, b⟩
  · rintro (⟨s, hs, a, b⟩ | ⟨s, hs, a, b⟩)
    · exact ⟨s, hs, fb_ol a, b⟩
    · exact ⟨s, hs, fb_orr a, b⟩
theorem fb_cl_adj {r r' : Nat → Nat} (h : fb_B r) (h' : fb_B r') (c : fb_cv r r') {S : Nat} (hS : S < 32) : ∀ k T, T < 32 → (fb_m (fb_cl r k S) T ↔ fb_m S (fb_cl r' k T)) := by
  intro k
  induction k with
  | zero => intro T _; exact Iff.rfl
  | succ k ih =>
    intro T hT
    have hk := fb_cl_lt h hS k
    rw [fb_cl_s r' T k, ← ih _ (Nat.or_lt_two_pow (n := 5) hT (fb_u_lt h' _)), fb_cl, fb_m_or hk (fb_u_lt h _), fb_adj h c hk,
      fb_m_cm (fb_cl r k S) (T ||| fb_u r' T), fb_m_or hT (fb_u_lt h' _), fb_m_cm T, fb_m_cm (fb_u r' T)]
theorem fb_cl_it {r : Nat → Nat} {S : Nat} : ∀ k t, (fb_cl r k S).testBit t = true ↔ ∃ i, i ≤ k ∧ (fb_it r i S).testBit t = true := by
  intro k
  induction k with
  | zero =>
    intro t
    constructor
    · intro hh; exact ⟨0, Nat.le_refl _, hh⟩
    · rintro ⟨i, hi, hh⟩
      have : i = 0 := by omega
      subst this; exact hh
  | succ k ih =>
    intro t
    rw [fb_cl, Nat.testBit_or, Bool.or_eq_true, ih, fb_u_bit]
    constructor
    · rintro (⟨i, hi, hh⟩ | ⟨s, hs, a, b⟩)
      · exact ⟨i, by omega, hh⟩
      · obtain ⟨i, hi, hh⟩ := (ih s).mp a
        exact ⟨i + 1, by omega, (fb_u_bit r _ t).mpr ⟨s, hs, hh, b⟩⟩
    · rintro ⟨i, hi, hh⟩
      by_cases e : i ≤ k
      · exact Or.inl ⟨i, e, hh⟩
      · have : i = k + 1 := by omega
        subst this
        obtain ⟨s, hs, a, b⟩ := (fb_u_bit r _ t).mp hh
        exact Or.inr ⟨s, hs, (ih s).mpr ⟨k, Nat.le_refl _, a⟩, b⟩
theorem fb_it_s (r : Nat → Nat) (S : Nat) : ∀ k, fb_it r k (fb_u r S) = fb_it r (k + 1) S := by
  intro k
  induction k with
  | zero => rfl
  | succ k ih => rw [fb_it, ih]; rfl
/-- live: both ways of finding it -/
theorem fb_live {r r' : Nat → Nat} (h : fb_B r) (h' : fb_B r') (c : fb_cv r r') {b e s : Nat} (hb : b < 32) (he : e < 32) (hs : s < 5) :
    ((fb_cl r 5 b).testBit s = true ∧ fb_m (fb_cl r 5 (2 ^ s)) e) ↔ (fb_cl r 4 b &&& fb_cl r' 4 e).testBit s = true := by
  rw [fb_cl_45 h hb, fb_cl_45 h (fb_2lt hs), fb_cl_adj h h' c (fb_2lt hs) 4 e he, Nat.testBit_and, Bool.and_eq_true, fb_m_iff (fb_2lt hs)]
  constructor
  · rintro ⟨a, t, _, e1, e2⟩
    rw [fb_2p] at e1; subst e1; exact ⟨a, e2⟩
  · rintro ⟨a, e2⟩
    exact ⟨a, s, hs, fb_2p.mpr rfl, e2⟩
/-- on a round: both ways -/
theorem fb_round {r : Nat → Nat} {s : Nat} : (fb_cl r 4 (fb_u r (2 ^ s))).testBit s = true ↔ ∃ n, n < 5 ∧ (fb_it r (n + 1) (2 ^ s)).testBit s = true := by
  rw [fb_cl_it]
  constructor
  · rintro ⟨i, hi, hh⟩
    rw [fb_it_s] at hh
    exact ⟨i, by omega, hh⟩
  · rintro ⟨n, hn, hh⟩
    exact ⟨n, by omega, by rw [fb_it_s]; exact hh⟩
/-- words: k letters of w from the k-th binary digit down -/
def fb_rn (st : Nat → Nat → Nat) (w : Nat) : Nat → Nat → Nat
  | 0, S => S
  | k + 1, S => fb_rn st w k (st S (w / 2 ^ k % 2))
theorem fb_rn_snoc (st : Nat → Nat → Nat) (w : Nat) : ∀ k S, fb_rn st w (k + 1) S = st (fb_rn st (w / 2) k S) (w % 2) := by
  intro k
  induction k with
  | zero =>
    intro S
    show st S (w / 2 ^ 0 % 2) = st S (w % 2)
    rw [Nat.pow_zero, Nat.div_one]
  | succ k ih =>
    intro S
    rw [fb_rn, ih, fb_rn]
    have : w / 2 ^ (k + 1) = w / 2 / 2 ^ k := by
      rw [Nat.div_div_eq_div_mul, Nat.pow_succ, Nat.mul_comm]
    rw [this]
/-- the two steps of a machine -/
def fb_st (r0 r1 : Nat → Nat) (S l : Nat) : Nat := if l = 0 then fb_u r0 S else fb_u r1 S
theorem fb_st_lt {r0 r1 : Nat → Nat} (h0 : fb_B r0) (h1 : fb_B r1) (S l : Nat) : fb_st r0 r1 S l < 32 := by
  unfold fb_st; split
  · exact fb_u_lt h0 S
  · exact fb_u_lt h1 S
theorem fb_rn_lt {r0 r1 : Nat → Nat} (h0 : fb_B r0) (h1 : fb_B r1) (w : Nat) : ∀ k S, S < 32 → fb_rn (fb_st r0 r1) w k S < 32 := by
  intro k
  induction k with
  | zero => intro S h; exact h
  | succ k ih => intro S h; exact ih _ (fb_st_lt h0 h1 _ _)
theorem fb_it_mono {r : Nat → Nat} {S T : Nat} (h : ∀ t, S.testBit t = true → T.testBit t = true) : ∀ t, (fb_u r S).testBit t = true → (fb_u r T).testBit t = true := by
  intro t hh
  obtain ⟨s, hs, a, b⟩ := (fb_u_bit r S t).mp hh
  exact (fb_u_bit r T t).mpr ⟨s, hs, h s a, b⟩
theorem fb_rn_in {r0 r1 : Nat → Nat} (h0 : fb_B r0) (h1 : fb_B r1) : ∀ k w S t, (fb_rn (fb_st r0 r1) w k S).testBit t = true → (fb_it (fb_j r0 r1) k S).testBit t = true := by
  intro k
  induction k with
  | zero => intro w S t h; exact h
  | succ k ih =>
    intro w S t h
    rw [fb_rn_snoc] at h
    rw [fb_it, fb_u_j h0 h1, Nat.testBit_or, Bool.or_eq_true]
    unfold fb_st at h
    split at h
    · exact Or.inl (fb_it_mono (ih (w / 2) S) t h)
    · exact Or.inr (fb_it_mono (ih (w / 2) S) t h)
theorem fb_rn_out {r0 r1 : Nat → Nat} (h0 : fb_B r0) (h1 : fb_B r1) : ∀ k S t, (fb_it (fb_j r0 r1) k S).testBit t = true → ∃ w, 2 ^ k ≤ w ∧ w < 2 ^ (k + 1) ∧ (fb_rn (fb_st r0 r1) w k S).testBit t = true := by
  intro k
  induction k with
  | zero => intro S t h; exact ⟨1, by decide, by decide, h⟩
  | succ k ih =>
    intro S t h
    rw [fb_it, fb_u_j h0 h1, Nat.testBit_or, Bool.or_eq_true, fb_u_bit, fb_u_bit] at h
    rcases h with ⟨s, hs, a, b⟩ | ⟨s, hs, a, b⟩
    · obtain ⟨w, l, u, hw⟩ := ih S s a
      refine ⟨2 * w, by rw [Nat.pow_succ]; omega, by rw [Nat.pow_succ]; omega, ?_⟩
      rw [fb_rn_snoc, show 2 * w / 2 = w by omega, show 2 * w % 2 = 0 by omega]
      exact (fb_u_bit r0 _ t).mpr ⟨s, hs, hw, b⟩
    · obtain ⟨w, l, u, hw⟩ := ih S s a
      refine ⟨2 * w + 1, by rw [Nat.pow_succ]; omega, by rw [Nat.pow_succ]; omega, ?_⟩
      rw [fb_rn_snoc, show (2 * w + 1) / 2 = w by omega, show (2 * w + 1) % 2 = 1 by omega]
      exact (fb_u_bit r1 _ t).mpr ⟨s, hs, hw, b⟩
/-- the states after a word -/
def fb_wd (st : Nat → Nat → Nat) (b w : Nat) : Nat := fb_rn st w (Nat.log2 w) b
theorem fb_log {w k : Nat} (h : 2 ^ k ≤ w) (h2 : w < 2 ^ (k + 1)) : Nat.log2 w = k := by
  have h0 : w ≠ 0 := by
    have := Nat.two_pow_pos k
    omega
  exact (Nat.log2_eq_iff h0).mpr ⟨h, h2⟩
/-- what is accepted by five letters is accepted by fewer -/
theorem fb_short {r0 r1 : Nat → Nat} (h0 : fb_B r0) (h1 : fb_B r1) {b e : Nat} (hb : b < 32)
    (hn : ∀ w, 1 ≤ w → w < 32 → ¬ fb_m (fb_wd (fb_st r0 r1) b w) e) : ∀ w, 32 ≤ w → w < 64 → ¬ fb_m (fb_wd (fb_st r0 r1) b w) e := by
  intro w hl hu hm
  have hlog : Nat.log2 w = 5 := fb_log (k := 5) hl hu
  unfold fb_wd at hm
  rw [hlog, fb_m_iff (fb_rn_lt h0 h1 w 5 b hb)] at hm
  obtain ⟨t, ht, a, ae⟩ := hm
  have a1 := fb_rn_in h0 h1 5 w b t a
  have hB := fb_j_B h0 h1
  have a2 : (fb_cl (fb_j r0 r1) 5 b).testBit t = true := (fb_cl_it 5 t).mpr ⟨5, Nat.le_refl _, a1⟩
  rw [fb_cl_45 hB hb] at a2
  obtain ⟨i, hi, a3⟩ := (fb_cl_it 4 t).mp a2
  obtain ⟨w', l, u, a4⟩ := fb_rn_out h0 h1 i b t a3
  have hlog' : Nat.log2 w' = i := fb_log l u
  have u2 : 2 ^ (i + 1) ≤ 2 ^ 5 := Nat.pow_le_pow_right (by omega) (by omega)
  have l2 : 1 ≤ 2 ^ i := Nat.two_pow_pos i
  apply hn w' (by omega) (by omega)
  unfold fb_wd
  rw [hlog', fb_m_iff (fb_rn_lt h0 h1 w' i b hb)]
  exact ⟨t, ht, a4, ae⟩
end
section
/-! walks on five states by one letter: two machines that agree on fewer than thirty letters agree on thirty -/
def fc_w (e : Nat → Nat → Prop) : Nat → Nat → Nat → Prop
  | 0, u, x => u = x
  | k + 1, u, x => ∃ v, v < 5 ∧ e u v ∧ fc_w e k v x
section
variable {e : Nat → Nat → Prop}
theorem fc_add : ∀ i j u v x, v < 5 → fc_w e i u v → fc_w e j v x → fc_w e (i + j) u x := by
  intro i
  induction i with
  | zero => intro j u v x _ h g; cases h; rw [Nat.zero_add]; exact g
  | succ i ih =>
    intro j u v x hv h g
    obtain ⟨y, hy, a, b⟩ := h
    rw [Nat.succ_add]
    exact ⟨y, hy, a, ih j y v x hv b g⟩
theorem fc_cut : ∀ i j u x, u < 5 → fc_w e (i + j) u x → ∃ v, v < 5 ∧ fc_w e i u v ∧ fc_w e j v x := by
  intro i
  induction i with
  | zero => intro j u x hu h; rw [Nat.zero_add] at h; exact ⟨u, hu, rfl, h⟩
  | succ i ih =>
    intro j u x hu h
    rw [Nat.succ_add] at h
    obtain ⟨y, hy, a, b⟩ := h
    obtain ⟨v, hv, c, d⟩ := ih j y x hy b
    exact ⟨v, hv, ⟨y, hy, a, c⟩, d⟩
theorem fc_up {d v x : Nat} (hv : v < 5) (h : fc_w e d v v) : ∀ t k, fc_w e k v x → fc_w e (k + d * t) v x := by
  intro t
  induction t with
  | zero => intro k g; exact g
  | succ t ih =>
    intro k g
    have := fc_add d (k + d * t) v v x hv h (ih k g)
    rw [show k + d * (t + 1) = d + (k + d * t) by rw [Nat.mul_succ]; omega]
    exact this
theorem fc_dn {d v : Nat} (hv : v < 5) (h : fc_w e d v v) : ∀ t s x, x < 5 → fc_w e (d * 4 + d * t + s) v x → fc_w e (d * 4 + s) v x := by
  intro t s x hx g
  obtain ⟨y, hy, a, b⟩ := fc_cut (d * 4 + d * t) s v x hv g
  have a' : fc_w e (d * (4 + t)) v y := by rw [Nat.mul_add]; exact a
  have key : fc_w e (d * 4) v y := by
    refine fa_chain_far (N := 5) (c := 1) (fun j x => fc_w e (d * j) v x) ?_ ?_ ?_ 4 (by omega) t y hy a'
    · intro k i _ hh
      have := fc_add d (d * k) v v i hv h hh
      show fc_w e (d * (k + 1)) v i
      rw [Nat.mul_succ, Nat.add_comm]
      exact this
    · intro k hh i hi h2
      have h2' : fc_w e (d * (k + 1) + d) v i := by rw [← Nat.mul_succ]; exact h2
      obtain ⟨z, hz, p, q⟩ := fc_cut (d * (k + 1)) d v i hv h2'
      have p' := hh z hz p
      have := fc_add (d * k) d v z i hz p' q
      show fc_w e (d * (k + 1)) v i
      rw [Nat.mul_succ]
      exact this
    · exact fa_ct_pos hv rfl
  exact fc_add (d * 4) s v y x hy key b
/-- every walk of five steps meets, within its first five states, a state on a closed walk whose length divides p -/
def fc_H (e : Nat → Nat → Prop) (p D : Nat) : Prop := ∀ u x, u < 5 → x < 5 → fc_w e 5 u x → ∃ i v d, i ≤ 4 ∧ v < 5 ∧ 1 ≤ d ∧ d ≤ D ∧ d ∣ p ∧ fc_w e i u v ∧ fc_w e d v v ∧ fc_w e (5 - i) v x
theorem fc_H_k {p D : Nat} (H : fc_H e p D) {k u x : Nat} (hk : 5 ≤ k) (hu : u < 5) (hx : x < 5) (h : fc_w e k u x) :
    ∃ i v d, i ≤ 4 ∧ v < 5 ∧ 1 ≤ d ∧ d ≤ D ∧ d ∣ p ∧ fc_w e i u v ∧ fc_w e d v v ∧ fc_w e (k - i) v x := by
  have h' : fc_w e (5 + (k - 5)) u x := by rw [show 5 + (k - 5) = k by omega]; exact h
  obtain ⟨y, hy, a, b⟩ := fc_cut 5 (k - 5) u x hu h'
  obtain ⟨i, v, d, hi, hv, h1, h2, h3, h4, h5, h6⟩ := H u y hu hy a
  refine ⟨i, v, d, hi, hv, h1, h2, h3, h4, h5, ?_⟩
  have := fc_add (5 - i) (k - 5) v y x hy h6 b
  rw [show 5 - i + (k - 5) = k - i by omega] at this
  exact this
theorem fc_H_per {p D : Nat} (H : fc_H e p D) (hD : 1 ≤ D) {k u x : Nat} (hk : 4 + 4 * D ≤ k) (hu : u < 5) (hx : x < 5) : fc_w e k u x ↔ fc_w e (k + p) u x := by
  constructor
  · intro h
    obtain ⟨i, v, d, hi, hv, h1, h2, ⟨q, hq⟩, h4, h5, h6⟩ := fc_H_k H (by omega) hu hx h
    have a := fc_up (x := x) hv h5 q (k - i) h6
    have := fc_add i (k - i + d * q) u v x hv h4 a
    rw [show i + (k - i + d * q) = k + p by rw [hq]; omega] at this
    exact this
  · intro h
    obtain ⟨i, v, d, hi, hv, h1, h2, ⟨q, hq⟩, h4, h5, h6⟩ := fc_H_k H (by omega) hu hx h
    have hs : d * 4 ≤ k - i := by omega
    obtain ⟨s, hs'⟩ := Nat.exists_eq_add_of_le hs
    have a : fc_w e (d * 4 + d * q + s) v x := by
      rw [show d * 4 + d * q + s = k + p - i by rw [hq]; omega]; exact h6
    have b := fc_dn hv h5 q s x hx a
    have := fc_add i (d * 4 + s) u v x hv h4 b
    rw [show i + (d * 4 + s) = k by omega] at this
    exact this
theorem fc_six {a b c d g h : Nat} (ha : a < 5) (hb : b < 5) (hc : c < 5) (hd : d < 5) (hg : g < 5) (hh : h < 5)
    (hn : [a, b, c, d, g, h].Nodup) : False := by
  have : [a, b, c, d, g, h] ⊆ List.range 5 := by
    intro x hx
    rw [List.mem_range]
    simp only [List.mem_cons, List.not_mem_nil, or_false] at hx
    rcases hx with rfl | rfl | rfl | rfl | rfl | rfl <;> assumption
  have := List.Nodup.length_le_of_subset hn this
  simp at this
/-- a walk of five steps, its six states -/
theorem fc_5 {u x : Nat} (h : fc_w e 5 u x) : ∃ a b c d, a < 5 ∧ b < 5 ∧ c < 5 ∧ d < 5 ∧ e u a ∧ e a b ∧ e b c ∧ e c d ∧ e d x ∧ x < 5 := by
  obtain ⟨a, ha, e1, b, hb, e2, c, hc, e3, d, hd, e4, y, hy, e5, hx⟩ := h
  cases hx
  exact ⟨a, b, c, d, ha, hb, hc, hd, e1, e2, e3, e4, e5, hy⟩
theorem fc_1 {u v : Nat} (hv : v < 5) (h : e u v) : fc_w e 1 u v := ⟨v, hv, h, rfl⟩
theorem fc_2 {u v w : Nat} (hv : v < 5) (hw : w < 5) (h : e u v) (g : e v w) : fc_w e 2 u w := ⟨v, hv, h, fc_1 hw g⟩
theorem fc_3 {u v w y : Nat} (hv : v < 5) (hw : w < 5) (hy : y < 5) (h : e u v) (g : e v w) (k : e w y) : fc_w e 3 u y := ⟨v, hv, h, fc_2 hw hy g k⟩
theorem fc_4 {u v w y z : Nat} (hv : v < 5) (hw : w < 5) (hy : y < 5) (hz : z < 5) (h : e u v) (g : e v w) (k : e w y) (l : e y z) : fc_w e 4 u z := ⟨v, hv, h, fc_3 hw hy hz g k l⟩
theorem fc_A {c0 c1 : Nat} (h0 : c0 < 5) (h1 : c1 < 5) (hne : c0 ≠ c1) (w0 : fc_w e 3 c0 c0) (w1 : fc_w e 3 c1 c1) : fc_H e 6 3 := by
  intro u x hu hx h
  obtain ⟨a, b, c, d, ha, hb, hc, hd, e1, e2, e3, e4, e5, _⟩ := fc_5 h
  have t0 : fc_w e 5 u x := h
  have t1 : fc_w e 4 a x := fc_4 hb hc hd hx e2 e3 e4 e5
  have t2 : fc_w e 3 b x := fc_3 hc hd hx e3 e4 e5
  have t3 : fc_w e 2 c x := fc_2 hd hx e4 e5
  have s1 : fc_w e 1 u a := fc_1 ha e1
  have s2 : fc_w e 2 u b := fc_2 ha hb e1 e2
  have s3 : fc_w e 3 u c := fc_3 ha hb hc e1 e2 e3
  have d1 : 1 ∣ 6 := ⟨6, rfl⟩
  have d2 : 2 ∣ 6 := ⟨3, rfl⟩
  have d3 : 3 ∣ 6 := ⟨2, rfl⟩
  by_cases q1 : u = a
  · exact ⟨0, u, 1, by omega, hu, by omega, by omega, d1, rfl, fc_1 hu (by rw [← q1] at e1; exact e1), t0⟩
  by_cases q2 : u = b
  · exact ⟨0, u, 2, by omega, hu, by omega, by omega, d2, rfl, by rw [← q2] at s2; exact s2, t0⟩
  by_cases q3 : u = c
  · exact ⟨0, u, 3, by omega, hu, by omega, by omega, d3, rfl, by rw [← q3] at s3; exact s3, t0⟩
  by_cases q4 : a = b
  · exact ⟨1, a, 1, by omega, ha, by omega, by omega, d1, s1, fc_1 ha (by rw [← q4] at e2; exact e2), t1⟩
  by_cases q5 : a = c
  · exact ⟨1, a, 2, by omega, ha, by omega, by omega, d2, s1, fc_2 hb ha e2 (by rw [← q5] at e3; exact e3), t1⟩
  by_cases q6 : b = c
  · exact ⟨2, b, 1, by omega, hb, by omega, by omega, d1, s2, fc_1 hb (by rw [← q6] at e3; exact e3), t2⟩
  have hit : ∀ z, z < 5 → fc_w e 3 z z → (u = z ∨ a = z ∨ b = z ∨ c = z) → ∃ i v d, i ≤ 4 ∧ v < 5 ∧ 1 ≤ d ∧ d ≤ 3 ∧ d ∣ 6 ∧ fc_w e i u v ∧ fc_w e d v v ∧ fc_w e (5 - i) v x := by
    intro z hz wz hh
    rcases hh with rfl | rfl | rfl | rfl
    · exact ⟨0, _, 3, by omega, hz, by omega, by omega, d3, rfl, wz, t0⟩
    · exact ⟨1, _, 3, by omega, hz, by omega, by omega, d3, s1, wz, t1⟩
    · exact ⟨2, _, 3, by omega, hz, by omega, by omega, d3, s2, wz, t2⟩
    · exact ⟨3, _, 3, by omega, hz, by omega, by omega, d3, s3, wz, t3⟩
  by_cases m0 : u = c0 ∨ a = c0 ∨ b = c0 ∨ c = c0
  · exact hit c0 h0 w0 m0
  by_cases m1 : u = c1 ∨ a = c1 ∨ b = c1 ∨ c = c1
  · exact hit c1 h1 w1 m1
  exfalso
  refine fc_six h0 h1 hu ha hb hc ?_
  simp only [not_or] at m0 m1
  obtain ⟨x1, x2, x3, x4⟩ := m0
  obtain ⟨y1, y2, y3, y4⟩ := m1
  simp only [List.nodup_cons, List.mem_cons, List.not_mem_nil, or_false, not_or, not_false_eq_true, List.nodup_nil, and_true]
  exact ⟨⟨hne, Ne.symm x1, Ne.symm x2, Ne.symm x3, Ne.symm x4⟩, ⟨Ne.symm y1, Ne.symm y2, Ne.symm y3, Ne.symm y4⟩, ⟨q1, q2, q3⟩, ⟨q4, q5⟩, q6⟩
/-- with no two states on closed walks of three steps, such a walk is a loop -/
theorem fc_no3 (nA : ¬ ∃ c0 c1, c0 < 5 ∧ c1 < 5 ∧ c0 ≠ c1 ∧ fc_w e 3 c0 c0 ∧ fc_w e 3 c1 c1) {a b c : Nat} (ha : a < 5) (hb : b < 5) (hc : c < 5) (h : e a b) (g : e b c) (k : e c a) : fc_w e 1 a a := by
  by_cases q : a = b
  · exact fc_1 ha (by rw [← q] at h; exact h)
  · exact absurd ⟨a, b, ha, hb, q, fc_3 hb hc ha h g k, fc_3 hc ha hb g k h⟩ nA
/-- how a walk of five steps comes back to itself -/
theorem fc_rep {u a b c d x : Nat} (hu : u < 5) (ha : a < 5) (hb : b < 5) (hc : c < 5) (hd : d < 5) (hx : x < 5)
    (nA : ¬ ∃ c0 c1, c0 < 5 ∧ c1 < 5 ∧ c0 ≠ c1 ∧ fc_w e 3 c0 c0 ∧ fc_w e 3 c1 c1)
    (e1 : e u a) (e2 : e a b) (e3 : e b c) (e4 : e c d) (e5 : e d x) :
    (∃ i v q, i ≤ 4 ∧ v < 5 ∧ (q = 1 ∨ q = 2 ∨ q = 4) ∧ fc_w e i u v ∧ fc_w e q v v ∧ fc_w e (5 - i) v x) ∨ (u = x ∧ ∀ z, z < 5 → z = u ∨ z = a ∨ z = b ∨ z = c ∨ z = d) := by
  have t0 : fc_w e 5 u x := ⟨a, ha, e1, fc_4 hb hc hd hx e2 e3 e4 e5⟩
  have t1 : fc_w e 4 a x := fc_4 hb hc hd hx e2 e3 e4 e5
  have t2 : fc_w e 3 b x := fc_3 hc hd hx e3 e4 e5
  have t3 : fc_w e 2 c x := fc_2 hd hx e4 e5
  have t4 : fc_w e 1 d x := fc_1 hx e5
  have s1 : fc_w e 1 u a := fc_1 ha e1
  have s2 : fc_w e 2 u b := fc_2 ha hb e1 e2
  have s3 : fc_w e 3 u c := fc_3 ha hb hc e1 e2 e3
  have s4 : fc_w e 4 u d := fc_4 ha hb hc hd e1 e2 e3 e4
  by_cases q1 : u = a
  · exact Or.inl ⟨0, u, 1, by omega, hu, by omega, rfl, fc_1 hu (by rw [← q1] at e1; exact e1), t0⟩
  by_cases q2 : u = b
  · exact Or.inl ⟨0, u, 2, by omega, hu, by omega, rfl, by rw [← q2] at s2; exact s2, t0⟩
  by_cases q3 : u = c
  · exact Or.inl ⟨0, u, 1, by omega, hu, by omega, rfl, fc_no3 nA hu ha hb e1 e2 (by rw [← q3] at e3; exact e3), t0⟩
  by_cases q4 : u = d
  · exact Or.inl ⟨0, u, 4, by omega, hu, by omega, rfl, by rw [← q4] at s4; exact s4, t0⟩
  by_cases q5 : a = b
  · exact Or.inl ⟨1, a, 1, by omega, ha, by omega, s1, fc_1 ha (by rw [← q5] at e2; exact e2), t1⟩
  by_cases q6 : a = c
  · exact Or.inl ⟨1, a, 2, by omega, ha, by omega, s1, fc_2 hb ha e2 (by rw [← q6] at e3; exact e3), t1⟩
  by_cases q7 : a = d
  · exact Or.inl ⟨1, a, 1, by omega, ha, by omega, s1, fc_no3 nA ha hb hc e2 e3 (by rw [← q7] at e4; exact e4), t1⟩
  by_cases q8 : a = x
  · exact Or.inl ⟨1, a, 4, by omega, ha, by omega, s1, by rw [← q8] at t1; exact t1, t1⟩
  by_cases q9 : b = c
  · exact Or.inl ⟨2, b, 1, by omega, hb, by omega, s2, fc_1 hb (by rw [← q9] at e3; exact e3), t2⟩
  by_cases q10 : b = d
  · exact Or.inl ⟨2, b, 2, by omega, hb, by omega, s2, fc_2 hc hb e3 (by rw [← q10] at e4; exact e4), t2⟩
  by_cases q11 : b = x
  · exact Or.inl ⟨2, b, 1, by omega, hb, by omega, s2, fc_no3 nA hb hc hd e3 e4 (by rw [← q11] at e5; exact e5), t2⟩
  by_cases q12 : c = d
  · exact Or.inl ⟨3, c, 1, by omega, hc, by omega, s3, fc_1 hc (by rw [← q12] at e4; exact e4), t3⟩
  by_cases q13 : c = x
  · exact Or.inl ⟨3, c, 2, by omega, hc, by omega, s3, fc_2 hd hc e4 (by rw [← q13] at e5; exact e5), t3⟩
  by_cases q14 : d = x
  · exact Or.inl ⟨4, d, 1, by omega, hd, by omega, s4, fc_1 hd (by rw [← q14] at e5; exact e5), t4⟩
  have all : ∀ z, z < 5 → z = u ∨ z = a ∨ z = b ∨ z = c ∨ z = d := by
    intro z hz
    apply Classical.byContradiction
    intro hn
    simp only [not_or] at hn
    obtain ⟨z1, z2, z3, z4, z5⟩ := hn
    refine fc_six hz hu ha hb hc hd ?_
    simp only [List.nodup_cons, List.mem_cons, List.not_mem_nil, or_false, not_or, not_false_eq_true, List.nodup_nil, and_true]
    exact ⟨⟨z1, z2, z3, z4, z5⟩, ⟨q1, q2, q3, q4⟩, ⟨q5, q6, q7⟩, ⟨q9, q10⟩, q12⟩
  refine Or.inr ⟨?_, all⟩
  rcases all x hx with h | h | h | h | h
  · exact h.symm
  · exact absurd h.symm q8
  · exact absurd h.symm q11
  · exact absurd h.symm q13
  · exact absurd h.symm q14
theorem fc_B (nA : ¬ ∃ c0 c1, c0 < 5 ∧ c1 < 5 ∧ c0 ≠ c1 ∧ fc_w e 3 c0 c0 ∧ fc_w e 3 c1 c1) {z q : Nat} (hz : z < 5) (hq : q = 1 ∨ q = 2 ∨ q = 4) (w : fc_w e q z z) : fc_H e 4 4 := by
  have dv : ∀ q, (q = 1 ∨ q = 2 ∨ q = 4) → q ∣ 4 := by
    intro q hq
    rcases hq with rfl | rfl | rfl
    · exact ⟨4, rfl⟩
    · exact ⟨2, rfl⟩
    · exact ⟨1, rfl⟩
  intro u x hu hx h
  obtain ⟨a, b, c, d, ha, hb, hc, hd, e1, e2, e3, e4, e5, _⟩ := fc_5 h
  rcases fc_rep hu ha hb hc hd hx nA e1 e2 e3 e4 e5 with ⟨i, v, p, hi, hv, hp, h1, h2, h3⟩ | ⟨_, all⟩
  · exact ⟨i, v, p, hi, hv, by omega, by omega, dv p hp, h1, h2, h3⟩
  · rcases all z hz with rfl | rfl | rfl | rfl | rfl
    · exact ⟨0, _, q, by omega, hz, by omega, by omega, dv q hq, rfl, w, h⟩
    · exact ⟨1, _, q, by omega, hz, by omega, by omega, dv q hq, fc_1 hz e1, w, fc_4 hb hc hd hx e2 e3 e4 e5⟩
    · exact ⟨2, _, q, by omega, hz, by omega, by omega, dv q hq, fc_2 ha hz e1 e2, w, fc_3 hc hd hx e3 e4 e5⟩
    · exact ⟨3, _, q, by omega, hz, by omega, by omega, dv q hq, fc_3 ha hb hz e1 e2 e3, w, fc_2 hd hx e4 e5⟩
    · exact ⟨4, _, q, by omega, hz, by omega, by omega, dv q hq, fc_4 ha hb hc hz e1 e2 e3 e4, w, fc_1 hx e5⟩
theorem fc_per : ∃ p K, ((p = 6 ∧ K = 16) ∨ (p = 4 ∧ K = 20) ∨ (p = 5 ∧ K = 5)) ∧ ∀ k u x, K ≤ k → u < 5 → x < 5 → (fc_w e k u x ↔ fc_w e (k + p) u x) := by
  by_cases hA : ∃ c0 c1, c0 < 5 ∧ c1 < 5 ∧ c0 ≠ c1 ∧ fc_w e 3 c0 c0 ∧ fc_w e 3 c1 c1
  · obtain ⟨c0, c1, h0, h1, hne, w0, w1⟩ := hA
    exact ⟨6, 16, by omega, fun k u x hk hu hx => fc_H_per (fc_A h0 h1 hne w0 w1) (by omega) hk hu hx⟩
  · by_cases hB : ∃ z q, z < 5 ∧ (q = 1 ∨ q = 2 ∨ q = 4) ∧ fc_w e q z z
    · obtain ⟨z, q, hz, hq, w⟩ := hB
      exact ⟨4, 20, by omega, fun k u x hk hu hx => fc_H_per (fc_B hA hz hq w) (by omega) hk hu hx⟩
    · have id5 : ∀ u x, u < 5 → x < 5 → fc_w e 5 u x → u = x := by
        intro u x hu hx h
        obtain ⟨a, b, c, d, ha, hb, hc, hd, e1, e2, e3, e4, e5, _⟩ := fc_5 h
        rcases fc_rep hu ha hb hc hd hx hA e1 e2 e3 e4 e5 with ⟨i, v, p, hi, hv, hp, h1, h2, h3⟩ | ⟨h1, _⟩
        · exact absurd ⟨v, p, hv, hp, h2⟩ hB
        · exact h1
      refine ⟨5, 5, by omega, fun k u x hk hu hx => ⟨fun h => ?_, fun h => ?_⟩⟩
      · obtain ⟨v, hv, a, b⟩ := fc_cut 5 (k - 5) u x hu (by rw [show 5 + (k - 5) = k by omega]; exact h)
        have := id5 u v hu hv a
        subst this
        have := fc_add 5 k u u x hu a h
        rw [Nat.add_comm] at this
        exact this
      · obtain ⟨v, hv, a, b⟩ := fc_cut 5 k u x hu (by rw [Nat.add_comm]; exact h)
        have := id5 u v hu hv a
        subst this
        exact b
end
theorem fc_it {r : Nat → Nat} (S : Nat) : ∀ k t, t < 5 → ((fb_it r k S).testBit t = true ↔ ∃ u, u < 5 ∧ S.testBit u = true ∧ fc_w (fun s t => (r s).testBit t = true) k u t) := by
  intro k
  induction k generalizing S with
  | zero =>
    intro t ht
    constructor
    · intro h; exact ⟨t, ht, h, rfl⟩
    · rintro ⟨u, _, h, e⟩
      cases e; exact h
  | succ k ih =>
    intro t ht
    rw [← fb_it_s, ih (fb_u r S) t ht]
    constructor
    · rintro ⟨u, hu, a, b⟩
      obtain ⟨s, hs, a1, a2⟩ := (fb_u_bit r S u).mp a
      exact ⟨s, hs, a1, u, hu, a2, b⟩
    · rintro ⟨s, hs, a1, u, hu, a2, b⟩
      exact ⟨u, hu, (fb_u_bit r S u).mpr ⟨s, hs, a1, a2⟩, b⟩
theorem fc_acc {r : Nat → Nat} (h : fb_B r) {S : Nat} (hS : S < 32) (T k : Nat) : fb_m (fb_it r k S) T ↔ ∃ u t, u < 5 ∧ t < 5 ∧ S.testBit u = true ∧ T.testBit t = true ∧ fc_w (fun s t => (r s).testBit t = true) k u t := by
  rw [fb_m_iff (fb_it_lt h hS k)]
  constructor
  · rintro ⟨t, ht, a, b⟩
    obtain ⟨u, hu, a1, a2⟩ := (fc_it S k t ht).mp a
    exact ⟨u, t, hu, ht, a1, b, a2⟩
  · rintro ⟨u, t, hu, ht, a, b, c⟩
    exact ⟨t, ht, (fc_it S k t ht).mpr ⟨u, hu, a, c⟩, b⟩
theorem fc_accper {r : Nat → Nat} (h : fb_B r) {S : Nat} (hS : S < 32) (T : Nat) : ∃ p K, ((p = 6 ∧ K = 16) ∨ (p = 4 ∧ K = 20) ∨ (p = 5 ∧ K = 5)) ∧ ∀ k, K ≤ k → (fb_m (fb_it r k S) T ↔ fb_m (fb_it r (k + p) S) T) := by
  obtain ⟨p, K, hp, H⟩ := fc_per (e := fun s t => (r s).testBit t = true)
  refine ⟨p, K, hp, fun k hk => ?_⟩
  rw [fc_acc h hS, fc_acc h hS]
  constructor
  · rintro ⟨u, t, hu, ht, a, b, c⟩
    exact ⟨u, t, hu, ht, a, b, (H k u t hk hu ht).mp c⟩
  · rintro ⟨u, t, hu, ht, a, b, c⟩
    exact ⟨u, t, hu, ht, a, b, (H k u t hk hu ht).mpr c⟩
theorem fc_chain {f g : Nat → Prop} {p q K L : Nat} (hp : ∀ k, K ≤ k → (f k ↔ f (k + p))) (hq : ∀ k, L ≤ k → (g k ↔ g (k + q)))
    (h1 : K + p + q ≤ 30) (h2 : L + p + q ≤ 30) (p0 : 0 < p) (q0 : 0 < q) (ag : ∀ k, k < 30 → (f k ↔ g k)) : f 30 ↔ g 30 := by
  have a1 := hp (30 - p) (by omega)
  have a2 := ag (30 - p) (by omega)
  have a3 := hq (30 - p - q) (by omega)
  have a4 := ag (30 - p - q) (by omega)
  have a5 := hp (30 - p - q) (by omega)
  have a6 := ag (30 - q) (by omega)
  have a7 := hq (30 - q) (by omega)
  rw [show 30 - p + p = 30 by omega] at a1
  rw [show 30 - p - q + q = 30 - p by omega] at a3
  rw [show 30 - p - q + p = 30 - q by omega] at a5
  rw [show 30 - q + q = 30 by omega] at a7
  rw [← a1, a2, ← a3, ← a4, a5, a6, a7]
theorem fc_30 {r r' : Nat → Nat} (h : fb_B r) (h' : fb_B r') {S S' : Nat} (hS : S < 32) (hS' : S' < 32) (T T' : Nat)
    (ag : ∀ k, k < 30 → (fb_m (fb_it r k S) T ↔ fb_m (fb_it r' k S') T')) : fb_m (fb_it r 30 S) T ↔ fb_m (fb_it r' 30 S') T' := by
  obtain ⟨p, K, hp, H⟩ := fc_accper h hS T
  obtain ⟨q, L, hq, H'⟩ := fc_accper h' hS' T'
  exact fc_chain H H' (by omega) (by omega) (by omega) (by omega) ag
end
section
/-! the walk through pairs, as both sides do it -/
def fd_up (f : Nat → Nat) (n q : Nat) : Nat → Nat := fun j => if j = n then q else f j
theorem fd_up_s (f : Nat → Nat) (n q : Nat) : fd_up f n q n = q := if_pos rfl
theorem fd_up_n {f : Nat → Nat} {n q j : Nat} (h : j < n) : fd_up f n q j = f j := if_neg (by omega)
abbrev fd_S : Type := Nat × (Nat → Nat) × (Nat → Nat) × (Nat → Nat)
def fd_in (q : Nat) (s : fd_S) : Prop := ∃ j, j < s.1 ∧ s.2.1 j = q
noncomputable def fd_nt (q w l : Nat) (s : fd_S) : fd_S :=
  @ite fd_S (fd_in q s) (Classical.propDecidable _) s (s.1 + 1, fd_up s.2.1 s.1 q, fd_up s.2.2.1 s.1 w, fd_up s.2.2.2 s.1 l)
theorem fd_nt_t {q w l : Nat} {s : fd_S} (h : fd_in q s) : fd_nt q w l s = s := by
  unfold fd_nt; exact if_pos h
theorem fd_nt_f {q w l : Nat} {s : fd_S} (h : ¬ fd_in q s) : fd_nt q w l s = (s.1 + 1, fd_up s.2.1 s.1 q, fd_up s.2.2.1 s.1 w, fd_up s.2.2.2 s.1 l) := by
  unfold fd_nt; exact if_neg h
noncomputable def fd_g0 (stp : Nat → Nat → Nat) (s : fd_S) (i : Nat) : fd_S := fd_nt (stp (s.2.1 i) 0) (2 * s.2.2.1 i) (s.2.2.2 i + 1) s
noncomputable def fd_g1 (stp : Nat → Nat → Nat) (s : fd_S) (i : Nat) : fd_S := fd_nt (stp (s.2.1 i) 1) (2 * s.2.2.1 i + 1) (s.2.2.2 i + 1) s
noncomputable def fd_bf (stp : Nat → Nat → Nat) (q0 : Nat) : Nat → fd_S
  | 0 => (1, fun _ => q0, fun _ => 1, fun _ => 0)
  | i + 1 => fd_g1 stp (fd_g0 stp (fd_bf stp q0 i) i) i
/-- the later state goes on from the earlier one -/
def fd_le (s t : fd_S) : Prop := s.1 ≤ t.1 ∧ (∀ j, j < s.1 → t.2.1 j = s.2.1 j ∧ t.2.2.1 j = s.2.2.1 j ∧ t.2.2.2 j = s.2.2.2 j)
theorem fd_le_rf (s : fd_S) : fd_le s s := ⟨Nat.le_refl _, fun _ _ => ⟨rfl, rfl, rfl⟩⟩
theorem fd_le_tr {s t u : fd_S} (h : fd_le s t) (g : fd_le t u) : fd_le s u :=
  ⟨Nat.le_trans h.1 g.1, fun j hj => ⟨((g.2 j (Nat.lt_of_lt_of_le hj h.1)).1).trans (h.2 j hj).1,
    ((g.2 j (Nat.lt_of_lt_of_le hj h.1)).2.1).trans (h.2 j hj).2.1, ((g.2 j (Nat.lt_of_lt_of_le hj h.1)).2.2).trans (h.2 j hj).2.2⟩⟩
theorem fd_le_nt (q w l : Nat) (s : fd_S) : fd_le s (fd_nt q w l s) := by
  by_cases h : fd_in q s
  · rw [fd_nt_t h]; exact fd_le_rf s
  · rw [fd_nt_f h]
    exact ⟨Nat.le_succ _, fun j hj => ⟨fd_up_n hj, fd_up_n hj, fd_up_n hj⟩⟩
theorem fd_in_le {s t : fd_S} (h : fd_le s t) {q : Nat} (hq : fd_in q s) : fd_in q t := by
  obtain ⟨j, hj, e⟩ := hq
  exact ⟨j, Nat.lt_of_lt_of_le hj h.1, ((h.2 j hj).1).trans e⟩
theorem fd_in_nt (q w l : Nat) (s : fd_S) : fd_in q (fd_nt q w l s) := by
  by_cases h : fd_in q s
  · rw [fd_nt_t h]; exact h
  · rw [fd_nt_f h]
    exact ⟨s.1, Nat.lt_succ_self _, fd_up_s _ _ _⟩
theorem fd_in_nt_iff (q w l : Nat) (s : fd_S) (x : Nat) : fd_in x (fd_nt q w l s) ↔ fd_in x s ∨ x = q := by
  constructor
  · intro hx
    by_cases h : fd_in q s
    · rw [fd_nt_t h] at hx; exact Or.inl hx
    · rw [fd_nt_f h] at hx
      obtain ⟨j, hj, e⟩ := hx
      have hj' : j < s.1 + 1 := hj
      by_cases hjn : j < s.1
      · have e' : fd_up s.2.1 s.1 q j = x := e
        rw [fd_up_n hjn] at e'
        exact Or.inl ⟨j, hjn, e'⟩
      · have : j = s.1 := by omega
        subst this
        have e' : fd_up s.2.1 s.1 q s.1 = x := e
        rw [fd_up_s] at e'
        exact Or.inr e'.symm
  · rintro (h | h)
    · exact fd_in_le (fd_le_nt q w l s) h
    · subst h; exact fd_in_nt x w l s
def fd_J (stp : Nat → Nat → Nat) (q0 : Nat) (s : fd_S) : Prop :=
  0 < s.1 ∧ (∀ j, j < s.1 → s.2.1 j < 1024) ∧ (∀ j k, j < s.1 → k < s.1 → s.2.1 j = s.2.1 k → j = k) ∧
  (∀ j, j < s.1 → 2 ^ s.2.2.2 j ≤ s.2.2.1 j ∧ s.2.2.1 j < 2 ^ (s.2.2.2 j + 1) ∧ s.2.2.2 j ≤ j) ∧
  (∀ j, j < s.1 → (j = 0 ∧ s.2.1 j = q0 ∧ s.2.2.1 j = 1) ∨ ∃ i l, i < j ∧ l < 2 ∧ s.2.1 j = stp (s.2.1 i) l ∧ s.2.2.1 j = 2 * s.2.2.1 i + l)
section
variable {stp : Nat → Nat → Nat} {q0 : Nat}
theorem fd_J_n {s : fd_S} (h : fd_J stp q0 s) : s.1 ≤ 1024 := by
  have nd : ((List.range s.1).map s.2.1).Nodup :=
    fa_nd_map _ _ (fun x hx y hy => h.2.2.1 x y (List.mem_range.mp hx) (List.mem_range.mp hy)) List.nodup_range
  have sb : (List.range s.1).map s.2.1 ⊆ List.range 1024 := by
    intro x hx
    obtain ⟨y, hy, e⟩ := List.mem_map.mp hx
    rw [List.mem_range, ← e]
    exact h.2.1 y (List.mem_range.mp hy)
  have := List.Nodup.length_le_of_subset nd sb
  simpa using this
theorem fd_J_0 (hq : q0 < 1024) : fd_J stp q0 (1, fun _ => q0, fun _ => 1, fun _ => 0) := by
  refine ⟨show 0 < 1 by decide, fun _ _ => hq, fun j k hj hk _ => ?_, fun j _ => ⟨show 2 ^ 0 ≤ 1 by decide, show 1 < 2 ^ (0 + 1) by decide, Nat.zero_le _⟩, fun j hj => Or.inl ⟨?_, rfl, rfl⟩⟩
  · have hj' : j < 1 := hj
    have hk' : k < 1 := hk
    omega
  · have hj' : j < 1 := hj
    omega
theorem fd_J_nt {s : fd_S} (h : fd_J stp q0 s) (hst : ∀ q l, stp q l < 1024) {i l : Nat} (hi : i < s.1) (hl : l < 2) :
    fd_J stp q0 (fd_nt (stp (s.2.1 i) l) (2 * s.2.2.1 i + l) (s.2.2.2 i + 1) s) := by
  by_cases hin : fd_in (stp (s.2.1 i) l) s
  · rw [fd_nt_t hin]; exact h
  · rw [fd_nt_f hin]
    obtain ⟨h0, h1, h2, h3, h4⟩ := h
    refine ⟨Nat.succ_pos _, fun j hj => ?_, fun j k hj hk e => ?_, fun j hj => ?_, fun j hj => ?_⟩
    · have hj' : j < s.1 + 1 := hj
      show fd_up s.2.1 s.1 _ j < 1024
      by_cases q : j < s.1
      · rw [fd_up_n q]; exact h1 j q
      · have : j = s.1 := by omega
        subst this
        rw [fd_up_s]; exact hst _ _
    · have hj' : j < s.1 + 1 := hj
      have hk' : k < s.1 + 1 := hk
      have e' : fd_up s.2.1 s.1 (stp (s.2.1 i) l) j = fd_up s.2.1 s.1 (stp (s.2.1 i) l) k := e
      by_cases q : j < s.1
      · rw [fd_up_n q] at e'
        by_cases q' : k < s.1
        · rw [fd_up_n q'] at e'
          exact h2 j k q q' e'
        · have : k = s.1 := by omega
          subst this
          rw [fd_up_s] at e'
          exact absurd ⟨j, q, e'⟩ hin
      · have : j = s.1 := by omega
        subst this
        rw [fd_up_s] at e'
        by_cases q' : k < s.1
        · rw [fd_up_n q'] at e'
          exact absurd ⟨k, q', e'.symm⟩ hin
        · omega
    · have hj' : j < s.1 + 1 := hj
      show 2 ^ fd_up s.2.2.2 s.1 _ j ≤ fd_up s.2.2.1 s.1 _ j ∧ fd_up s.2.2.1 s.1 _ j < 2 ^ (fd_up s.2.2.2 s.1 _ j + 1) ∧ fd_up s.2.2.2 s.1 _ j ≤ j
      by_cases q : j < s.1
      · rw [fd_up_n q, fd_up_n q]; exact h3 j q
      · have : j = s.1 := by omega
        subst this
        rw [fd_up_s, fd_up_s]
        obtain ⟨a, b, c⟩ := h3 i hi
        have p1 : 2 ^ (s.2.2.2 i + 1) = 2 * 2 ^ s.2.2.2 i := by rw [Nat.pow_succ]; omega
        have p2 : 2 ^ (s.2.2.2 i + 1 + 1) = 2 * 2 ^ (s.2.2.2 i + 1) := by rw [Nat.pow_succ]; omega
        refine ⟨by omega, by omega, by omega⟩
    · have hj' : j < s.1 + 1 := hj
      show (j = 0 ∧ fd_up s.2.1 s.1 _ j = q0 ∧ fd_up s.2.2.1 s.1 _ j = 1) ∨ ∃ i' l', i' < j ∧ l' < 2 ∧ fd_up s.2.1 s.1 _ j = stp (fd_up s.2.1 s.1 _ i') l' ∧ fd_up s.2.2.1 s.1 _ j = 2 * fd_up s.2.2.1 s.1 _ i' + l'
      by_cases q : j < s.1
      · rw [fd_up_n q, fd_up_n q]
        rcases h4 j q with g | ⟨i', l', g1, g2, g3, g4⟩
        · exact Or.inl g
        · refine Or.inr ⟨i', l', g1, g2, ?_, ?_⟩
          · rw [fd_up_n (by omega)]; exact g3
          · rw [fd_up_n (by omega)]; exact g4
      · have : j = s.1 := by omega
        subst this
        rw [fd_up_s, fd_up_s]
        refine Or.inr ⟨i, l, hi, hl, ?_, ?_⟩
        · rw [fd_up_n hi]
        · rw [fd_up_n hi]
theorem fd_J_g0 {s : fd_S} (h : fd_J stp q0 s) (hst : ∀ q l, stp q l < 1024) {i : Nat} (hi : i < s.1) : fd_J stp q0 (fd_g0 stp s i) :=
  fd_J_nt (l := 0) h hst hi (by omega)
theorem fd_J_g1 {s : fd_S} (h : fd_J stp q0 s) (hst : ∀ q l, stp q l < 1024) {i : Nat} (hi : i < s.1) : fd_J stp q0 (fd_g1 stp s i) :=
  fd_J_nt (l := 1) h hst hi (by omega)
theorem fd_le_g0 (s : fd_S) (i : Nat) : fd_le s (fd_g0 stp s i) := fd_le_nt _ _ _ _
theorem fd_le_g1 (s : fd_S) (i : Nat) : fd_le s (fd_g1 stp s i) := fd_le_nt _ _ _ _
theorem fd_le_bf (i : Nat) : fd_le (fd_bf stp q0 i) (fd_bf stp q0 (i + 1)) := fd_le_tr (fd_le_g0 _ i) (fd_le_g1 _ i)
theorem fd_le_far (i : Nat) : ∀ j, fd_le (fd_bf stp q0 i) (fd_bf stp q0 (i + j)) := by
  intro j
  induction j with
  | zero => exact fd_le_rf _
  | succ j ih => exact fd_le_tr ih (fd_le_bf (i + j))
/-- as long as there was something to work off -/
def fd_on (stp : Nat → Nat → Nat) (q0 i : Nat) : Prop := ∀ j, j < i → j < (fd_bf stp q0 j).1
theorem fd_J_bf (hq : q0 < 1024) (hst : ∀ q l, stp q l < 1024) : ∀ i, fd_on stp q0 i → fd_J stp q0 (fd_bf stp q0 i) := by
  intro i
  induction i with
  | zero => intro _; exact fd_J_0 hq
  | succ i ih =>
    intro ho
    have h := ih (fun j hj => ho j (by omega))
    have hi := ho i (by omega)
    exact fd_J_g1 (fd_J_g0 h hst hi) hst (Nat.lt_of_lt_of_le hi (fd_le_g0 (stp := stp) (fd_bf stp q0 i) i).1)
theorem fd_F (hq : q0 < 1024) (hst : ∀ q l, stp q l < 1024) : ∃ F, F ≤ 1024 ∧ (fd_bf stp q0 F).1 = F ∧ fd_on stp q0 F := by
  have ex : ∃ F, F ≤ 1024 ∧ (fd_bf stp q0 F).1 ≤ F ∧ fd_on stp q0 F := by
    by_cases h : fd_on stp q0 1024
    · exact ⟨1024, Nat.le_refl _, fd_J_n (fd_J_bf hq hst 1024 h), h⟩
    · have : ∃ j, j < 1024 ∧ ¬ j < (fd_bf stp q0 j).1 := by
        apply Classical.byContradiction
        intro hn
        exact h (fun j hj => Classical.byContradiction fun h2 => hn ⟨j, hj, h2⟩)
      obtain ⟨j, hj, hn⟩ := this
      obtain ⟨k, hk, hp, hl⟩ := fa_least (P := fun j => ¬ j < (fd_bf stp q0 j).1) hn
      exact ⟨k, by omega, by omega, fun i hi => Classical.byContradiction fun h2 => hl i hi h2⟩
  obtain ⟨F, h1, h2, h3⟩ := ex
  refine ⟨F, h1, Nat.le_antisymm h2 ?_, h3⟩
  cases F with
  | zero => exact Nat.zero_le _
  | succ F =>
    have a := h3 F (by omega)
    have b := (fd_le_bf (stp := stp) (q0 := q0) F).1
    omega
/-- all that is on the list at the end: closed by both letters -/
theorem fd_closed {F : Nat} (hF : (fd_bf stp q0 F).1 = F) {j : Nat} (hj : j < F) (ho : fd_on stp q0 F) (l : Nat) (hl : l < 2) :
    fd_in (stp ((fd_bf stp q0 F).2.1 j) l) (fd_bf stp q0 F) := by
  have hjn := ho j hj
  obtain ⟨t, ht⟩ : ∃ t, F = j + 1 + t := ⟨F - (j + 1), by omega⟩
  subst ht
  have L1 := fd_le_far (stp := stp) (q0 := q0) (j + 1) t
  have L0 := fd_le_bf (stp := stp) (q0 := q0) j
  have e := ((fd_le_tr L0 L1).2 j hjn).1
  rw [e]
  apply fd_in_le L1
  have g0 := fd_le_g0 (stp := stp) (fd_bf stp q0 j) j
  have g1 := fd_le_g1 (stp := stp) (fd_g0 stp (fd_bf stp q0 j) j) j
  have hl' : l = 0 ∨ l = 1 := by omega
  rcases hl' with rfl | rfl
  · exact fd_in_le g1 (fd_in_nt _ _ _ _)
  · have h2 : fd_in (stp ((fd_g0 stp (fd_bf stp q0 j) j).2.1 j) 1) (fd_g1 stp (fd_g0 stp (fd_bf stp q0 j) j) j) := fd_in_nt _ _ _ _
    have h3 : (fd_g0 stp (fd_bf stp q0 j) j).2.1 j = (fd_bf stp q0 j).2.1 j := (g0.2 j hjn).1
    rw [h3] at h2
    exact h2
/-- every pair of the list has what the first has and both letters keep -/
theorem fd_all {s : fd_S} (h : fd_J stp q0 s) (Q : Nat → Prop) (h0 : Q q0) (hs : ∀ q l, l < 2 → Q q → Q (stp q l)) : ∀ j, j < s.1 → Q (s.2.1 j) := by
  intro j
  induction j using Nat.strongRecOn with
  | _ j ih =>
    intro hj
    rcases h.2.2.2.2 j hj with ⟨_, e, _⟩ | ⟨i, l, hi, hl, e, _⟩
    · rw [e]; exact h0
    · rw [e]; exact hs _ l hl (ih i hi (by omega))
def fd_z (stp : Nat → Nat → Nat) (q0 : Nat) : Nat → Nat
  | 0 => q0
  | t + 1 => stp (fd_z stp q0 t) 0
theorem fd_zero {s : fd_S} (h : fd_J stp q0 s) : ∀ t j, j < s.1 → s.2.2.1 j = 2 ^ t → s.2.1 j = fd_z stp q0 t ∧ ∀ i, i < t → ∃ k, k < j ∧ s.2.1 k = fd_z stp q0 i := by
  intro t
  induction t with
  | zero =>
    intro j hj e
    refine ⟨?_, fun i hi => absurd hi (Nat.not_lt_zero _)⟩
    rcases h.2.2.2.2 j hj with ⟨_, e1, _⟩ | ⟨i, l, hi, hl, _, e2⟩
    · exact e1
    · have := (h.2.2.2.1 i (by omega)).1
      have p := Nat.two_pow_pos (s.2.2.2 i)
      rw [e2, Nat.pow_zero] at e
      omega
  | succ t ih =>
    intro j hj e
    rcases h.2.2.2.2 j hj with ⟨_, _, e1⟩ | ⟨i, l, hi, hl, e1, e2⟩
    · have p := Nat.two_pow_pos t
      rw [e1, Nat.pow_succ] at e
      omega
    · rw [e2, Nat.pow_succ] at e
      have hl0 : l = 0 := by omega
      have hw : s.2.2.1 i = 2 ^ t := by omega
      subst hl0
      obtain ⟨a, b⟩ := ih i (by omega) hw
      refine ⟨by rw [e1, a]; rfl, fun i' hi' => ?_⟩
      by_cases q : i' < t
      · obtain ⟨k, hk, ek⟩ := b i' q
        exact ⟨k, by omega, ek⟩
      · have : i' = t := by omega
        subst this
        exact ⟨i, hi, a⟩
end
end
section
/-! the number of kinds, found in several ways -/
def fe_nb (R : Nat → Prop) (E : Nat → Nat → Prop) (s : Nat) : Prop := R s ∧ ∀ t, t < s → R t → ¬ E t s
theorem fe_nb_congr {R R' : Nat → Prop} {E E' : Nat → Nat → Prop} {n : Nat} (hR : ∀ s, s < n → (R s ↔ R' s)) (hE : ∀ s t, s < n → t < n → R s → R t → (E s t ↔ E' s t)) :
    fa_ct (fe_nb R E) n = fa_ct (fe_nb R' E') n := by
  apply fa_ct_congr
  intro s hs
  constructor
  · rintro ⟨h, g⟩
    refine ⟨(hR s hs).mp h, fun t ht hr he => g t ht ((hR t (by omega)).mpr hr) ((hE t s (by omega) hs ((hR t (by omega)).mpr hr) h).mpr he)⟩
  · rintro ⟨h, g⟩
    refine ⟨(hR s hs).mpr h, fun t ht hr he => g t ht ((hR t (by omega)).mp hr) ((hE t s (by omega) hs hr ((hR s hs).mpr h)).mp he)⟩
/-- a list without doubles that holds just the values of M on R is as long as there are kinds -/
theorem fe_list {β : Type} {R : Nat → Prop} {M : Nat → β} {G : Nat → β} {n N : Nat}
    (hi : ∀ i j, i < n → j < n → G i = G j → i = j) (h1 : ∀ i, i < n → ∃ s, s < N ∧ R s ∧ G i = M s) (h2 : ∀ s, s < N → R s → ∃ i, i < n ∧ G i = M s) :
    n = fa_ct (fe_nb R (fun s t => M s = M t)) N := by
  have nd1 : ((List.range n).map G).Nodup :=
    fa_nd_map _ _ (fun x hx y hy => hi x y (List.mem_range.mp hx) (List.mem_range.mp hy)) List.nodup_range
  have nd2 : ((fa_fl (fe_nb R (fun s t => M s = M t)) N).map M).Nodup := by
    refine fa_nd_map _ _ (fun x hx y hy e => ?_) (fa_fl_nd N)
    have hx' := (fa_fl_mem N x).mp hx
    have hy' := (fa_fl_mem N y).mp hy
    rcases Nat.lt_trichotomy x y with h | h | h
    · exact absurd e (hy'.2.2 x h hx'.2.1)
    · exact h
    · exact absurd e.symm (hx'.2.2 y h hy'.2.1)
  have s1 : (List.range n).map G ⊆ (fa_fl (fe_nb R (fun s t => M s = M t)) N).map M := by
    intro g hg
    obtain ⟨i, hi', e⟩ := List.mem_map.mp hg
    obtain ⟨s, hs, hr, es⟩ := h1 i (List.mem_range.mp hi')
    obtain ⟨k, hk, hp, hl⟩ := fa_least (P := fun k => R k ∧ M k = M s) ⟨hr, rfl⟩
    refine List.mem_map.mpr ⟨k, (fa_fl_mem N k).mpr ⟨by omega, hp.1, fun t ht hrt het => hl t ht ⟨hrt, het.trans hp.2⟩⟩, ?_⟩
    rw [hp.2, ← es, e]
  have s2 : (fa_fl (fe_nb R (fun s t => M s = M t)) N).map M ⊆ (List.range n).map G := by
    intro g hg
    obtain ⟨s, hs, e⟩ := List.mem_map.mp hg
    have hs' := (fa_fl_mem N s).mp hs
    obtain ⟨i, hi', ei⟩ := h2 s hs'.1 hs'.2.1
    exact List.mem_map.mpr ⟨i, List.mem_range.mpr hi', ei.trans e⟩
  have a := List.Nodup.length_le_of_subset nd1 s1
  have b := List.Nodup.length_le_of_subset nd2 s2
  rw [List.length_map, List.length_map, List.length_range] at a b
  exact Nat.le_antisymm a b
/-- such a list is never longer than there are sets -/
theorem fe_short {β : Type} {M : Nat → β} {G : Nat → β} {n N : Nat}
    (hi : ∀ i j, i < n → j < n → G i = G j → i = j) (h1 : ∀ i, i < n → ∃ s, s < N ∧ G i = M s) : n ≤ N := by
  have nd1 : ((List.range n).map G).Nodup :=
    fa_nd_map _ _ (fun x hx y hy => hi x y (List.mem_range.mp hx) (List.mem_range.mp hy)) List.nodup_range
  have s1 : (List.range n).map G ⊆ (List.range N).map M := by
    intro g hg
    obtain ⟨i, hi', e⟩ := List.mem_map.mp hg
    obtain ⟨s, hs, es⟩ := h1 i (List.mem_range.mp hi')
    exact List.mem_map.mpr ⟨s, List.mem_range.mpr hs, by rw [← es, e]⟩
  have a := List.Nodup.length_le_of_subset nd1 s1
  rw [List.length_map, List.length_map, List.length_range, List.length_range] at a
  exact a
section
variable {r0 r1 q0 q1 : Nat → Nat} {e : Nat}
theorem fe_adj (B0 : fb_B r0) (B1 : fb_B r1) (c0 : fb_cv r0 q0) (c1 : fb_cv r1 q1) {S T l : Nat} (hS : S < 32) :
    fb_m T (fb_st r0 r1 S l) ↔ fb_m (fb_st q0 q1 T l) S := by
  rw [fb_m_cm T, fb_m_cm _ S]
  unfold fb_st
  split
  · exact fb_adj B0 c0 hS
  · exact fb_adj B1 c1 hS
/-- words told by the sets that the turned machine reaches -/
theorem fe_ner (B0 : fb_B r0) (B1 : fb_B r1) (c0 : fb_cv r0 q0) (c1 : fb_cv r1 q1) {S S' : Nat} (hS : S < 32) (hS' : S' < 32) :
    (∀ T, fa_R (fb_st q0 q1) e T → (fb_m T S ↔ fb_m T S')) ↔ fa_I (fb_st r0 r1) (fun S => fb_m S e) S S' := by
  constructor
  · intro h
    refine fa_I_of (fun x y => x < 32 ∧ y < 32 ∧ ∀ T, fa_R (fb_st q0 q1) e T → (fb_m T x ↔ fb_m T y)) ?_ ?_ ?_ S S' ⟨hS, hS', h⟩
    · rintro x y ⟨_, _, hh⟩
      show fb_m x e ↔ fb_m y e
      rw [fb_m_cm x, fb_m_cm y]
      exact hh e fa_R_b
    · rintro x y ⟨hx, hy, hh⟩
      refine ⟨fb_st_lt B0 B1 _ _, fb_st_lt B0 B1 _ _, fun T hT => ?_⟩
      rw [fe_adj B0 B1 c0 c1 hx, fe_adj B0 B1 c0 c1 hy]
      exact hh _ (fa_R_0 hT)
    · rintro x y ⟨hx, hy, hh⟩
      refine ⟨fb_st_lt B0 B1 _ _, fb_st_lt B0 B1 _ _, fun T hT => ?_⟩
      rw [fe_adj B0 B1 c0 c1 hx, fe_adj B0 B1 c0 c1 hy]
      exact hh _ (fa_R_1 hT)
  · intro h T hT
    have key : ∀ T, fa_R (fb_st q0 q1) e T → ∀ x y, x < 32 → y < 32 → fa_I (fb_st r0 r1) (fun S => fb_m S e) x y → (fb_m T x ↔ fb_m T y) := by
      refine fa_R_of (fun T => ∀ x y, x < 32 → y < 32 → fa_I (fb_st r0 r1) (fun S => fb_m S e) x y → (fb_m T x ↔ fb_m T y)) ?_ ?_ ?_
      · intro x y _ _ hh
        rw [fb_m_cm e, fb_m_cm e]
        exact fa_I_f hh
      · intro T hT x y hx hy hh
        rw [← fe_adj B0 B1 c0 c1 hx, ← fe_adj B0 B1 c0 c1 hy]
        exact hT _ _ (fb_st_lt B0 B1 _ _) (fb_st_lt B0 B1 _ _) (fa_I_s0 hh)
      · intro T hT x y hx hy hh
        rw [← fe_adj B0 B1 c0 c1 hx, ← fe_adj B0 B1 c0 c1 hy]
        exact hT _ _ (fb_st_lt B0 B1 _ _) (fb_st_lt B0 B1 _ _) (fa_I_s1 hh)
    exact key T hT S S' hS hS' h
end
/-- marks: what is marked is apart, what few letters tell apart is marked -/
def fe_mk (d : Nat → Nat → Nat) (f : Nat → Prop) (r c : Nat) (Q : Nat → Prop) : Prop :=
  (∀ x y, x < 32 → y < 32 → Q (32 * x + y) → ¬ fa_I d f x y) ∧ (∀ x y, x < 32 → y < 32 → ¬ fa_E d f r x y → Q (32 * x + y)) ∧
  (∀ x y, x < 32 → y < 32 → 32 * x + y < c → ¬ fa_E d f (r + 1) x y → Q (32 * x + y))
section
variable {d : Nat → Nat → Nat} {f : Nat → Prop}
theorem fe_mk_0 {Q : Nat → Prop} (h : ∀ x y, x < 32 → y < 32 → (Q (32 * x + y) ↔ ¬ (f x ↔ f y))) : fe_mk d f 0 0 Q :=
  ⟨fun x y hx hy hq hi => (h x y hx hy).mp hq (fa_I_f hi), fun x y hx hy hn => (h x y hx hy).mpr hn, fun _ _ _ _ hc => absurd hc (Nat.not_lt_zero _)⟩
theorem fe_mk_s {r x y : Nat} {Q Q' : Nat → Prop} (h : fe_mk d f r (32 * x + y) Q) (hx : x < 32) (hy : y < 32) (hc : ∀ x, x < 32 → d x 0 < 32 ∧ d x 1 < 32)
    (hn : ∀ z, z < 1024 → z ≠ 32 * x + y → (Q' z ↔ Q z)) (he : Q' (32 * x + y) ↔ Q (32 * x + y) ∨ Q (32 * d x 0 + d y 0) ∨ Q (32 * d x 1 + d y 1)) : fe_mk d f r (32 * x + y + 1) Q' := by
  obtain ⟨h1, h2, h3⟩ := h
  have up : ∀ z, z < 1024 → Q z → Q' z := by
    intro z hz hq
    by_cases q : z = 32 * x + y
    · subst q; exact he.mpr (Or.inl hq)
    · exact (hn z hz q).mpr hq
  refine ⟨fun x' y' hx' hy' hq hi => ?_, fun x' y' hx' hy' hn' => up _ (by omega) (h2 x' y' hx' hy' hn'), fun x' y' hx' hy' hlt hn' => ?_⟩
  · by_cases q : 32 * x' + y' = 32 * x + y
    · have ex : x' = x := by omega
      have ey : y' = y := by omega
      subst ex; subst ey
      rcases he.mp hq with g | g | g
      · exact h1 _ _ hx hy g hi
      · exact h1 _ _ (hc _ hx).1 (hc _ hy).1 g (fa_I_s0 hi)
      · exact h1 _ _ (hc _ hx).2 (hc _ hy).2 g (fa_I_s1 hi)
    · exact h1 _ _ hx' hy' ((hn _ (by omega) q).mp hq) hi
  · by_cases q : 32 * x' + y' = 32 * x + y
    · have ex : x' = x := by omega
      have ey : y' = y := by omega
      subst ex; subst ey
      apply he.mpr
      apply Classical.byContradiction
      intro hno
      simp only [not_or] at hno
      refine hn' ⟨Classical.byContradiction fun g => hno.1 (h2 _ _ hx hy g), Classical.byContradiction fun g => hno.2.1 (h2 _ _ (hc _ hx).1 (hc _ hy).1 g), Classical.byContradiction fun g => hno.2.2 (h2 _ _ (hc _ hx).2 (hc _ hy).2 g)⟩
    · exact up _ (by omega) (h3 x' y' hx' hy' (by omega) hn')
theorem fe_mk_r {r : Nat} {Q : Nat → Prop} (h : fe_mk d f r 1024 Q) : fe_mk d f (r + 1) 0 Q :=
  ⟨h.1, fun x y hx hy => h.2.2 x y hx hy (by omega), fun _ _ _ _ hc => absurd hc (Nat.not_lt_zero _)⟩
theorem fe_mk_big {r : Nat} {Q : Nat → Prop} (h : fe_mk d f r 0 Q) (hr : 31 ≤ r) (hc : ∀ x, x < 32 → d x 0 < 32 ∧ d x 1 < 32) {x y : Nat} (hx : x < 32) (hy : y < 32) : Q (32 * x + y) ↔ ¬ fa_I d f x y :=
  ⟨h.1 x y hx hy, fun hn => h.2.1 x y hx hy (fun he => hn (fa_E_big (by omega) hc r (by omega) x y hx hy he))⟩
theorem fe_mk_cl {Q : Nat → Prop} {r : Nat} (h : fe_mk d f r 0 Q) (hc : ∀ x, x < 32 → d x 0 < 32 ∧ d x 1 < 32)
    (hcl : ∀ x y, x < 32 → y < 32 → ¬ Q (32 * x + y) → ¬ Q (32 * d x 0 + d y 0) ∧ ¬ Q (32 * d x 1 + d y 1)) {x y : Nat} (hx : x < 32) (hy : y < 32) : Q (32 * x + y) ↔ ¬ fa_I d f x y := by
  refine ⟨h.1 x y hx hy, fun hn => Classical.byContradiction fun hq => hn ?_⟩
  refine fa_I_of (fun x y => x < 32 ∧ y < 32 ∧ ¬ Q (32 * x + y)) ?_ ?_ ?_ x y ⟨hx, hy, hq⟩
  · rintro x y ⟨hx, hy, hq⟩
    have : fa_E d f r x y := Classical.byContradiction fun g => hq (h.2.1 x y hx hy g)
    exact fa_E_dn r 0 x y (by rw [Nat.zero_add]; exact this)
  · rintro x y ⟨hx, hy, hq⟩
    exact ⟨(hc x hx).1, (hc y hy).1, (hcl x y hx hy hq).1⟩
  · rintro x y ⟨hx, hy, hq⟩
    exact ⟨(hc x hx).2, (hc y hy).2, (hcl x y hx hy hq).2⟩
end
/-- masks of sets -/
def fe_rc (d : Nat → Nat → Nat) (b r K : Nat) : Prop :=
  K < 2 ^ 32 ∧ (∀ i, K.testBit i = true → fa_R d b i) ∧ (∀ s, fa_rk d b r s → K.testBit s = true)
/-- while a round goes over the sets: from K, the sets below c done, into W -/
def fe_rw (d : Nat → Nat → Nat) (b c K W : Nat) : Prop :=
  W < 2 ^ 32 ∧ (∀ i, W.testBit i = true → fa_R d b i) ∧ (∀ i, K.testBit i = true → W.testBit i = true) ∧ (∀ s, s < c → K.testBit s = true → W.testBit (d s 0) = true ∧ W.testBit (d s 1) = true)
theorem fe_or_l {a b i : Nat} (h : a.testBit i = true) : (a ||| b).testBit i = true := fb_ol h
theorem fe_or_r {a b i : Nat} (h : b.testBit i = true) : (a ||| b).testBit i = true := fb_orr h
theorem fe_or_e {a b i : Nat} (h : (a ||| b).testBit i = true) : a.testBit i = true ∨ b.testBit i = true := by
  rw [Nat.testBit_or, Bool.or_eq_true] at h; exact h
theorem fe_2p32 {s : Nat} (h : s < 32) : 2 ^ s < 2 ^ 32 := Nat.pow_lt_pow_right (by omega) h
section
variable {d : Nat → Nat → Nat} {b : Nat}
theorem fe_rc_0 (hb : b < 32) : fe_rc d b 0 (2 ^ b) :=
  ⟨fe_2p32 hb, fun i hi => by rw [fb_2p] at hi; exact hi ▸ fa_R_b, fun s hs => by rw [show s = b from hs]; exact fb_2p.mpr rfl⟩
theorem fe_rw_0 {r K : Nat} (h : fe_rc d b r K) : fe_rw d b 0 K K :=
  ⟨h.1, h.2.1, fun _ g => g, fun _ hs => absurd hs (Nat.not_lt_zero _)⟩
theorem fe_rw_n {c K W : Nat} (h : fe_rw d b c K W) (hn : ¬ K.testBit c = true) : fe_rw d b (c + 1) K W :=
  ⟨h.1, h.2.1, h.2.2.1, fun s hs g => by
    by_cases q : s = c
    · subst q; exact absurd g hn
    · exact h.2.2.2 s (by omega) g⟩
theorem fe_rw_y {c K W : Nat} (h : fe_rw d b c K W) (hy : K.testBit c = true) (hc : d c 0 < 32 ∧ d c 1 < 32) : fe_rw d b (c + 1) K (W ||| 2 ^ d c 0 ||| 2 ^ d c 1) := by
  have hr : fa_R d b c := h.2.1 c (h.2.2.1 c hy)
  refine ⟨Nat.or_lt_two_pow (Nat.or_lt_two_pow h.1 (fe_2p32 hc.1)) (fe_2p32 hc.2), fun i hi => ?_, fun i hi => fe_or_l (fe_or_l (h.2.2.1 i hi)), fun s hs g => ?_⟩
  · rcases fe_or_e hi with hi | hi
    · rcases fe_or_e hi with hi | hi
      · exact h.2.1 i hi
      · rw [fb_2p] at hi; exact hi ▸ fa_R_0 hr
    · rw [fb_2p] at hi; exact hi ▸ fa_R_1 hr
  · by_cases q : s = c
    · subst q
      exact ⟨fe_or_l (fe_or_r (fb_2p.mpr rfl)), fe_or_r (fb_2p.mpr rfl)⟩
    · exact ⟨fe_or_l (fe_or_l (h.2.2.2 s (by omega) g).1), fe_or_l (fe_or_l (h.2.2.2 s (by omega) g).2)⟩
theorem fe_rw_r {r K W : Nat} (h : fe_rc d b r K) (g : fe_rw d b 32 K W) (hc : ∀ x, x < 32 → d x 0 < 32 ∧ d x 1 < 32) (hb : b < 32) : fe_rc d b (r + 1) W := by
  refine ⟨g.1, g.2.1, fun s hs => ?_⟩
  rcases hs with hs | ⟨t, ht, e⟩
  · exact g.2.2.1 s (h.2.2 s hs)
  · have := g.2.2.2 t (fa_rk_lt hc hb r t ht) (h.2.2 t ht)
    rcases e with e | e
    · rw [e]; exact this.1
    · rw [e]; exact this.2
theorem fe_rc_st {r K : Nat} (h : fe_rc d b r K) (g : fe_rw d b 32 K K) (hc : ∀ x, x < 32 → d x 0 < 32 ∧ d x 1 < 32) (hb : b < 32) : ∀ s, K.testBit s = true ↔ fa_R d b s := by
  intro s
  refine ⟨h.2.1 s, fun hr => ?_⟩
  have hb' : fa_rk d b r b := by
    have := fa_mono_far (N := 32) (fa_rk d b) (fun _ _ _ h => Or.inl h) r 0 b hb rfl
    rw [Nat.zero_add] at this
    exact this
  have := fa_R_of (d := d) (b := b) (fun s => s < 32 ∧ K.testBit s = true) ⟨hb, h.2.2 b hb'⟩
    (fun s hs => ⟨(hc s hs.1).1, (g.2.2.2 s hs.1 hs.2).1⟩) (fun s hs => ⟨(hc s hs.1).2, (g.2.2.2 s hs.1 hs.2).2⟩) s hr
  exact this.2
theorem fe_rc_big {r K : Nat} (h : fe_rc d b r K) (hr : 31 ≤ r) (hc : ∀ x, x < 32 → d x 0 < 32 ∧ d x 1 < 32) (hb : b < 32) : ∀ s, K.testBit s = true ↔ fa_R d b s :=
  fun s => ⟨h.2.1 s, fun hs => h.2.2 s (fa_R_big hc hb r (by omega) hs)⟩
end
theorem fe_ext32 {K L : Nat} (hK : K < 2 ^ 32) (hL : L < 2 ^ 32) (h : ∀ t, t < 32 → (K.testBit t = true ↔ L.testBit t = true)) : K = L := by
  apply Nat.eq_of_testBit_eq
  intro i
  by_cases hi : i < 32
  · have := h i hi
    cases hs : K.testBit i <;> cases ht : L.testBit i <;> simp_all
  · have p : 2 ^ 32 ≤ 2 ^ i := Nat.pow_le_pow_right (by omega) (by omega)
    rw [Nat.testBit_lt_two_pow (Nat.lt_of_lt_of_le hK p), Nat.testBit_lt_two_pow (Nat.lt_of_lt_of_le hL p)]
end
section
/-! both machines' sets side by side; sorting into kinds; merging; the walk's ends -/
def ff_r (a : Nat → Nat) (m l s : Nat) : Nat := a (10 * m + 2 * s + l)
def ff_st (a : Nat → Nat) (m : Nat) : Nat → Nat → Nat := fb_st (ff_r a m 0) (ff_r a m 1)
def ff_d (a : Nat → Nat) (x l : Nat) : Nat := 32 * (x / 32) + ff_st a (x / 32) (x % 32) l
def ff_g (e : Nat → Nat) (m S : Nat) : Prop := fb_m S (e m)
def ff_f (e : Nat → Nat) (x : Nat) : Prop := ff_g e (x / 32) (x % 32)
def ff_ok (a : Nat → Nat) : Prop := ∀ i, i < 20 → a i < 32
def ff_cv (a a' : Nat → Nat) : Prop := ∀ m l, m < 2 → l < 2 → fb_cv (ff_r a m l) (ff_r a' m l)
theorem ff_B {a : Nat → Nat} (h : ff_ok a) {m l : Nat} (hm : m < 2) (hl : l < 2) : fb_B (ff_r a m l) :=
  fun s hs => h _ (by omega)
theorem ff_st_lt {a : Nat → Nat} (h : ff_ok a) {m : Nat} (hm : m < 2) (S l : Nat) : ff_st a m S l < 32 :=
  fb_st_lt (ff_B h hm (by omega)) (ff_B h hm (by omega)) S l
theorem ff_st_c {a : Nat → Nat} (h : ff_ok a) {m : Nat} (hm : m < 2) : ∀ x, x < 32 → ff_st a m x 0 < 32 ∧ ff_st a m x 1 < 32 :=
  fun x _ => ⟨ff_st_lt h hm x 0, ff_st_lt h hm x 1⟩
theorem ff_d_lt {a : Nat → Nat} (h : ff_ok a) {x : Nat} (hx : x < 64) (l : Nat) : ff_d a x l < 64 := by
  have := ff_st_lt h (show x / 32 < 2 by omega) (x % 32) l
  unfold ff_d; omega
theorem ff_d_c {a : Nat → Nat} (h : ff_ok a) : ∀ x, x < 64 → ff_d a x 0 < 64 ∧ ff_d a x 1 < 64 :=
  fun _ hx => ⟨ff_d_lt h hx 0, ff_d_lt h hx 1⟩
theorem ff_d_m {a : Nat → Nat} {m s : Nat} (l : Nat) (hs : s < 32) : ff_d a (32 * m + s) l = 32 * m + ff_st a m s l := by
  unfold ff_d; rw [show (32 * m + s) / 32 = m by omega, show (32 * m + s) % 32 = s by omega]
theorem ff_f_m {e : Nat → Nat} {m s : Nat} (hs : s < 32) : ff_f e (32 * m + s) ↔ ff_g e m s := by
  unfold ff_f; rw [show (32 * m + s) / 32 = m by omega, show (32 * m + s) % 32 = s by omega]
theorem ff_E {a e : Nat → Nat} (h : ff_ok a) {m : Nat} (hm : m < 2) : ∀ k s t, s < 32 → t < 32 → (fa_E (ff_d a) (ff_f e) k (32 * m + s) (32 * m + t) ↔ fa_E (ff_st a m) (ff_g e m) k s t) := by
  intro k
  induction k with
  | zero =>
    intro s t hs ht
    show (ff_f e (32 * m + s) ↔ ff_f e (32 * m + t)) ↔ (ff_g e m s ↔ ff_g e m t)
    rw [ff_f_m hs, ff_f_m ht]
  | succ k ih =>
    intro s t hs ht
    show (_ ∧ fa_E (ff_d a) (ff_f e) k (ff_d a (32 * m + s) 0) (ff_d a (32 * m + t) 0) ∧ fa_E (ff_d a) (ff_f e) k (ff_d a (32 * m + s) 1) (ff_d a (32 * m + t) 1)) ↔ _
    rw [ff_d_m 0 hs, ff_d_m 0 ht, ff_d_m 1 hs, ff_d_m 1 ht, ih s t hs ht, ih _ _ (ff_st_lt h hm _ _) (ff_st_lt h hm _ _), ih _ _ (ff_st_lt h hm _ _) (ff_st_lt h hm _ _)]
    exact Iff.rfl
theorem ff_I {a e : Nat → Nat} (h : ff_ok a) {m : Nat} (hm : m < 2) {s t : Nat} (hs : s < 32) (ht : t < 32) : fa_I (ff_d a) (ff_f e) (32 * m + s) (32 * m + t) ↔ fa_I (ff_st a m) (ff_g e m) s t :=
  ⟨fun g k => (ff_E h hm k s t hs ht).mp (g k), fun g k => (ff_E h hm k s t hs ht).mpr (g k)⟩
/-- the number that every engine finds -/
noncomputable def ff_N (a b e : Nat → Nat) (m : Nat) : Nat := fa_ct (fe_nb (fa_R (ff_st a m) (b m)) (fa_I (ff_st a m) (ff_g e m))) 32
/-! sorting into kinds -/
def fg_cl (d : Nat → Nat → Nat) (f : Nat → Prop) (r : Nat) (cl : Nat → Nat) : Prop :=
  (∀ x, x < 64 → cl x < 64) ∧ ∀ x y, x < 64 → y < 64 → (cl x = cl y ↔ fa_E d f r x y)
def fg_sg (d : Nat → Nat → Nat) (cl : Nat → Nat) (x : Nat) : Nat := (cl x * 64 + cl (d x 0)) * 64 + cl (d x 1)
def fg_fn (d : Nat → Nat → Nat) (f : Nat → Prop) (r c n : Nat) (fn : Nat → Nat) : Prop :=
  n = fa_ct (fa_rep d f (r + 1)) c ∧ (∀ x, x < c → fn x < n) ∧ ∀ x y, x < c → y < c → (fn x = fn y ↔ fa_E d f (r + 1) x y)
section
variable {d : Nat → Nat → Nat} {f : Nat → Prop}
theorem fg_sg_i {a b c a' b' c' : Nat} (hb : b < 64) (hc : c < 64) (hb' : b' < 64) (hc' : c' < 64) : (a * 64 + b) * 64 + c = (a' * 64 + b') * 64 + c' ↔ a = a' ∧ b = b' ∧ c = c' := by
  constructor
  · intro h; refine ⟨by omega, by omega, by omega⟩
  · rintro ⟨rfl, rfl, rfl⟩; rfl
theorem fg_sg_E {r : Nat} {cl : Nat → Nat} (h : fg_cl d f r cl) (hc : ∀ x, x < 64 → d x 0 < 64 ∧ d x 1 < 64) {x y : Nat} (hx : x < 64) (hy : y < 64) :
    fg_sg d cl x = fg_sg d cl y ↔ fa_E d f (r + 1) x y := by
  unfold fg_sg
  rw [fg_sg_i (h.1 _ (hc x hx).1) (h.1 _ (hc x hx).2) (h.1 _ (hc y hy).1) (h.1 _ (hc y hy).2), h.2 x y hx hy, h.2 _ _ (hc x hx).1 (hc y hy).1, h.2 _ _ (hc x hx).2 (hc y hy).2]
  exact Iff.rfl
theorem fg_sg_lt {r : Nat} {cl : Nat → Nat} (h : fg_cl d f r cl) (hc : ∀ x, x < 64 → d x 0 < 64 ∧ d x 1 < 64) {x : Nat} (hx : x < 64) : fg_sg d cl x < 262144 := by
  have h1 := h.1 x hx
  have h2 := h.1 _ (hc x hx).1
  have h3 := h.1 _ (hc x hx).2
  unfold fg_sg
  omega
theorem fg_fn_0 (r : Nat) (fn : Nat → Nat) : fg_fn d f r 0 0 fn :=
  ⟨rfl, fun _ h => absurd h (Nat.not_lt_zero _), fun _ _ h => absurd h (Nat.not_lt_zero _)⟩
theorem fg_fn_new {r c n : Nat} {fn : Nat → Nat} (h : fg_fn d f r c n fn) (hr : fa_rep d f (r + 1) c) : fg_fn d f r (c + 1) (n + 1) (fd_up fn c n) := by
  obtain ⟨h1, h2, h3⟩ := h
  refine ⟨by rw [fa_ct_t hr, ← h1], fun x hx => ?_, fun x y hx hy => ?_⟩
  · by_cases q : x = c
    · subst q; rw [fd_up_s]; omega
    · rw [fd_up_n (by omega)]; have := h2 x (by omega); omega
  · by_cases q : x = c
    · subst q
      by_cases q' : y = x
      · subst q'; exact ⟨fun _ => fa_E_rf _ _, fun _ => rfl⟩
      · rw [fd_up_s, fd_up_n (by omega)]
        have := h2 y (by omega)
        exact ⟨fun e => by omega, fun e => absurd (fa_E_sm _ _ _ e) (hr y (by omega))⟩
    · by_cases q' : y = c
      · subst q'
        rw [fd_up_s, fd_up_n (by omega)]
        have := h2 x (by omega)
        exact ⟨fun e => by omega, fun e => absurd e (hr x (by omega))⟩
      · rw [fd_up_n (by omega), fd_up_n (by omega)]
        exact h3 x y (by omega) (by omega)
theorem fg_fn_old {r c n k : Nat} {fn : Nat → Nat} (h : fg_fn d f r c n fn) (hk : k < c) (he : fa_E d f (r + 1) k c) : fg_fn d f r (c + 1) n (fd_up fn c (fn k)) := by
  obtain ⟨h1, h2, h3⟩ := h
  refine ⟨by rw [fa_ct_f (fun hr => hr k hk he)]; exact h1, fun x hx => ?_, fun x y hx hy => ?_⟩
  · by_cases q : x = c
    · subst q; rw [fd_up_s]; exact h2 k hk
    · rw [fd_up_n (by omega)]; exact h2 x (by omega)
  · by_cases q : x = c
    · subst q
      by_cases q' : y = x
      · subst q'; exact ⟨fun _ => fa_E_rf _ _, fun _ => rfl⟩
      · rw [fd_up_s, fd_up_n (by omega), h3 k y hk (by omega)]
        exact ⟨fun e => fa_E_tr _ _ _ _ (fa_E_sm _ _ _ he) e, fun e => fa_E_tr _ _ _ _ he e⟩
    · by_cases q' : y = c
      · subst q'
        rw [fd_up_s, fd_up_n (by omega), h3 x k (by omega) hk]
        exact ⟨fun e => fa_E_tr _ _ _ _ e he, fun e => fa_E_tr _ _ _ _ e (fa_E_sm _ _ _ he)⟩
      · rw [fd_up_n (by omega), fd_up_n (by omega)]
        exact h3 x y (by omega) (by omega)
theorem fg_fn_end {r n : Nat} {fn : Nat → Nat} (h : fg_fn d f r 64 n fn) : fg_cl d f (r + 1) fn := by
  refine ⟨fun x hx => ?_, h.2.2⟩
  have a := h.2.1 x hx
  have b := fa_ct_bd (p := fa_rep d f (r + 1)) 64
  have c := h.1
  omega
def fg_fin (d : Nat → Nat → Nat) (f : Nat → Prop) (cl : Nat → Nat) : Prop :=
  (∀ x, x < 64 → cl x < 64) ∧ ∀ x y, x < 64 → y < 64 → (cl x = cl y ↔ fa_I d f x y)
theorem fg_brk {r n : Nat} {fn : Nat → Nat} (hc : ∀ x, x < 64 → d x 0 < 64 ∧ d x 1 < 64) (h : fg_fn d f r 64 n fn) (hr : n = fa_ct (fa_rep d f r) 64) : fg_fin d f fn := by
  have e := fg_fn_end h
  refine ⟨e.1, fun x y hx hy => ?_⟩
  rw [e.2 x y hx hy]
  refine ⟨fun g => fa_E_ct hc (by rw [← hr, h.1]) x y hx hy g.1, fun g => g _⟩
theorem fg_big {cl : Nat → Nat} {r : Nat} (hr : 63 ≤ r) (hc : ∀ x, x < 64 → d x 0 < 64 ∧ d x 1 < 64) (h : fg_cl d f r cl) : fg_fin d f cl := by
  refine ⟨h.1, fun x y hx hy => ?_⟩
  rw [h.2 x y hx hy]
  exact ⟨fun g => fa_E_big (by omega) hc r (by omega) x y hx hy g, fun g => g _⟩
theorem fg_n1 {r n : Nat} {fn : Nat → Nat} (h : fg_fn d f r 64 n fn) : 1 ≤ n ∧ n ≤ 64 := by
  rw [h.1]
  exact ⟨fa_ct_pos (i := 0) (by omega) (fun i hi => absurd hi (Nat.not_lt_zero _)), fa_ct_bd 64⟩
/-! merging -/
def fh_v (d : Nat → Nat → Nat) (f : Nat → Prop) (x0 y0 n : Nat) (ld mo mt : Nat → Nat) : Prop :=
  (∀ x, x < 64 → ld x < 64 ∧ ld (ld x) = ld x) ∧ fa_ct (fun x => ld x = x) 64 + n ≤ 64 ∧
  (∀ i, i < n → mo i < 64 ∧ mt i < 64 ∧ ld (mo i) = ld (mt i)) ∧
  (∀ Q : Nat → Nat → Prop, (∀ x, Q x x) → (∀ x y, Q x y → Q y x) → (∀ x y z, Q x y → Q y z → Q x z) → (∀ i, i < n → Q (mo i) (mt i)) → ∀ x y, x < 64 → y < 64 → ld x = ld y → Q x y) ∧
  (∀ i, i < n → fa_I d f x0 y0 → fa_I d f (mo i) (mt i))
def fh_ld (ld : Nat → Nat) (l k : Nat) : Nat → Nat := fun x => if ld x = l then k else ld x
theorem fh_v_0 (x0 y0 : Nat) (mo mt : Nat → Nat) : fh_v d f x0 y0 0 (fun x => x) mo mt := by
  refine ⟨fun x hx => ⟨hx, rfl⟩, ?_, fun i hi => absurd hi (Nat.not_lt_zero _), ?_, fun i hi => absurd hi (Nat.not_lt_zero _)⟩
  · exact fa_ct_bd 64
  · intro Q h1 _ _ _ x y _ _ e
    have e' : x = y := e
    subst e'; exact h1 x
theorem fh_v_n {x0 y0 n : Nat} {ld mo mt : Nat → Nat} (h : fh_v d f x0 y0 n ld mo mt) : n < 64 := by
  have a := h.1 0 (by omega)
  have b : 1 ≤ fa_ct (fun x => ld x = x) 64 := fa_ct_pos a.1 a.2
  have c := h.2.1
  omega
theorem fh_v_eq {x0 y0 n : Nat} {ld ld' mo mo' mt mt' : Nat → Nat} (h : fh_v d f x0 y0 n ld mo mt) (h1 : ∀ x, x < 64 → ld' x = ld x) (h2 : ∀ i, i < n → mo' i = mo i) (h3 : ∀ i, i < n → mt' i = mt i) : fh_v d f x0 y0 n ld' mo' mt' := by
  obtain ⟨g1, g2, g3, g4, g5⟩ := h
  refine ⟨fun x hx => ?_, ?_, fun i hi => ?_, fun Q a b c hq x y hx hy e => ?_, fun i hi hI => ?_⟩
  · rw [h1 x hx, h1 _ (g1 x hx).1]; exact g1 x hx
  · rw [fa_ct_congr (q := fun x => ld x = x) (fun i hi => by rw [h1 i hi])]; exact g2
  · rw [h2 i hi, h3 i hi, h1 _ (g3 i hi).1, h1 _ (g3 i hi).2.1]; exact g3 i hi
  · refine g4 Q a b c (fun i hi => ?_) x y hx hy (by rw [← h1 x hx, ← h1 y hy]; exact e)
    have := hq i hi
    rw [h2 i hi, h3 i hi] at this; exact this
  · rw [h2 i hi, h3 i hi]; exact g5 i hi hI
theorem fh_merge {x0 y0 n : Nat} {ld mo mt : Nat → Nat} (h : fh_v d f x0 y0 n ld mo mt) {p q : Nat} (hp : p < 64) (hq : q < 64) (hI : fa_I d f x0 y0 → fa_I d f p q)
    (hne : ld p ≠ ld q) : fh_v d f x0 y0 (n + 1) (fh_ld ld (ld p) (ld q)) (fd_up mo n p) (fd_up mt n q) := by
  obtain ⟨g1, g2, g3, g4, g5⟩ := h
  have lt : ∀ x, ld x = ld p → fh_ld ld (ld p) (ld q) x = ld q := fun x e => if_pos e
  have lf : ∀ x, ld x ≠ ld p → fh_ld ld (ld p) (ld q) x = ld x := fun x e => if_neg e
  refine ⟨fun x hx => ?_, ?_, fun i hi => ?_, fun Q a b c hQ x y hx hy e => ?_, fun i hi hh => ?_⟩
  · by_cases k : ld x = ld p
    · rw [lt x k, lf (ld q) (by rw [(g1 q hq).2]; exact Ne.symm hne)]
      exact ⟨(g1 q hq).1, (g1 q hq).2⟩
    · rw [lf x k, lf (ld x) (by rw [(g1 x hx).2]; exact k)]
      exact g1 x hx
  · have : fa_ct (fun x => fh_ld ld (ld p) (ld q) x = x) 64 < fa_ct (fun x => ld x = x) 64 := by
      refine fa_ct_lt 64 (fun x hx e => ?_) (ld p) (g1 p hp).1 (g1 p hp).2 (fun e => ?_)
      · by_cases k : ld x = ld p
        · have e' : fh_ld ld (ld p) (ld q) x = x := e
          rw [lt x k] at e'
          rw [← e', (g1 q hq).2] at k
          exact absurd k.symm hne
        · have e' : fh_ld ld (ld p) (ld q) x = x := e
          rw [lf x k] at e'; exact e'
      · have e' : fh_ld ld (ld p) (ld q) (ld p) = ld p := e
        rw [lt _ (g1 p hp).2] at e'
        exact hne e'.symm
    omega
  · by_cases k : i < n
    · rw [fd_up_n k, fd_up_n k]
      refine ⟨(g3 i k).1, (g3 i k).2.1, ?_⟩
      unfold fh_ld; rw [(g3 i k).2.2]
    · have : i = n := by omega
      subst this
      rw [fd_up_s, fd_up_s]
      exact ⟨hp, hq, by rw [lt p rfl, lf q (Ne.symm hne)]⟩
  · have hQ' : ∀ i, i < n → Q (mo i) (mt i) := by
      intro i hi
      have := hQ i (by omega)
      rw [fd_up_n hi, fd_up_n hi] at this; exact this
    have hpq : Q p q := by
      have := hQ n (by omega)
      rw [fd_up_s, fd_up_s] at this; exact this
    have G := g4 Q a b c hQ'
    by_cases k : ld x = ld p
    · by_cases k' : ld y = ld p
      · exact G x y hx hy (k.trans k'.symm)
      · rw [lt x k, lf y k'] at e
        exact c _ _ _ (G x p hx hp k) (c _ _ _ hpq (G q y hq hy e))
    · by_cases k' : ld y = ld p
      · rw [lf x k, lt y k'] at e
        exact c _ _ _ (G x q hx hq e) (c _ _ _ (b _ _ hpq) (G p y hp hy k'.symm))
      · rw [lf x k, lf y k'] at e
        exact G x y hx hy e
  · by_cases k : i < n
    · rw [fd_up_n k, fd_up_n k]; exact g5 i k hh
    · have : i = n := by omega
      subst this
      rw [fd_up_s, fd_up_s]; exact hI hh
/-- what has been worked off -/
def fh_p (d : Nat → Nat → Nat) (f : Nat → Prop) (i : Nat) (ld mo mt : Nat → Nat) : Prop :=
  ∀ j, j < i → (f (mo j) ↔ f (mt j)) ∧ ld (d (mo j) 0) = ld (d (mt j) 0) ∧ ld (d (mo j) 1) = ld (d (mt j) 1)
theorem fh_end {x0 y0 n : Nat} {ld mo mt : Nat → Nat} (hc : ∀ x, x < 64 → d x 0 < 64 ∧ d x 1 < 64) (h : fh_v d f x0 y0 n ld mo mt) (hp : fh_p d f n ld mo mt) (hx : x0 < 64) (hy : y0 < 64) (h0 : ld x0 = ld y0) : fa_I d f x0 y0 := by
  have key := h.2.2.2.1 (fun x y => (f x ↔ f y) ∧ ld (d x 0) = ld (d y 0) ∧ ld (d x 1) = ld (d y 1)) (fun x => ⟨Iff.rfl, rfl, rfl⟩)
    (fun x y g => ⟨g.1.symm, g.2.1.symm, g.2.2.symm⟩) (fun x y z g k => ⟨g.1.trans k.1, g.2.1.trans k.2.1, g.2.2.trans k.2.2⟩) hp
  refine fa_I_of (fun x y => x < 64 ∧ y < 64 ∧ ld x = ld y) ?_ ?_ ?_ x0 y0 ⟨hx, hy, h0⟩
  · rintro x y ⟨hx, hy, e⟩; exact (key x y hx hy e).1
  · rintro x y ⟨hx, hy, e⟩; exact ⟨(hc x hx).1, (hc y hy).1, (key x y hx hy e).2.1⟩
  · rintro x y ⟨hx, hy, e⟩; exact ⟨(hc x hx).2, (hc y hy).2, (key x y hx hy e).2.2⟩
end
/-! the walk over pairs of both machines -/
def fi_s (a : Nat → Nat) (q l : Nat) : Nat := 32 * ff_st a 0 (q / 32) l + ff_st a 1 (q % 32) l
theorem fi_s_lt {a : Nat → Nat} (h : ff_ok a) (q l : Nat) : fi_s a q l < 1024 := by
  have h0 := ff_st_lt h (show 0 < 2 by omega) (q / 32) l
  have h1 := ff_st_lt h (show 1 < 2 by omega) (q % 32) l
  unfold fi_s; omega
def fi_q (b : Nat → Nat) : Nat := 32 * b 0 + b 1
def fi_EQ (a b e : Nat → Nat) : Prop := fa_I (ff_d a) (ff_f e) (b 0) (32 + b 1)
def fi_x (e : Nat → Nat) (q : Nat) : Prop := ff_g e 0 (q / 32)
def fi_y (e : Nat → Nat) (q : Nat) : Prop := ff_g e 1 (q % 32)
theorem fi_none {a b e : Nat → Nat} (ha : ff_ok a) (hb0 : b 0 < 32) (hb1 : b 1 < 32) {F : Nat} (hF : (fd_bf (fi_s a) (fi_q b) F).1 = F) (ho : fd_on (fi_s a) (fi_q b) F) :
    (∀ j, j < F → (fi_x e ((fd_bf (fi_s a) (fi_q b) F).2.1 j) ↔ fi_y e ((fd_bf (fi_s a) (fi_q b) F).2.1 j))) ↔ fi_EQ a b e := by
  have hq : fi_q b < 1024 := by unfold fi_q; omega
  have J := fd_J_bf hq (fi_s_lt ha) F ho
  have fx : ∀ q, q < 1024 → (ff_f e (q / 32) ↔ fi_x e q) := by
    intro q hq
    have := ff_f_m (e := e) (m := 0) (s := q / 32) (by omega)
    rw [Nat.mul_zero, Nat.zero_add] at this
    exact this
  have fy : ∀ q, q < 1024 → (ff_f e (32 + q % 32) ↔ fi_y e q) := by
    intro q hq
    exact ff_f_m (e := e) (m := 1) (s := q % 32) (by omega)
  have dx : ∀ q l, q < 1024 → ff_d a (q / 32) l = fi_s a q l / 32 := by
    intro q l hq
    have := ff_d_m (a := a) (m := 0) (s := q / 32) l (by omega)
    rw [Nat.mul_zero, Nat.zero_add, Nat.zero_add] at this
    rw [this]
    have h1 := ff_st_lt ha (show 1 < 2 by omega) (q % 32) l
    unfold fi_s; omega
  have dy : ∀ q l, q < 1024 → ff_d a (32 + q % 32) l = 32 + fi_s a q l % 32 := by
    intro q l hq
    have := ff_d_m (a := a) (m := 1) (s := q % 32) l (by omega)
    rw [show 32 * 1 = 32 from rfl] at this
    rw [this]
    have h1 := ff_st_lt ha (show 1 < 2 by omega) (q % 32) l
    unfold fi_s; omega
  constructor
  · intro h
    refine fa_I_of (fun x y => ∃ q, q < 1024 ∧ fd_in q (fd_bf (fi_s a) (fi_q b) F) ∧ x = q / 32 ∧ y = 32 + q % 32) ?_ ?_ ?_ (b 0) (32 + b 1) ⟨fi_q b, hq, ?_, ?_, ?_⟩
    · rintro x y ⟨q, hq, ⟨j, hj, e1⟩, rfl, rfl⟩
      rw [fx q hq, fy q hq, ← e1]
      exact h j (by omega)
    · rintro x y ⟨q, hq, ⟨j, hj, e1⟩, rfl, rfl⟩
      refine ⟨fi_s a q 0, fi_s_lt ha _ _, ?_, dx q 0 hq, dy q 0 hq⟩
      have := fd_closed hF (show j < F by omega) ho 0 (by omega)
      rw [e1] at this; exact this
    · rintro x y ⟨q, hq, ⟨j, hj, e1⟩, rfl, rfl⟩
      refine ⟨fi_s a q 1, fi_s_lt ha _ _, ?_, dx q 1 hq, dy q 1 hq⟩
      have := fd_closed hF (show j < F by omega) ho 1 (by omega)
      rw [e1] at this; exact this
    · have := fd_le_far (stp := fi_s a) (q0 := fi_q b) 0 F
      rw [Nat.zero_add] at this
      exact fd_in_le this ⟨0, Nat.one_pos, rfl⟩
    · unfold fi_q; omega
    · unfold fi_q; omega
  · intro h j hj
    have key := fd_all J (fun q => q < 1024 ∧ fa_I (ff_d a) (ff_f e) (q / 32) (32 + q % 32)) ⟨hq, by
      rw [show fi_q b / 32 = b 0 by unfold fi_q; omega, show fi_q b % 32 = b 1 by unfold fi_q; omega]; exact h⟩ (fun q l hl g => ?_) j (by omega)
    · rw [← fx _ key.1, ← fy _ key.1]
      exact fa_I_f key.2
    · refine ⟨fi_s_lt ha _ _, ?_⟩
      rw [← dx q l g.1, ← dy q l g.1]
      have hl' : l = 0 ∨ l = 1 := by omega
      rcases hl' with rfl | rfl
      · exact fa_I_s0 g.2
      · exact fa_I_s1 g.2
theorem fi_z {a b : Nat → Nat} (ha : ff_ok a) (hb0 : b 0 < 32) (hb1 : b 1 < 32) : ∀ t, fd_z (fi_s a) (fi_q b) t = 32 * fb_it (ff_r a 0 0) t (b 0) + fb_it (ff_r a 1 0) t (b 1) := by
  intro t
  induction t with
  | zero => rfl
  | succ t ih =>
    have h0 := fb_it_lt (ff_B ha (show 0 < 2 by omega) (show 0 < 2 by omega)) hb0 t
    have h1 := fb_it_lt (ff_B ha (show 1 < 2 by omega) (show 0 < 2 by omega)) hb1 t
    rw [fd_z, ih]
    show 32 * fb_u (ff_r a 0 0) _ + fb_u (ff_r a 1 0) _ = _
    rw [show (32 * fb_it (ff_r a 0 0) t (b 0) + fb_it (ff_r a 1 0) t (b 1)) / 32 = fb_it (ff_r a 0 0) t (b 0) by omega,
      show (32 * fb_it (ff_r a 0 0) t (b 0) + fb_it (ff_r a 1 0) t (b 1)) % 32 = fb_it (ff_r a 1 0) t (b 1) by omega]
    rfl
/-- the word of thirty letters 0 is never the first that tells the machines apart -/
theorem fi_30 {a b e : Nat → Nat} (ha : ff_ok a) (hb0 : b 0 < 32) (hb1 : b 1 < 32) {s : fd_S} (J : fd_J (fi_s a) (fi_q b) s) {j : Nat} (hj : j < s.1) (hw : s.2.2.1 j = 2 ^ 30)
    (hn : ∀ i, i < j → (fi_x e (s.2.1 i) ↔ fi_y e (s.2.1 i))) : fi_x e (s.2.1 j) ↔ fi_y e (s.2.1 j) := by
  obtain ⟨e1, h1⟩ := fd_zero J 30 j hj hw
  have B0 := ff_B ha (show 0 < 2 by omega) (show 0 < 2 by omega)
  have B1 := ff_B ha (show 1 < 2 by omega) (show 0 < 2 by omega)
  have zx : ∀ t, fi_x e (fd_z (fi_s a) (fi_q b) t) ↔ fb_m (fb_it (ff_r a 0 0) t (b 0)) (e 0) := by
    intro t
    have := fb_it_lt B1 hb1 t
    unfold fi_x ff_g
    rw [fi_z ha hb0 hb1, show (32 * fb_it (ff_r a 0 0) t (b 0) + fb_it (ff_r a 1 0) t (b 1)) / 32 = fb_it (ff_r a 0 0) t (b 0) by omega]
  have zy : ∀ t, fi_y e (fd_z (fi_s a) (fi_q b) t) ↔ fb_m (fb_it (ff_r a 1 0) t (b 1)) (e 1) := by
    intro t
    have := fb_it_lt B1 hb1 t
    unfold fi_y ff_g
    rw [fi_z ha hb0 hb1, show (32 * fb_it (ff_r a 0 0) t (b 0) + fb_it (ff_r a 1 0) t (b 1)) % 32 = fb_it (ff_r a 1 0) t (b 1) by omega]
  rw [e1, zx, zy]
  refine fc_30 B0 B1 hb0 hb1 (e 0) (e 1) (fun k hk => ?_)
  obtain ⟨i, hi, ei⟩ := h1 k hk
  have := hn i hi
  rw [ei, zx, zy] at this
  exact this
end
section
/-! rows pasted from kit/rows (PURE-ROWS, BITS), then the claim's own rows on numbers -/
theorem pk_us {f : Nat → Int32} {k : Nat} {x : Int32} : upd f k x k = x := if_pos rfl
theorem pk_un {f : Nat → Int32} {k j : Nat} {x : Int32} (h : j ≠ k) : upd f k x j = f j := if_neg h
theorem pk_uLs {f : Nat → Int64} {k : Nat} {x : Int64} : vp_updL f k x k = x := if_pos rfl
theorem pk_uLn {f : Nat → Int64} {k j : Nat} {x : Int64} (h : j ≠ k) : vp_updL f k x j = f j := if_neg h
theorem pk_sub {a b : Nat} (h : b ≤ a) : nI a - nI b = nI (a - b) := by
  obtain ⟨c, rfl⟩ : ∃ c, a = c + b := ⟨a - b, by omega⟩
  rw [← nI_add, Int32.add_sub_cancel, Nat.add_sub_cancel]
theorem pk_m1 (n : Nat) : nI (n + 1) + (-1) = nI n := by
  rw [← nI_1, Int32.add_assoc, show (1 : Int32) + (-1) = 0 from rfl, Int32.add_zero]
theorem pk_mul (a b : Nat) : nI a * nI b = nI (a * b) := (Int32.ofNat_mul a b).symm
theorem pk_div {a d : Nat} (ha : a < 2 ^ 31) (h0 : 0 < d) (hd : d < 2 ^ 31) : nI a / nI d = nI (a / d) := by
  apply Int32.toInt_inj.mp
  rw [lg_idiv_nonneg (by rw [nI_toInt ha]; omega) (by rw [nI_toInt hd]; omega), nI_toInt ha, nI_toInt hd, nI_toInt (Nat.lt_of_le_of_lt (Nat.div_le_self a d) ha)]
  first | rfl | exact (Int.natCast_ediv _ _).symm
theorem pk_rem {a d : Nat} (ha : a < 2 ^ 31) (h0 : 0 < d) (hd : d < 2 ^ 31) : nI a - nI a / nI d * nI d = nI (a % d) := by
  rw [pk_div ha h0 hd, pk_mul, pk_sub (Nat.div_mul_le_self a d)]
  exact congrArg nI (by have := Nat.div_add_mod' a d; omega)
theorem pk_sub_toInt {a b : Nat} (ha : a < 2 ^ 30) (hb : b < 2 ^ 30) : (nI a - nI b).toInt = (a : Int) - b := by
  rw [Int32.toInt_sub, nI_toInt (by omega), nI_toInt (by omega)]
  exact Int.bmod_eq_of_le (by omega) (by omega)
theorem pk_sneg {a b : Nat} (hb : b < 2 ^ 30) (h : a < b) : nI a - nI b < 0 := by
  rw [Int32.lt_iff_toInt_lt, pk_sub_toInt (by omega) hb, show (0 : Int32).toInt = 0 from by decide]
  omega
theorem pk_ix (x : Int32) {n : Nat} (hn : n < 2 ^ 31) : x < 0 ∨ nI n ≤ x ∨ ∃ j : Nat, j < n ∧ x = nI j := by
  by_cases h : x < 0
  · exact Or.inl h
  · obtain ⟨j, hj, rfl⟩ := nI_of h
    by_cases h2 : j < n
    · exact Or.inr (Or.inr ⟨j, h2, rfl⟩)
    · exact Or.inr (Or.inl (nI_le (by omega) hj))
theorem pk_le {x y : Int32} {A B : Prop} (a b : Nat) (f : a ≤ b → A) (g : b < a → B) (hx : x = nI a := by rfl) (hy : y = nI b := by rfl) (ha : a < 2 ^ 31 := by omega) (hb : b < 2 ^ 31 := by omega) : (x ≤ y → A) ∧ (¬ x ≤ y → B) := by
  subst hx hy
  rw [nI_leI ha hb]
  exact ⟨f, fun z => g (by omega)⟩
theorem pk_lt {x y : Int32} {A B : Prop} (a b : Nat) (f : a < b → A) (g : b ≤ a → B) (hx : x = nI a := by rfl) (hy : y = nI b := by rfl) (ha : a < 2 ^ 31 := by omega) (hb : b < 2 ^ 31 := by omega) : (x < y → A) ∧ (¬ x < y → B) := by
  subst hx hy
  rw [nI_ltI ha hb]
  exact ⟨f, fun z => g (by omega)⟩
theorem pk_eq {x y : Int32} {A B : Prop} (a b : Nat) (f : a = b → A) (g : a ≠ b → B) (hx : x = nI a := by rfl) (hy : y = nI b := by rfl) (ha : a < 2 ^ 31 := by omega) (hb : b < 2 ^ 31 := by omega) : (x = y → A) ∧ (¬ x = y → B) := by
  subst hx hy
  rw [nI_eq ha hb]
  exact ⟨f, g⟩
theorem pk_in {x : Int32} (n N : Nat) (h : n < N) (hx : x = nI n := by rfl) (hN : N < 2 ^ 31 := by omega) : vp_in x N := by
  subst hx
  exact vp_in_nI h hN
theorem pk_cl {x : Int32} (n : Nat) (hx : x = nI n := by rfl) (h : n < 2 ^ 31 := by omega) : x.toNatClampNeg = n := by
  subst hx
  exact nI_clamp h
theorem pk_tn {n : Nat} (h : n < 2 ^ 32) : (nI n).toBitVec.toNat = n := Nat.mod_eq_of_lt h
theorem pk_and (x : Int32) {m : Int32} (k : Nat) (hm : m.toBitVec.toNat = 2 ^ k - 1) : x &&& m = nI (x.toBitVec.toNat % 2 ^ k) := by
  apply Int32.toBitVec_inj.mp
  apply BitVec.eq_of_toNat_eq
  rw [Int32.toBitVec_and, BitVec.toNat_and, hm, Nat.and_two_pow_sub_one_eq_mod]
  show _ = (BitVec.ofNat 32 _).toNat
  rw [BitVec.toNat_ofNat]
  exact (Nat.mod_eq_of_lt (Nat.lt_of_le_of_lt (Nat.mod_le _ _) x.toBitVec.isLt)).symm
theorem pk_andN {n : Nat} (h : n < 2 ^ 32) {m : Int32} (k : Nat) (hm : m.toBitVec.toNat = 2 ^ k - 1) : nI n &&& m = nI (n % 2 ^ k) := by
  rw [pk_and _ k hm, pk_tn h]
theorem pk_andE (x : Int32) {m : Int32} (k : Nat) (hm : m.toBitVec.toNat = 2 ^ k - 1) : ∃ j : Nat, j < 2 ^ k ∧ x &&& m = nI j := ⟨_, Nat.mod_lt _ (Nat.two_pow_pos k), pk_and x k hm⟩
theorem pk_andIn (x : Int32) {m : Int32} (k : Nat) (hm : m.toBitVec.toNat = 2 ^ k - 1) (hk : k ≤ 30) : vp_in (x &&& m) (2 ^ k) := by
  obtain ⟨j, hj, e⟩ := pk_andE x k hm
  rw [e]
  exact vp_in_nI hj (Nat.lt_of_le_of_lt (Nat.pow_le_pow_right (by decide) hk) (by decide))
theorem pk_shl (a s : Int32) (k : Nat) (hs : (s.toBitVec.smod 32).toNat = k) : (a <<< s).toBitVec.toNat = a.toBitVec.toNat * 2 ^ k % 2 ^ 32 := by
  show (a.toBitVec <<< (s.toBitVec.smod 32).toNat).toNat = _
  rw [hs, BitVec.toNat_shiftLeft, Nat.shiftLeft_eq]
theorem pk_shlN {n : Nat} (s : Int32) (k : Nat) (hs : (s.toBitVec.smod 32).toNat = k) (h : n * 2 ^ k < 2 ^ 32) : nI n <<< s = nI (n * 2 ^ k) := by
  apply Int32.toBitVec_inj.mp
  apply BitVec.eq_of_toNat_eq
  have hn : n < 2 ^ 32 := Nat.lt_of_le_of_lt (Nat.le_mul_of_pos_right n (Nat.two_pow_pos k)) h
  rw [pk_shl _ _ k hs, pk_tn hn, pk_tn h, Nat.mod_eq_of_lt h]
theorem pk_shr (a s : Int32) (k : Nat) (hs : (s.toBitVec.smod 32).toNat = k) : (a >>> s).toInt = a.toInt >>> k := by
  show (a.toBitVec.sshiftRight (s.toBitVec.smod 32).toNat).toInt = _
  rw [hs, BitVec.toInt_sshiftRight]
  rfl
theorem pk_shrN {n : Nat} (h : n < 2 ^ 31) (s : Int32) (k : Nat) (hs : (s.toBitVec.smod 32).toNat = k) : nI n >>> s = nI (n / 2 ^ k) := by
  apply Int32.toInt_inj.mp
  have h2 : n / 2 ^ k ≤ n := Nat.div_le_self _ _
  rw [pk_shr _ _ k hs, nI_toInt h, nI_toInt (by omega), Int.shiftRight_eq_div_pow]
  rfl
theorem pk_ushr (x s : Int32) (k : Nat) (hs : ((s.toUInt32 &&& Int32.toUInt32 31).toBitVec % 32).toNat = k) : (x.toUInt32 >>> (s.toUInt32 &&& Int32.toUInt32 31)).toInt32.toBitVec.toNat = x.toBitVec.toNat / 2 ^ k := by
  have e : (x.toUInt32 >>> (s.toUInt32 &&& Int32.toUInt32 31)).toInt32.toBitVec = x.toBitVec >>> k := by
    rw [← hs]
    exact UInt32.toBitVec_shiftRight _ _
  rw [e, BitVec.toNat_ushiftRight, Nat.shiftRight_eq_div_pow]
theorem pk_ushrN {n : Nat} (hn : n < 2 ^ 32) (s : Int32) (k : Nat) (hs : ((s.toUInt32 &&& Int32.toUInt32 31).toBitVec % 32).toNat = k) : ((nI n).toUInt32 >>> (s.toUInt32 &&& Int32.toUInt32 31)).toInt32 = nI (n / 2 ^ k) := by
  apply Int32.toBitVec_inj.mp
  apply BitVec.eq_of_toNat_eq
  rw [pk_ushr _ s k hs, pk_tn hn, pk_tn (Nat.lt_of_le_of_lt (Nat.div_le_self _ _) hn)]
theorem pk_lT {n : Nat} (h : n < 2 ^ 63) : (lN n).toInt = (n : Int) := lg_ofNat_toInt h
theorem pk_lLT {a b : Nat} (ha : a < 2 ^ 63) (hb : b < 2 ^ 63) : lN a < lN b ↔ a < b := by
  rw [Int64.lt_iff_toInt_lt, pk_lT ha, pk_lT hb]; omega
theorem pk_lLE {a b : Nat} (ha : a < 2 ^ 63) (hb : b < 2 ^ 63) : lN a ≤ lN b ↔ a ≤ b := by
  rw [Int64.le_iff_toInt_le, pk_lT ha, pk_lT hb]; omega
theorem pk_lEQ {a b : Nat} (ha : a < 2 ^ 63) (hb : b < 2 ^ 63) : lN a = lN b ↔ a = b := by
  rw [← Int64.toInt_inj, pk_lT ha, pk_lT hb]; omega
theorem pk_lOf {x : Int64} (h : ¬ x < 0) : ∃ k : Nat, k < 2 ^ 63 ∧ x = lN k := by
  rw [Int64.lt_iff_toInt_lt] at h
  have h0 : (0 : Int64).toInt = 0 := by decide
  have hx := Int64.toInt_lt x
  refine ⟨x.toInt.toNat, by omega, Int64.toInt_inj.mp ?_⟩
  rw [pk_lT (by omega)]
  omega
theorem pk_lDiv {a b : Nat} (ha : a < 2 ^ 63) (h0 : 0 < b) (hb : b < 2 ^ 63) : lN a / lN b = lN (a / b) := by
  apply Int64.toInt_inj.mp
  rw [lg_ldiv_nonneg (by rw [pk_lT ha]; omega) (by rw [pk_lT hb]; omega), pk_lT ha, pk_lT hb, pk_lT (Nat.lt_of_le_of_lt (Nat.div_le_self a b) ha)]
  rfl
theorem pk_lRem {a b : Nat} (ha : a < 2 ^ 63) (h0 : 0 < b) (hb : b < 2 ^ 63) : lN a - lN a / lN b * lN b = lN (a % b) := by
  rw [pk_lDiv ha h0 hb, lN_mul, lN_sub (Nat.div_mul_le_self a b)]
  exact congrArg lN (by have := Nat.div_add_mod' a b; omega)
theorem pk_loop {σ : Type} (W : Nat → Nat → σ → Prop) (I : Nat → σ → Prop) (e i0 : Nat) (s : σ) (hi : i0 ≤ e) (h0 : I i0 s) (hx : ∀ n s, I e s → W (n + 1) e s)
    (hs : ∀ n i s, i < e → I i s → (∀ s', I (i + 1) s' → W n (i + 1) s') → W (n + 1) i s) : ∃ n, W n i0 s :=
  ⟨e + 1, loop_i W I e hx hs (e + 1) i0 s hi (by omega) h0⟩
theorem pk_loopD {σ : Type} (W : Nat → Nat → σ → Prop) (I : Nat → σ → Prop) (hx : ∀ n s, I 0 s → W (n + 1) 0 s)
    (hs : ∀ n i s, I (i + 1) s → (∀ s', I i s' → W n i s') → W (n + 1) (i + 1) s) : ∀ (e : Nat) (s : σ), I e s → W (e + 1) e s := by
  intro e
  induction e with
  | zero => exact fun s h => hx 0 s h
  | succ e ih => exact fun s h => hs (e + 1) e s h (fun s' h' => ih s' h')
theorem s_l : ∀ n, n < 32 → ((nI n &&& 31).toBitVec.smod 32).toNat = n := by decide +kernel
theorem s_u : ∀ n, n < 32 → (((nI n).toUInt32 &&& Int32.toUInt32 31).toBitVec % 32).toNat = n := by decide +kernel
theorem nx_and (a b : Nat) : nI a &&& nI b = nI (a &&& b) := by
  apply Int32.toBitVec_inj.1
  show BitVec.ofNat 32 a &&& BitVec.ofNat 32 b = BitVec.ofNat 32 (a &&& b)
  apply BitVec.eq_of_getLsbD_eq
  intro i hi
  simp [hi]
theorem nx_xor (a b : Nat) : nI a ^^^ nI b = nI (a ^^^ b) := by
  apply Int32.toBitVec_inj.1
  show BitVec.ofNat 32 a ^^^ BitVec.ofNat 32 b = BitVec.ofNat 32 (a ^^^ b)
  apply BitVec.eq_of_getLsbD_eq
  intro i hi
  simp [hi]
theorem wb_tb (n : Nat) : (lN n).toBitVec = BitVec.ofNat 64 n := rfl
theorem wb_inj {a b : Int64} (h : a.toBitVec = b.toBitVec) : a = b := Int64.toBitVec_inj.mp h
theorem wb_tn {n : Nat} (h : n < 2 ^ 64) : (lN n).toBitVec.toNat = n := by rw [wb_tb, BitVec.toNat_ofNat, Nat.mod_eq_of_lt h]
theorem wb_of (x : Int64) : ∃ n, n < 2 ^ 64 ∧ x = lN n := ⟨x.toBitVec.toNat, x.toBitVec.isLt, wb_inj (by rw [wb_tb]; simp)⟩
theorem wb_of32 (x : Int32) : ∃ n, n < 2 ^ 32 ∧ x = nI n := ⟨x.toBitVec.toNat, x.toBitVec.isLt, Int32.toBitVec_inj.mp (by show _ = BitVec.ofNat 32 _; simp)⟩
theorem wb_c : ∀ k, k < 64 → ((nI k).toInt64 &&& 63) = lN k := by decide +kernel
theorem wb_cu : ∀ k, k < 64 → ((nI k).toInt64.toUInt64 &&& Int64.toUInt64 63) = UInt64.ofNat k := by decide +kernel
theorem wb_sm : ∀ k, k < 64 → (BitVec.ofNat 64 k).smod 64 = BitVec.ofNat 64 k := by decide +kernel
theorem wb_pw {a b : Nat} (h : a ≤ b) : 2 ^ b = 2 ^ a * 2 ^ (b - a) := by rw [← Nat.pow_add]; congr 1; omega
theorem wb_lt2 {a b : Nat} (h : a < b) : 2 ^ a < 2 ^ b := Nat.pow_lt_pow_right (by decide) h
theorem wb_mod (n : Nat) : lN n = lN (n % 2 ^ 64) := wb_inj (by rw [wb_tb, wb_tb]; apply BitVec.eq_of_toNat_eq; rw [BitVec.toNat_ofNat, BitVec.toNat_ofNat, Nat.mod_mod])
theorem wb_shr {n k : Nat} (hn : n < 2 ^ 64) (hk : k < 64) : ((lN n).toUInt64 >>> ((nI k).toInt64.toUInt64 &&& Int64.toUInt64 63)).toInt64 = lN (n / 2 ^ k) := by
  rw [wb_cu k hk]
  apply wb_inj
  apply BitVec.eq_of_toNat_eq
  show ((lN n).toUInt64 >>> UInt64.ofNat k).toNat = (BitVec.ofNat 64 _).toNat
  have h1 : (UInt64.ofNat k).toNat = k := by
    show (BitVec.ofNat 64 k).toNat = k
    rw [BitVec.toNat_ofNat, Nat.mod_eq_of_lt (by omega)]
  have h2 : (lN n).toUInt64.toNat = n := wb_tn hn
  rw [UInt64.toNat_shiftRight, h1, h2, Nat.mod_eq_of_lt hk, Nat.shiftRight_eq_div_pow, BitVec.toNat_ofNat, Nat.mod_eq_of_lt (Nat.lt_of_le_of_lt (Nat.div_le_self _ _) hn)]
theorem wb_shl (n : Nat) {k : Nat} (hk : k < 64) : lN n <<< ((nI k).toInt64 &&& 63) = lN (n * 2 ^ k) := by
  rw [wb_c k hk]
  apply wb_inj
  rw [Int64.toBitVec_shiftLeft, wb_tb, wb_tb, wb_tb, wb_sm k hk]
  apply BitVec.eq_of_toNat_eq
  rw [BitVec.shiftLeft_eq', BitVec.toNat_shiftLeft, BitVec.toNat_ofNat, BitVec.toNat_ofNat, BitVec.toNat_ofNat, Nat.mod_eq_of_lt (show k < 2 ^ 64 by omega), Nat.shiftLeft_eq, Nat.mul_mod, Nat.mod_mod, ← Nat.mul_mod]
theorem wb_and {a b : Nat} (ha : a < 2 ^ 64) (hb : b < 2 ^ 64) : lN a &&& lN b = lN (a &&& b) := by
  apply wb_inj
  rw [Int64.toBitVec_and, wb_tb, wb_tb, wb_tb]
  apply BitVec.eq_of_toNat_eq
  rw [BitVec.toNat_and, BitVec.toNat_ofNat, BitVec.toNat_ofNat, BitVec.toNat_ofNat, Nat.mod_eq_of_lt ha, Nat.mod_eq_of_lt hb, Nat.mod_eq_of_lt (Nat.and_lt_two_pow _ hb)]
theorem wb_or {a b : Nat} (ha : a < 2 ^ 64) (hb : b < 2 ^ 64) : lN a ||| lN b = lN (a ||| b) := by
  apply wb_inj
  rw [Int64.toBitVec_or, wb_tb, wb_tb, wb_tb]
  apply BitVec.eq_of_toNat_eq
  rw [BitVec.toNat_or, BitVec.toNat_ofNat, BitVec.toNat_ofNat, BitVec.toNat_ofNat, Nat.mod_eq_of_lt ha, Nat.mod_eq_of_lt hb, Nat.mod_eq_of_lt (Nat.or_lt_two_pow ha hb)]
theorem wb_mask {n k : Nat} (hn : n < 2 ^ 64) (hk : k < 64) : lN n &&& lN (2 ^ k - 1) = lN (n % 2 ^ k) := by
  rw [wb_and hn (by have := wb_lt2 hk; omega), Nat.and_two_pow_sub_one_eq_mod]
theorem wb_a1 {n : Nat} (hn : n < 2 ^ 64) : lN n &&& 1 = lN (n % 2) := wb_mask (k := 1) hn (by decide)
theorem wb_bit {n k : Nat} (hn : n < 2 ^ 64) (hk : k < 64) : ((lN n).toUInt64 >>> ((nI k).toInt64.toUInt64 &&& Int64.toUInt64 63)).toInt64 &&& 1 = lN (n / 2 ^ k % 2) := by
  rw [wb_shr hn hk, wb_a1 (Nat.lt_of_le_of_lt (Nat.div_le_self _ _) hn)]
theorem pf_lI {a : Nat} (h : a < 2 ^ 63) : (lN a).toInt = (a : Int) := lg_ofNat_toInt h
theorem pf_shr {a d : Nat} {D : Int64} (hD : (D.toBitVec.smod 64).toNat = d) (h : a < 2 ^ 62) : lN a >>> D = lN (a / 2 ^ d) := by
  have hd : a / 2 ^ d ≤ a := Nat.div_le_self _ _
  apply Int64.toInt_inj.mp
  have e : (lN a >>> D).toInt = (lN a).toInt >>> d := by
    rw [← hD]
    exact BitVec.toInt_sshiftRight ..
  rw [e, Int.shiftRight_eq_div_pow, pf_lI (by omega), pf_lI (by omega)]
  rfl
theorem fj_or (a b : Nat) : nI a ||| nI b = nI (a ||| b) := by
  apply Int32.toBitVec_inj.mp
  rw [Int32.toBitVec_or]
  show BitVec.ofNat 32 a ||| BitVec.ofNat 32 b = BitVec.ofNat 32 (a ||| b)
  exact BitVec.ofNat_or.symm
theorem fj_one {t : Nat} (h : t < 32) : (1 : Int32) <<< (nI t &&& 31) = nI (2 ^ t) := by
  have hp : 1 * 2 ^ t < 2 ^ 32 := by rw [Nat.one_mul]; exact fe_2p32 h
  have := pk_shlN (n := 1) (nI t &&& 31) t (s_l t h) hp
  rw [Nat.one_mul] at this
  exact this
theorem fj_tb (K t : Nat) : K.testBit t = true ↔ K / 2 ^ t % 2 = 1 := by
  rw [Nat.testBit_eq_decide_div_mod_eq]; exact decide_eq_true_iff
theorem fj_tf (K t : Nat) : ¬ K.testBit t = true ↔ K / 2 ^ t % 2 = 0 := by
  rw [fj_tb]; omega
theorem fj_div_lt {K n : Nat} (t : Nat) (h : K < n) : K / 2 ^ t < n := Nat.lt_of_le_of_lt (Nat.div_le_self _ _) h
theorem fj_bit {K t : Nat} (hK : K < 2 ^ 32) (ht : t < 32) : (((nI K).toUInt32 >>> ((nI t).toUInt32 &&& Int32.toUInt32 31)).toInt32 &&& 1) = nI (K / 2 ^ t % 2) := by
  rw [pk_ushrN hK (nI t) t (s_u t ht), pk_andN (fj_div_lt t hK) 1 (by decide)]
theorem fj_sbit {K t : Nat} (hK : K < 2 ^ 31) (ht : t < 32) : (nI K >>> (nI t &&& 31)) &&& 1 = nI (K / 2 ^ t % 2) := by
  rw [pk_shrN hK _ t (s_l t ht), pk_andN (by have := fj_div_lt t hK; omega) 1 (by decide)]
theorem fj_n2 (x : Nat) : nI (x % 2) = 0 ↔ x % 2 = 0 := by
  have := nI_eq (a := x % 2) (b := 0) (by omega) (by omega)
  rw [nI_0] at this; exact this
theorem fj_n21 (x : Nat) : nI (x % 2) = 1 ↔ x % 2 = 1 := nI_eq (a := x % 2) (b := 1) (by omega) (by omega)
theorem fj_b0 {K t : Nat} (hK : K < 2 ^ 32) (ht : t < 32) : (((nI K).toUInt32 >>> ((nI t).toUInt32 &&& Int32.toUInt32 31)).toInt32 &&& 1) = 0 ↔ ¬ K.testBit t = true := by
  rw [fj_bit hK ht, fj_n2, fj_tf]
theorem fj_s1 {K t : Nat} (hK : K < 2 ^ 31) (ht : t < 32) : (nI K >>> (nI t &&& 31)) &&& 1 = 1 ↔ K.testBit t = true := by
  rw [fj_sbit hK ht, fj_n21, fj_tb]
theorem fj_amt : ∀ k, k < 64 → (((nI k).toInt64 &&& 63).toBitVec.smod 64).toNat = k := by
  intro k hk
  rw [wb_c k hk, wb_tb, wb_sm k hk, BitVec.toNat_ofNat]
  exact Nat.mod_eq_of_lt (by omega)
theorem fj_lshr {K t : Nat} (hK : K < 2 ^ 62) (ht : t < 64) : lN K >>> ((nI t).toInt64 &&& 63) = lN (K / 2 ^ t) := pf_shr (fj_amt t ht) hK
theorem fj_lbit {K t : Nat} (hK : K < 2 ^ 62) (ht : t < 64) : (lN K >>> ((nI t).toInt64 &&& 63)) &&& 1 = lN (K / 2 ^ t % 2) := by
  rw [fj_lshr hK ht, wb_a1 (by have := fj_div_lt t hK; omega)]
theorem fj_lone {t : Nat} (h : t < 64) : (1 : Int64) <<< ((nI t).toInt64 &&& 63) = lN (2 ^ t) := by
  have := wb_shl 1 h
  rw [Nat.one_mul] at this
  exact this
theorem fj_l1 {K t : Nat} (hK : K < 2 ^ 62) (ht : t < 64) : (lN K >>> ((nI t).toInt64 &&& 63)) &&& 1 = 1 ↔ K.testBit t = true := by
  rw [fj_lbit hK ht, fj_tb]
  exact lN_eq (a := K / 2 ^ t % 2) (b := 1) (by omega) (by omega)
theorem fj_l0 {K t : Nat} (hK : K < 2 ^ 62) (ht : t < 64) : (lN K >>> ((nI t).toInt64 &&& 63)) &&& 1 = 0 ↔ ¬ K.testBit t = true := by
  rw [fj_lbit hK ht, fj_tf]
  exact lN_eq (a := K / 2 ^ t % 2) (b := 0) (by omega) (by omega)
theorem fj_lu0 {K t : Nat} (hK : K < 2 ^ 64) (ht : t < 64) : ((lN K).toUInt64 >>> ((nI t).toInt64.toUInt64 &&& Int64.toUInt64 63)).toInt64 &&& 1 = 0 ↔ ¬ K.testBit t = true := by
  rw [wb_bit hK ht, fj_tf]
  exact lN_eq (a := K / 2 ^ t % 2) (b := 0) (by omega) (by omega)
theorem fj_neg : ∀ x, x < 32 → ∀ t, t < 5 → nI x &&& ((1 : Int32) <<< (nI t &&& 31) ^^^ (-1)) = nI (if x / 2 ^ t % 2 = 1 then x - 2 ^ t else x) := by decide +kernel
/-- the lowest state of a set -/
def fj_low (x : Nat) : Nat := if x % 2 = 1 then 1 else if x % 4 = 2 then 2 else if x % 8 = 4 then 4 else if x % 16 = 8 then 8 else 16
theorem fj_lowI : ∀ x, x < 32 → 0 < x → nI x &&& -nI x = nI (fj_low x) ∧ fj_low x ≤ x ∧ x = fj_low x ||| (x - fj_low x) ∧ (∃ s, s < 5 ∧ fj_low x = 2 ^ s) := by
  have h : ∀ x, x < 32 → 0 < x → nI x &&& -nI x = nI (fj_low x) ∧ fj_low x ≤ x ∧ x = fj_low x ||| (x - fj_low x) ∧ (fj_low x = 2 ^ 0 ∨ fj_low x = 2 ^ 1 ∨ fj_low x = 2 ^ 2 ∨ fj_low x = 2 ^ 3 ∨ fj_low x = 2 ^ 4) := by decide +kernel
  intro x hx h0
  obtain ⟨a, b, c, d⟩ := h x hx h0
  refine ⟨a, b, c, ?_⟩
  rcases d with d | d | d | d | d
  · exact ⟨0, by omega, d⟩
  · exact ⟨1, by omega, d⟩
  · exact ⟨2, by omega, d⟩
  · exact ⟨3, by omega, d⟩
  · exact ⟨4, by omega, d⟩
theorem fj_bz (z : Int32) (h : z = 0 ∨ z = 1) : narrow .boolean (.int z) = .int z := by
  rcases h with rfl | rfl <;> rfl
end
section
/-! what the arrays hold -/
def fk_T (t : Nat → Int32) (a : Nat → Nat) : Prop := ∀ m S l, m < 2 → S < 32 → l < 2 → t ((m * 32 + S) * 2 + l) = nI (ff_st a m S l)
def fk_V (t : Nat → Int32) (b : Nat → Nat) : Prop := ∀ m, m < 2 → t m = nI (b m)
def fk_A (t : Nat → Int32) (a : Nat → Nat) : Prop := ∀ i, i < 20 → t i = nI (a i)
def fk_ok (b : Nat → Nat) : Prop := ∀ m, m < 2 → b m < 32
theorem ff_st_u (a : Nat → Nat) (m S : Nat) {l : Nat} (hl : l < 2) : ff_st a m S l = fb_u (ff_r a m l) S := by
  have : l = 0 ∨ l = 1 := by omega
  rcases this with rfl | rfl
  · rfl
  · rfl
theorem ff_st_0 (a : Nat → Nat) (m : Nat) {l : Nat} (hl : l < 2) : ff_st a m 0 l = 0 := by
  rw [ff_st_u a m 0 hl, fb_u_0]
theorem ff_st_1 {a : Nat → Nat} (h : ff_ok a) {m s l : Nat} (hm : m < 2) (hs : s < 5) (hl : l < 2) : ff_st a m (2 ^ s) l = a (10 * m + 2 * s + l) := by
  rw [ff_st_u a m _ hl, fb_u_one (ff_B h hm hl) hs]; rfl
theorem ff_st_or {a : Nat → Nat} (h : ff_ok a) {m l : Nat} (hm : m < 2) (hl : l < 2) (S T : Nat) : ff_st a m (S ||| T) l = ff_st a m S l ||| ff_st a m T l := by
  rw [ff_st_u a m _ hl, ff_st_u a m _ hl, ff_st_u a m _ hl, fb_u_or (ff_B h hm hl)]
/-- one arrow flipped -/
def fk_fl (a : Nat → Nat) (i t : Nat) : Nat → Nat := fun j => if j = i then a j ^^^ 2 ^ t else a j
theorem fk_fl_s (a : Nat → Nat) (i t : Nat) : fk_fl a i t i = a i ^^^ 2 ^ t := if_pos rfl
theorem fk_fl_n {a : Nat → Nat} {i t j : Nat} (h : j ≠ i) : fk_fl a i t j = a j := if_neg h
theorem fk_fl_ok {a : Nat → Nat} (h : ff_ok a) {i t : Nat} (ht : t < 5) : ff_ok (fk_fl a i t) := by
  intro j hj
  by_cases q : j = i
  · subst q
    rw [fk_fl_s]
    exact Nat.xor_lt_two_pow (n := 5) (h j hj) (fb_2lt ht)
  · rw [fk_fl_n q]; exact h j hj
theorem fk_xb (x t t' : Nat) : (x ^^^ 2 ^ t).testBit t' = true ↔ ¬ (x.testBit t' = true ↔ t = t') := by
  rw [Nat.testBit_xor, Nat.testBit_two_pow]
  by_cases h : t = t'
  · cases x.testBit t' <;> simp [h]
  · cases x.testBit t' <;> simp [h]
theorem fk_fl_cv {a a' : Nat → Nat} (h : ff_cv a a') {m s l t : Nat} (hs : s < 5) (hl : l < 2) (ht : t < 5) : ff_cv (fk_fl a (10 * m + 2 * s + l) t) (fk_fl a' (10 * m + 2 * t + l) s) := by
  intro m' l' hm' hl' s' t' hs' ht'
  have base := h m' l' hm' hl' s' t' hs' ht'
  unfold ff_r at base ⊢
  by_cases q : m' = m ∧ l' = l
  · obtain ⟨rfl, rfl⟩ := q
    by_cases p : s' = s
    · subst p
      rw [fk_fl_s, fk_xb]
      by_cases p' : t' = t
      · subst p'
        rw [fk_fl_s, fk_xb, base]
        simp
      · rw [fk_fl_n (by omega), ← base]
        have : ¬ t = t' := fun e => p' e.symm
        simp [this]
    · rw [fk_fl_n (by omega)]
      by_cases p' : t' = t
      · subst p'
        rw [fk_fl_s, fk_xb, base]
        have : ¬ s = s' := fun e => p e.symm
        simp [this]
      · rw [fk_fl_n (by omega)]; exact base
  · rw [fk_fl_n (by omega), fk_fl_n (by omega)]; exact base
theorem fk_orx : ∀ x, x < 32 → ∀ t, t < 5 → x / 2 ^ t % 2 = 0 → x ||| 2 ^ t = x ^^^ 2 ^ t := by decide +kernel
theorem fk_negx : ∀ x, x < 32 → ∀ t, t < 5 → x / 2 ^ t % 2 = 1 → nI x &&& (nI (2 ^ t) ^^^ (-1)) = nI (x ^^^ 2 ^ t) := by decide +kernel
/-- exchanged for machine m alone -/
def fk_sw (a a' : Nat → Nat) (m : Nat) : Nat → Nat := fun i => if i / 10 = m then a' i else a i
theorem fk_sw_ok {a a' : Nat → Nat} (h : ff_ok a) (h' : ff_ok a') (m : Nat) : ff_ok (fk_sw a a' m) := by
  intro i hi
  unfold fk_sw
  split
  · exact h' i hi
  · exact h i hi
theorem fk_sw_r {a a' : Nat → Nat} {m m' l s : Nat} (hl : l < 2) (hs : s < 5) : ff_r (fk_sw a a' m) m' l s = if m' = m then ff_r a' m' l s else ff_r a m' l s := by
  unfold ff_r fk_sw
  rw [show (10 * m' + 2 * s + l) / 10 = m' by omega]
theorem fk_sw_cv {a a' : Nat → Nat} (h : ff_cv a a') (m : Nat) : ff_cv (fk_sw a a' m) (fk_sw a' a m) := by
  intro m' l hm hl s t hs ht
  have base := h m' l hm hl
  rw [fk_sw_r hl hs, fk_sw_r hl ht]
  by_cases q : m' = m
  · rw [if_pos q, if_pos q]; exact (base t s ht hs).symm
  · rw [if_neg q, if_neg q]; exact base s t hs ht
theorem fk_uo_congr {r r' : Nat → Nat} (h : ∀ s, s < 5 → r s = r' s) (S : Nat) : ∀ n, n ≤ 5 → fb_uo r S n = fb_uo r' S n := by
  intro n
  induction n with
  | zero => intro _; rfl
  | succ n ih =>
    intro hn
    show (if S.testBit n = true then fb_uo r S n ||| r n else fb_uo r S n) = (if S.testBit n = true then fb_uo r' S n ||| r' n else fb_uo r' S n)
    rw [ih (by omega), h n (by omega)]
theorem fk_st_congr {a a' : Nat → Nat} {m l : Nat} (h : ∀ s, s < 5 → ff_r a m l s = ff_r a' m l s) (hl : l < 2) (S : Nat) : ff_st a m S l = ff_st a' m S l := by
  rw [ff_st_u a m S hl, ff_st_u a' m S hl]
  exact fk_uo_congr h S 5 (Nat.le_refl _)
theorem fk_sw_st {a a' : Nat → Nat} (m m' S : Nat) {l : Nat} (hl : l < 2) : ff_st (fk_sw a a' m) m' S l = if m' = m then ff_st a' m' S l else ff_st a m' S l := by
  by_cases q : m' = m
  · rw [if_pos q]
    exact fk_st_congr (fun s hs => by rw [fk_sw_r hl hs, if_pos q]) hl S
  · rw [if_neg q]
    exact fk_st_congr (fun s hs => by rw [fk_sw_r hl hs, if_neg q]) hl S
def fk_swv (b e : Nat → Nat) (m : Nat) : Nat → Nat := fun i => if i = m then e i else b i
/-- a table whose one row of single states has been set: what the joining does to it -/
def fk_J (t : Nat → Int32) (a : Nat → Nat) (m l c : Nat) : Prop :=
  ∀ m' S l', m' < 2 → S < 32 → l' < 2 → ((m' ≠ m ∨ l' ≠ l) ∨ S < c ∨ ∃ s, s < 5 ∧ S = 2 ^ s) → t ((m' * 32 + S) * 2 + l') = nI (ff_st a m' S l')
theorem fk_J_end {t : Nat → Int32} {a : Nat → Nat} {m l : Nat} (h : fk_J t a m l 32) : fk_T t a :=
  fun m' S l' hm hS hl => h m' S l' hm hS hl (Or.inr (Or.inl hS))
theorem fk_J_step {t : Nat → Int32} {a : Nat → Nat} (ha : ff_ok a) {m l c : Nat} (hm : m < 2) (hl : l < 2) (hc : c < 32) (h0 : 0 < c) (h : fk_J t a m l c) :
    fk_J (upd t ((m * 32 + c) * 2 + l) (t ((m * 32 + fj_low c) * 2 + l) ||| t ((m * 32 + (c - fj_low c)) * 2 + l))) a m l (c + 1) := by
  obtain ⟨_, hle, hor, s, hs, hlow⟩ := fj_lowI c hc h0
  have e1 := h m (fj_low c) l hm (by omega) hl (Or.inr (Or.inr ⟨s, hs, hlow⟩))
  have hpos : 0 < fj_low c := by rw [hlow]; exact Nat.two_pow_pos s
  have e2 := h m (c - fj_low c) l hm (by omega) hl (Or.inr (Or.inl (by omega)))
  have e3 : nI (ff_st a m (fj_low c) l) ||| nI (ff_st a m (c - fj_low c) l) = nI (ff_st a m c l) := by
    rw [fj_or, ← ff_st_or ha hm hl, ← hor]
  intro m' S l' hm' hS hl' hh
  by_cases q : (m' * 32 + S) * 2 + l' = (m * 32 + c) * 2 + l
  · have q1 : m' = m := by omega
    have q2 : S = c := by omega
    have q3 : l' = l := by omega
    subst q1; subst q2; subst q3
    rw [pk_us, e1, e2, e3]
  · rw [pk_un q]
    apply h m' S l' hm' hS hl'
    rcases hh with hh | hh | hh
    · exact Or.inl hh
    · by_cases g : m' ≠ m ∨ l' ≠ l
      · exact Or.inl g
      · have : S ≠ c := fun e => q (by
          have : m' = m := Classical.byContradiction fun z => g (Or.inl z)
          have : l' = l := Classical.byContradiction fun z => g (Or.inr z)
          subst e; omega)
        exact Or.inr (Or.inl (by omega))
    · exact Or.inr (Or.inr hh)
/-- the table after the flip of one entry, ready to be joined -/
theorem fk_J_flip {t : Nat → Int32} {a : Nat → Nat} (ha : ff_ok a) {m s l u : Nat} (hm : m < 2) (hs : s < 5) (hl : l < 2) (hu : u < 5) (h : fk_T t a) :
    fk_J (upd t ((m * 32 + 2 ^ s) * 2 + l) (nI (a (10 * m + 2 * s + l) ^^^ 2 ^ u))) (fk_fl a (10 * m + 2 * s + l) u) m l 1 := by
  have ha' : ff_ok (fk_fl a (10 * m + 2 * s + l) u) := fk_fl_ok ha hu
  have h2 := fb_2lt hs
  have h2p : 0 < 2 ^ s := Nat.two_pow_pos s
  intro m' S l' hm' hS hl' hh
  by_cases q : (m' * 32 + S) * 2 + l' = (m * 32 + 2 ^ s) * 2 + l
  · have q1 : m' = m := by omega
    have q2 : S = 2 ^ s := by omega
    have q3 : l' = l := by omega
    subst q1; subst q2; subst q3
    rw [pk_us, ff_st_1 ha' hm hs hl, fk_fl_s]
  · rw [pk_un q, h m' S l' hm' hS hl']
    rcases hh with hh | hh | ⟨s', hs', rfl⟩
    · rw [fk_st_congr (a := fk_fl a (10 * m + 2 * s + l) u) (a' := a) (fun s' hs' => by
        unfold ff_r; rw [fk_fl_n (by omega)]) hl' S]
    · have : S = 0 := by omega
      subst this
      rw [ff_st_0 _ _ hl', ff_st_0 _ _ hl']
    · rw [ff_st_1 ha' hm' hs' hl', ff_st_1 ha hm' hs' hl']
      by_cases g : 10 * m' + 2 * s' + l' = 10 * m + 2 * s + l
      · have q1 : m' = m := by omega
        have q2 : s' = s := by omega
        have q3 : l' = l := by omega
        exact absurd (by rw [q1, q2, q3]) q
      · rw [fk_fl_n g]
/-! turning: fifty bits in one long -/
def fk_tn (a : Nat → Nat) (m c A : Nat) : Prop := A < 2 ^ 50 ∧ ∀ j, A.testBit j = true ↔ ∃ k, k < c ∧ j = 10 * (k % 5) + 5 * (k / 5 % 2) + k / 10 ∧ (a (10 * m + 2 * (k / 10) + k / 5 % 2)).testBit (k % 5) = true
theorem fk_tn_0 (a : Nat → Nat) (m : Nat) : fk_tn a m 0 0 :=
  ⟨by decide, fun j => ⟨fun h => by rw [Nat.zero_testBit] at h; exact Bool.noConfusion h, fun ⟨k, hk, _⟩ => absurd hk (Nat.not_lt_zero _)⟩⟩
theorem fk_tn_n {a : Nat → Nat} {m c A : Nat} (h : fk_tn a m c A) (hn : ¬ (a (10 * m + 2 * (c / 10) + c / 5 % 2)).testBit (c % 5) = true) : fk_tn a m (c + 1) A := by
  refine ⟨h.1, fun j => (h.2 j).trans ⟨fun ⟨k, hk, e⟩ => ⟨k, by omega, e⟩, fun ⟨k, hk, e1, e2⟩ => ?_⟩⟩
  have : k ≠ c := fun e => hn (e ▸ e2)
  exact ⟨k, by omega, e1, e2⟩
theorem fk_tn_y {a : Nat → Nat} {m c A : Nat} (h : fk_tn a m c A) (hc : c < 50) (hy : (a (10 * m + 2 * (c / 10) + c / 5 % 2)).testBit (c % 5) = true) : fk_tn a m (c + 1) (A ||| 2 ^ (10 * (c % 5) + 5 * (c / 5 % 2) + c / 10)) := by
  refine ⟨Nat.or_lt_two_pow h.1 (Nat.pow_lt_pow_right (by omega) (by omega)), fun j => ⟨fun hj => ?_, fun ⟨k, hk, e1, e2⟩ => ?_⟩⟩
  · rcases fe_or_e hj with hj | hj
    · obtain ⟨k, hk, e⟩ := (h.2 j).mp hj
      exact ⟨k, by omega, e⟩
    · rw [fb_2p] at hj
      exact ⟨c, by omega, hj.symm, hy⟩
  · by_cases q : k = c
    · subst q
      exact fb_orr (fb_2p.mpr e1.symm)
    · exact fb_ol ((h.2 j).mpr ⟨k, by omega, e1, e2⟩)
theorem fk_tn_v {a a' : Nat → Nat} {m A : Nat} (h : fk_tn a m 50 A) (hm : m < 2) (cv : ff_cv a a') (ok' : ff_ok a') : ∀ c, c < 10 → A / 2 ^ (5 * c) % 32 = a' (10 * m + c) := by
  intro c hc
  apply fb_ext (Nat.mod_lt _ (by omega)) (ok' _ (by omega))
  intro s hs
  have e : (A / 2 ^ (5 * c) % 32).testBit s = A.testBit (s + 5 * c) := by
    rw [show (32 : Nat) = 2 ^ 5 from rfl, Nat.testBit_mod_two_pow, Nat.testBit_div_two_pow]
    simp [hs]
  have base := cv m (c % 2) hm (by omega) s (c / 2) hs (by omega)
  unfold ff_r at base
  rw [show 10 * m + 2 * (c / 2) + c % 2 = 10 * m + c by omega] at base
  rw [e, h.2, ← base]
  constructor
  · rintro ⟨k, hk, e1, e2⟩
    have q1 : k / 10 = s := by omega
    have q2 : k / 5 % 2 = c % 2 := by omega
    have q3 : k % 5 = c / 2 := by omega
    rw [q1, q2, q3] at e2; exact e2
  · intro e2
    have k1 : (10 * s + 5 * (c % 2) + c / 2) / 10 = s := by omega
    have k2 : (10 * s + 5 * (c % 2) + c / 2) / 5 = 2 * s + c % 2 := by omega
    have k3 : (2 * s + c % 2) % 2 = c % 2 := by omega
    have k4 : (10 * s + 5 * (c % 2) + c / 2) % 5 = c / 2 := by omega
    refine ⟨10 * s + 5 * (c % 2) + c / 2, by omega, ?_, ?_⟩
    · rw [k1, k2, k3, k4]; omega
    · rw [k1, k2, k3, k4]; exact e2
/-! the words of the walk, in a long that stops growing -/
def fk_w (y W L : Nat) : Prop := (L ≤ 40 → y = W) ∧ (40 < L → 1099511627776 < y) ∧ y < 4398046511104
theorem fk_p40 {W L : Nat} (h : W < 2 ^ (L + 1)) (h2 : 1099511627776 ≤ W) : 40 ≤ L := by
  apply Classical.byContradiction
  intro hn
  have : 2 ^ (L + 1) ≤ 2 ^ 40 := Nat.pow_le_pow_right (by omega) (by omega)
  have e : (2 : Nat) ^ 40 = 1099511627776 := by decide
  omega
theorem fk_w_0 : fk_w 1 1 0 := ⟨fun _ => rfl, fun h => by omega, by omega⟩
theorem fk_w_t {y W L l : Nat} (h : fk_w y W L) (hW : W < 2 ^ (L + 1)) (hy : 1099511627776 < y) : fk_w y (2 * W + l) (L + 1) := by
  obtain ⟨h1, h2, h3⟩ := h
  have : 40 ≤ L := by
    by_cases q : L ≤ 40
    · have e := h1 q
      exact fk_p40 hW (by omega)
    · omega
  exact ⟨fun g => by omega, fun _ => hy, h3⟩
theorem fk_w_f {y W L l : Nat} (h : fk_w y W L) (hl : l < 2) (hL : 2 ^ L ≤ W) (hy : ¬ 1099511627776 < y) : fk_w (2 * y + l) (2 * W + l) (L + 1) := by
  obtain ⟨h1, h2, h3⟩ := h
  have q : L ≤ 40 := by
    apply Classical.byContradiction
    intro q
    exact hy (h2 (by omega))
  have e := h1 q
  subst e
  refine ⟨fun _ => rfl, fun g => ?_, by omega⟩
  have : L = 40 := by omega
  subst this
  have e : (2 : Nat) ^ 40 = 1099511627776 := by decide
  omega
theorem fk_w_d {y W L : Nat} (h : fk_w y W L) (h1 : 2 ^ L ≤ W) (h2 : W < 2 ^ (L + 1)) (hn : W ≠ 2 ^ 30) : (L ≤ 29 → y = W ∧ y ≤ 1073741824) ∧ (29 < L → 1073741824 < y) := by
  have e : (2 : Nat) ^ 30 = 1073741824 := by decide
  refine ⟨fun hL => ?_, fun hL => ?_⟩
  · have a := h.1 (by omega)
    have : 2 ^ (L + 1) ≤ 2 ^ 30 := Nat.pow_le_pow_right (by omega) (by omega)
    omega
  · have : 2 ^ 30 ≤ 2 ^ L := Nat.pow_le_pow_right (by omega) (by omega)
    by_cases q : L ≤ 40
    · have a := h.1 q
      omega
    · have a := h.2.1 (by omega)
      omega
end
section
/-! masks built by a loop over the sets; the groups of the turned machine -/
theorem fm_inj {x y : Nat} (hx : x < 2 ^ 32) (hy : y < 2 ^ 32) : nI x = nI y ↔ x = y := by
  constructor
  · intro h
    have := congrArg (fun z : Int32 => z.toBitVec.toNat) h
    have h1 : (nI x).toBitVec.toNat = (nI y).toBitVec.toNat := this
    rw [pk_tn hx, pk_tn hy] at h1
    exact h1
  · intro h; rw [h]
noncomputable def fm_k (p : Nat → Prop) : Nat → Nat
  | 0 => 0
  | c + 1 => @ite Nat (p c) (Classical.propDecidable _) (fm_k p c ||| 2 ^ c) (fm_k p c)
theorem fm_k_t {p : Nat → Prop} {c : Nat} (h : p c) : fm_k p (c + 1) = fm_k p c ||| 2 ^ c := by
  show @ite Nat (p c) (Classical.propDecidable _) _ _ = _
  exact if_pos h
theorem fm_k_f {p : Nat → Prop} {c : Nat} (h : ¬ p c) : fm_k p (c + 1) = fm_k p c := by
  show @ite Nat (p c) (Classical.propDecidable _) _ _ = _
  exact if_neg h
theorem fm_k_bit (p : Nat → Prop) : ∀ c i, (fm_k p c).testBit i = true ↔ i < c ∧ p i := by
  intro c
  induction c with
  | zero =>
    intro i
    show (0 : Nat).testBit i = true ↔ _
    rw [Nat.zero_testBit]
    exact ⟨fun h => Bool.noConfusion h, fun h => absurd h.1 (Nat.not_lt_zero _)⟩
  | succ c ih =>
    intro i
    by_cases h : p c
    · rw [fm_k_t h, Nat.testBit_or, Bool.or_eq_true, ih, fb_2p]
      constructor
      · rintro (g | g)
        · exact ⟨by omega, g.2⟩
        · subst g; exact ⟨by omega, h⟩
      · intro g
        by_cases q : i = c
        · exact Or.inr q.symm
        · exact Or.inl ⟨by omega, g.2⟩
    · rw [fm_k_f h, ih]
      constructor
      · intro g; exact ⟨by omega, g.2⟩
      · intro g
        have : i ≠ c := fun e => h (e ▸ g.2)
        exact ⟨by omega, g.2⟩
theorem fm_k_lt (p : Nat → Prop) : ∀ c, c ≤ 32 → fm_k p c < 2 ^ 32 := by
  intro c
  induction c with
  | zero => intro _; show 0 < 2 ^ 32; decide
  | succ c ih =>
    intro hc
    have := ih (by omega)
    by_cases h : p c
    · rw [fm_k_t h]; exact Nat.or_lt_two_pow this (fe_2p32 (by omega))
    · rw [fm_k_f h]; exact this
theorem fm_k_eq (p q : Nat → Prop) : fm_k p 32 = fm_k q 32 ↔ ∀ i, i < 32 → (p i ↔ q i) := by
  constructor
  · intro h i hi
    have a := fm_k_bit p 32 i
    have b := fm_k_bit q 32 i
    rw [h] at a
    constructor
    · intro g; exact (b.mp (a.mpr ⟨hi, g⟩)).2
    · intro g; exact (a.mp (b.mpr ⟨hi, g⟩)).2
  · intro h
    apply fe_ext32 (fm_k_lt p 32 (Nat.le_refl _)) (fm_k_lt q 32 (Nat.le_refl _))
    intro t ht
    rw [fm_k_bit, fm_k_bit]
    exact ⟨fun g => ⟨g.1, (h t ht).mp g.2⟩, fun g => ⟨g.1, (h t ht).mpr g.2⟩⟩
/-- the sets of K that meet S -/
def fm_p (K S T : Nat) : Prop := K.testBit T = true ∧ fb_m T S
noncomputable def fm_M (K S : Nat) : Nat := fm_k (fm_p K S) 32
theorem fm_M_lt (K S : Nat) : fm_M K S < 2 ^ 32 := fm_k_lt _ 32 (Nat.le_refl _)
/-- the sets of K that a letter leads (backwards) into the group G -/
def fm_q (d' : Nat → Nat → Nat) (K G l T : Nat) : Prop := K.testBit T = true ∧ G.testBit (d' T l) = true
section
variable {a a' b e : Nat → Nat} {m K : Nat}
theorem fm_M_I (ha : ff_ok a) (ha' : ff_ok a') (cv : ff_cv a a') (hm : m < 2) (he : e m < 32) (hK : ∀ s, K.testBit s = true ↔ fa_R (ff_st a' m) (e m) s) {S S' : Nat} (hS : S < 32) (hS' : S' < 32) :
    fm_M K S = fm_M K S' ↔ fa_I (ff_st a m) (ff_g e m) S S' := by
  have ner := fe_ner (e := e m) (ff_B ha hm (show 0 < 2 by omega)) (ff_B ha hm (show 1 < 2 by omega)) (cv m 0 hm (by omega)) (cv m 1 hm (by omega)) hS hS'
  have tgt : fa_I (ff_st a m) (ff_g e m) S S' ↔ fa_I (fb_st (ff_r a m 0) (ff_r a m 1)) (fun S => fb_m S (e m)) S S' := Iff.rfl
  rw [tgt, ← ner]
  unfold fm_M
  rw [fm_k_eq]
  constructor
  · intro h T hT
    have hK' := (hK T).mpr hT
    have := h T (fa_R_lt (ff_st_c ha' hm) he hT)
    exact ⟨fun g => (this.mp ⟨hK', g⟩).2, fun g => (this.mpr ⟨hK', g⟩).2⟩
  · intro h T hT
    constructor
    · rintro ⟨g1, g2⟩; exact ⟨g1, (h T ((hK T).mp g1)).mp g2⟩
    · rintro ⟨g1, g2⟩; exact ⟨g1, (h T ((hK T).mp g1)).mpr g2⟩
theorem fm_q_M (ha : ff_ok a) (ha' : ff_ok a') (cv : ff_cv a a') (hm : m < 2) (hK : ∀ s, K.testBit s = true ↔ fa_R (ff_st a' m) (e m) s) {S l : Nat} (hS : S < 32) (hl : l < 2) :
    fm_k (fm_q (ff_st a' m) K (fm_M K S) l) 32 = fm_M K (ff_st a m S l) := by
  unfold fm_M
  rw [fm_k_eq]
  intro T hT
  have adj := fe_adj (l := l) (T := T) (ff_B ha hm (show 0 < 2 by omega)) (ff_B ha hm (show 1 < 2 by omega)) (cv m 0 hm (by omega)) (cv m 1 hm (by omega)) hS
  have hl' : l = 0 ∨ l = 1 := by omega
  have cl : K.testBit T = true → K.testBit (ff_st a' m T l) = true := by
    intro h
    rw [hK] at h ⊢
    rcases hl' with rfl | rfl
    · exact fa_R_0 h
    · exact fa_R_1 h
  constructor
  · rintro ⟨g1, g2⟩
    have := ((fm_k_bit _ 32 _).mp g2).2.2
    exact ⟨g1, adj.mpr this⟩
  · rintro ⟨g1, g2⟩
    exact ⟨g1, (fm_k_bit _ 32 _).mpr ⟨ff_st_lt ha' hm _ _, cl g1, adj.mp g2⟩⟩
end
/-- the list of groups: no doubles, each the group of a reached set, the first one's among them -/
def fm_G (R : Nat → Prop) (M : Nat → Nat) (n : Nat) (G : Nat → Int32) : Prop :=
  (∀ i j, i < n → j < n → G i = G j → i = j) ∧ (∀ i, i < n → ∃ s, s < 32 ∧ R s ∧ G i = nI (M s))
theorem fm_G_32 {R : Nat → Prop} {M : Nat → Nat} {n : Nat} {G : Nat → Int32} (h : fm_G R M n G) : n ≤ 32 :=
  fe_short (M := fun s => nI (M s)) h.1 (fun i hi => by
    obtain ⟨s, hs, _, e⟩ := h.2 i hi
    exact ⟨s, hs, e⟩)
theorem fm_G_new {R : Nat → Prop} {M : Nat → Nat} {n s : Nat} {G : Nat → Int32} (h : fm_G R M n G) (hs : s < 32) (hr : R s) (hn : ∀ i, i < n → G i ≠ nI (M s)) : fm_G R M (n + 1) (upd G n (nI (M s))) := by
  refine ⟨fun i j hi hj e => ?_, fun i hi => ?_⟩
  · by_cases q : i = n
    · subst q
      by_cases q' : j = i
      · exact q'.symm
      · rw [pk_us, pk_un q'] at e
        exact absurd e.symm (hn j (by omega))
    · by_cases q' : j = n
      · subst q'
        rw [pk_us, pk_un q] at e
        exact absurd e (hn i (by omega))
      · rw [pk_un q, pk_un q'] at e
        exact h.1 i j (by omega) (by omega) e
  · by_cases q : i = n
    · subst q
      exact ⟨s, hs, hr, pk_us⟩
    · obtain ⟨s', h1, h2, h3⟩ := h.2 i (by omega)
      exact ⟨s', h1, h2, by rw [pk_un q]; exact h3⟩
theorem fm_G_end {R : Nat → Prop} {M : Nat → Nat} {n : Nat} {G : Nat → Int32} (hM : ∀ s, M s < 2 ^ 32) (h : fm_G R M n G) (hall : ∀ s, s < 32 → R s → ∃ i, i < n ∧ G i = nI (M s)) :
    n = fa_ct (fe_nb R (fun s t => M s = M t)) 32 := by
  have := fe_list (M := fun s => nI (M s)) h.1 h.2 hall
  rw [this]
  apply fe_nb_congr (fun _ _ => Iff.rfl)
  intro s t _ _ _ _
  exact fm_inj (hM s) (hM t)
/-- worked off up to i: both letters' groups are on the list -/
def fm_W (d : Nat → Nat → Nat) (M : Nat → Nat) (n i : Nat) (G : Nat → Int32) : Prop :=
  ∀ j s, j < i → s < 32 → G j = nI (M s) → (∃ k, k < n ∧ G k = nI (M (d s 0))) ∧ (∃ k, k < n ∧ G k = nI (M (d s 1)))
end
section
/-! X: ranges, steps, bits, tables -/
def fx_P (a a' b e : Nat → Nat) : Prop := ff_ok a ∧ ff_ok a' ∧ ff_cv a a' ∧ fk_ok b ∧ fk_ok e
def fx_S (a a' b e : Nat → Nat) (aO aB aS aE : Nat → Int32) : Prop := fk_T aO a ∧ fk_T aB a' ∧ fk_V aS b ∧ fk_V aE e
def fx_bad (x : Int32) (n : Nat) : Prop := x < 0 ∨ nI n ≤ x
theorem fx_ix3 (x : Int32) {n : Nat} (hn : n < 2 ^ 31) : fx_bad x n ∨ ∃ j : Nat, j < n ∧ x = nI j := by
  rcases pk_ix x hn with h | h | h
  · exact Or.inl (Or.inl h)
  · exact Or.inl (Or.inr h)
  · exact Or.inr h
theorem fx_ne {x : Int32} {n k : Nat} (h : fx_bad x n) (hk : k < n) (hn : n < 2 ^ 31) : ¬ x = nI k := by
  intro e
  subst e
  rcases h with h | h
  · exact nI_pos (by omega) h
  · exact nI_ge hk hn h
theorem fx_m1 (x : Int32) : x + (-1) = x - 1 := (Int32.sub_eq_add_neg x 1).symm
theorem fx_n1 : ¬ (1 : Int32) = 0 := by decide
theorem fx_ix (m S l : Nat) : ((nI m * 32) + nI S) * 2 + nI l = nI ((m * 32 + S) * 2 + l) := by
  show (nI m * nI 32 + nI S) * nI 2 + nI l = _
  rw [pk_mul, nI_add, pk_mul, nI_add]
theorem fx_get {α : Type} {t : Nat → α} {k : Nat} (h : k < 2 ^ 31) : t (nI k).toNatClampNeg = t k := by rw [nI_clamp h]
theorem fx_put {t : Nat → Int32} {k : Nat} {x y : Int32} (h : k < 2 ^ 31) (e : x = y) : upd t (nI k).toNatClampNeg x = upd t k y := by rw [nI_clamp h, e]
theorem fx_nb1 : vp_nar .boolean 1 = 1 := rfl
theorem fx_nb0 : vp_nar .boolean 0 = 0 := rfl
theorem fx_01 {A B : Prop} {z : Int32} {p : Prop} (h : z = 1 ∧ p ∨ z = 0 ∧ ¬ p) (h1 : p → B) (h0 : ¬ p → A) : (z = 0 → A) ∧ (¬ z = 0 → B) := by
  rcases h with ⟨rfl, hp⟩ | ⟨rfl, hp⟩
  · exact br_f fx_n1 (h1 hp)
  · exact br_t rfl (h0 hp)
/-- an answer yes or no -/
def fx_tv (p : Prop) (post : Int32 → Prop) : Prop := (p → post 1) ∧ (¬ p → post 0)
theorem fx_tv_m {p : Prop} {post : Int32 → Prop} (h1 : p → post 1) (h0 : ¬ p → post 0) : fx_tv p post := ⟨h1, h0⟩
theorem fx_tv_c {p A B : Prop} (h1 : p → B) (h0 : ¬ p → A) : fx_tv p (fun r => (r = 0 → A) ∧ (¬ r = 0 → B)) :=
  ⟨fun h => br_f fx_n1 (h1 h), fun h => br_t rfl (h0 h)⟩
theorem fx_tv_n {p : Prop} {post : Int32 → Prop} (h : fx_tv p post) : fx_tv p (fun r => narrow .boolean (.int r) = .int r ∧ post r) :=
  ⟨fun g => ⟨rfl, h.1 g⟩, fun g => ⟨rfl, h.2 g⟩⟩
theorem fx_tv_e {p q A B : Prop} (h1 : (p ↔ q) → A) (h0 : ¬ (p ↔ q) → B) : fx_tv p (fun r => fx_tv q (fun r' => (r = r' → A) ∧ (¬ r = r' → B))) := by
  refine ⟨fun hp => ⟨fun hq => br_t rfl (h1 ⟨fun _ => hq, fun _ => hp⟩), fun hq => br_f fx_n1 (h0 (fun g => hq (g.mp hp)))⟩,
    fun hp => ⟨fun hq => br_f (fun z => fx_n1 z.symm) (h0 (fun g => hp (g.mpr hq))), fun hq => br_t rfl (h1 ⟨fun g => absurd g hp, fun g => absurd g hq⟩)⟩⟩
theorem fx_below_t {post : Int32 → Prop} {j : Nat} (n : Nat) (h : j < n) (hn : n < 2 ^ 31) (hp : post 1) : wpX_isBelow post (nI j) (nI n) :=
  br_f (nI_pos (by omega)) (br_f (nI_ge h hn) hp)
theorem fx_below_f {post : Int32 → Prop} {x : Int32} {n : Nat} (h : fx_bad x n) (hp : post 0) : wpX_isBelow post x (nI n) := by
  by_cases h0 : x < 0
  · exact br_t h0 hp
  · rcases h with h | h
    · exact absurd h h0
    · exact br_f h0 (br_t h hp)
theorem fx_bel_t {A B : Prop} {j : Nat} (n : Nat) (h : j < n) (hn : n < 2 ^ 31) (hp : B) : wpX_isBelow (fun r => (r = 0 → A) ∧ (¬ r = 0 → B)) (nI j) (nI n) :=
  fx_below_t n h hn (br_f fx_n1 hp)
theorem fx_bel_f {A B : Prop} {x : Int32} {n : Nat} (h : fx_bad x n) (hp : A) : wpX_isBelow (fun r => (r = 0 → A) ∧ (¬ r = 0 → B)) x (nI n) :=
  fx_below_f h (br_t rfl hp)
theorem fx_step {post : Int32 → Prop} {m S l : Nat} (h : post (nI ((m * 32 + S) * 2 + l))) : wpX_stepOf post (nI m) (nI S) (nI l) := by
  unfold wpX_stepOf
  rw [fx_ix]; exact h
theorem fx_hb {post : Int32 → Prop} {K t : Nat} (hK : K < 2 ^ 32) (ht : t < 32) (h : fx_tv (K.testBit t = true) post) : wpX_hasBit post (nI K) (nI t) :=
  ⟨fun z => h.2 ((fj_b0 hK ht).mp z), fun z => h.1 (Classical.byContradiction fun c => z ((fj_b0 hK ht).mpr c))⟩
theorem fx_wordx (x : Int32) : (x < 1 ∨ 2048 ≤ x) ∨ ∃ w : Nat, 1 ≤ w ∧ w < 2048 ∧ x = nI w := by
  rcases fx_ix3 x (n := 2048) (by omega) with h | ⟨j, hj, rfl⟩
  · rcases h with h | h
    · exact Or.inl (Or.inl (Int32.lt_trans h (by decide)))
    · exact Or.inl (Or.inr h)
  · by_cases h0 : j = 0
    · subst h0; exact Or.inl (Or.inl (by decide))
    · exact Or.inr ⟨j, by omega, hj, rfl⟩
theorem fx_isWord_t {post : Int32 → Prop} {w : Nat} (h1 : 1 ≤ w) (h2 : w < 2048) (hp : post 1) : wpX_isWord post (nI w) :=
  br_f (nI_nlt (b := 1) h1 (by omega)) (br_f (nI_ge (b := 2048) h2 (by omega)) hp)
theorem fx_isWord_f {post : Int32 → Prop} {x : Int32} (h : x < 1 ∨ 2048 ≤ x) (hp : post 0) : wpX_isWord post x := by
  by_cases h0 : x < 1
  · exact br_t h0 hp
  · rcases h with h | h
    · exact absurd h h0
    · exact br_f h0 (br_t h hp)
section
variable {a a' b e : Nat → Nat} {aO aB aS aE cC cF cS cA cG cL cM cN cP cW cT cQ : Nat → Int32} {m S l : Nat}
theorem fx_tab {t : Nat → Int32} (h : fk_T t a) (hm : m < 2) (hS : S < 32) (hl : l < 2) : t (nI ((m * 32 + S) * 2 + l)).toNatClampNeg = nI (ff_st a m S l) := by
  rw [nI_clamp (by omega)]; exact h m S l hm hS hl
theorem fx_vec {t : Nat → Int32} (h : fk_V t b) (hm : m < 2) : t (nI m).toNatClampNeg = nI (b m) := by
  rw [nI_clamp (by omega)]; exact h m hm
theorem fx_and0 (x y : Nat) (hx : x < 32) : nI x &&& nI y = 0 ↔ ¬ fb_m x y := by
  rw [nx_and]
  have h : x &&& y < 32 := Nat.lt_of_le_of_lt Nat.and_le_left hx
  have := nI_eq (a := x &&& y) (b := 0) (by omega) (by omega)
  rw [nI_0] at this
  rw [this]
  unfold fb_m
  exact ⟨fun z q => q z, fun z => Classical.byContradiction fun q => z q⟩
theorem fx_ending {post : Int32 → Prop} (h : fx_S a a' b e aO aB aS aE) (hm : m < 2) (hS : S < 32) (hp : fx_tv (ff_g e m S) post) : wpX_isEnding post (aO, aB, aS, aE, cC, cF, cS, cA, cG, cL, cM, cN, cP, cW, cT, cQ) (nI m) (nI S) := by
  refine ⟨vp_in_nI hm (by omega), ?_⟩
  rw [fx_vec h.2.2.2 hm]
  exact ⟨fun z => hp.2 ((fx_and0 _ _ hS).mp z), fun z => hp.1 (Classical.byContradiction fun c => z ((fx_and0 _ _ hS).mpr c))⟩
theorem fx_let_go (post : Int32 → Prop) (w : Nat) (h1 : 1 ≤ w) (h2 : w < 8192) (hp : post (nI (Nat.log2 w))) : ∀ d c k, c + d = 13 → 1 ≤ c →
    ((k < c ∧ k ≤ Nat.log2 w) ∧ (∀ i, i < c → 2 ^ i ≤ w → i ≤ k)) → wX_lettersIn_4 post (nI w) (d + 1) (nI k) (nI c) := by
  have hw0 : w ≠ 0 := by omega
  intro d
  induction d with
  | zero =>
    intro c k hc _ hk
    have hlog : Nat.log2 w < 13 := (Nat.log2_lt hw0).mpr h2
    have : k = Nat.log2 w := by
      have := hk.2 (Nat.log2 w) (by omega) (Nat.log2_self_le hw0)
      omega
    refine pk_lt 12 c (fun _ => ?_) (fun q => absurd q (by omega))
    rw [this]; exact hp
  | succ d ih =>
    intro c k hc h0 hk
    refine pk_lt 12 c (fun q => absurd q (by omega)) (fun q => ?_)
    have e : nI w >>> (nI c &&& 31) = nI (w / 2 ^ c) := pk_shrN (by omega) _ c (s_l c (by omega))
    have hd : w / 2 ^ c < 2 ^ 31 := by have := fj_div_lt c h2; omega
    rw [e]
    refine pk_eq (w / 2 ^ c) 0 (fun z => ?_) (fun z => ?_) rfl rfl hd (by omega)
    · refine nm_r (nI_1 c) (ih (c + 1) k (by omega) (by omega) ⟨⟨by omega, hk.1.2⟩, fun i hi hw => ?_⟩)
      by_cases q : i = c
      · subst q
        have := Nat.div_pos hw (Nat.two_pow_pos i)
        omega
      · exact hk.2 i (by omega) hw
    · have hge : 2 ^ c ≤ w := by
        apply Classical.byContradiction
        intro g
        exact z (Nat.div_eq_of_lt (by omega))
      refine nm_r (nI_1 c) (ih (c + 1) c (by omega) (by omega) ⟨⟨by omega, (Nat.le_log2 hw0).mpr hge⟩, fun i hi _ => by omega⟩)
theorem fx_letters {post : Int32 → Prop} {w : Nat} (h1 : 1 ≤ w) (h2 : w < 8192) (hp : post (nI (Nat.log2 w))) : wpX_lettersIn post (nI w) := by
  refine ⟨13, fx_let_go post w h1 h2 hp 12 1 0 rfl (Nat.le_refl _) ⟨⟨by omega, Nat.zero_le _⟩, fun i hi _ => by omega⟩⟩
theorem fx_after_go {post : Int32 → Prop} (P : fx_P a a' b e) (h : fx_S a a' b e aO aB aS aE) (hm : m < 2) (w : Nat) (hw : w < 8192) : ∀ k S, k ≤ 13 → S < 32 → post (nI (fb_rn (ff_st a m) w k S)) →
    wX_statesAfter_15 post (nI m) (nI w) aO aB aS aE cC cF cS cA cG cL cM cN cP cW cT cQ (k + 1) (nI S) (nI k - 1) := by
  intro k
  induction k with
  | zero =>
    intro S _ _ hp
    exact br_t (by decide) hp
  | succ k ih =>
    intro S hk hS hp
    rw [nI_pred]
    refine br_f (nI_pos (by omega)) ?_
    rw [fj_sbit (by omega) (by omega)]
    have hl : w / 2 ^ k % 2 < 2 := Nat.mod_lt _ (by omega)
    refine fx_step ⟨vp_in_nI (by omega) (by omega), nm_r (fx_tab h.1 hm hS hl) (nm_r (fx_m1 (nI k)) ?_)⟩
    have := ih (ff_st a m S (w / 2 ^ k % 2)) (by omega) (ff_st_lt P.1 hm _ _) hp
    exact this
theorem fx_statesAfter {post : Int32 → Prop} (P : fx_P a a' b e) (h : fx_S a a' b e aO aB aS aE) (hm : m < 2) {w : Nat} (h1 : 1 ≤ w) (hw : w < 8192) (hp : post (nI (fb_wd (ff_st a m) (b m) w))) :
    wpX_statesAfter post (aO, aB, aS, aE, cC, cF, cS, cA, cG, cL, cM, cN, cP, cW, cT, cQ) (nI m) (nI w) := by
  have hlog : Nat.log2 w < 13 := (Nat.log2_lt (by omega)).mpr hw
  exact ⟨vp_in_nI hm (by omega), nm_r (fx_vec h.2.2.1 hm) (fx_letters h1 hw (nm_e ⟨_, fx_after_go P h hm w hw _ _ (by omega) (P.2.2.2.1 m hm) hp⟩))⟩
/-- the word is accepted -/
def fx_acc (a b e : Nat → Nat) (m w : Nat) : Prop := ff_g e m (fb_wd (ff_st a m) (b m) w)
theorem fx_wd_lt (P : fx_P a a' b e) (hm : m < 2) (w : Nat) : fb_wd (ff_st a m) (b m) w < 32 :=
  fb_rn_lt (ff_B P.1 hm (by omega)) (ff_B P.1 hm (by omega)) w _ _ (P.2.2.2.1 m hm)
theorem fx_acceptsWord {post : Int32 → Prop} (P : fx_P a a' b e) (h : fx_S a a' b e aO aB aS aE) (hm : m < 2) {w : Nat} (h1 : 1 ≤ w) (hw : w < 8192) (hp : fx_tv (fx_acc a b e m w) post) :
    wpX_acceptsWord post (aO, aB, aS, aE, cC, cF, cS, cA, cG, cL, cM, cN, cP, cW, cT, cQ) (nI m) (nI w) := by
  unfold wpX_acceptsWord
  exact fx_statesAfter P h hm h1 hw (fx_ending h hm (fx_wd_lt P hm w) (fx_tv_n hp))
noncomputable def fx_cnt (a b e : Nat → Nat) (m : Nat) : Nat → Nat → Nat
  | _, 0 => 0
  | w, n + 1 => @ite Nat (fx_acc a b e m w) (Classical.propDecidable _) (fx_cnt a b e m (w + 1) n + 1) (fx_cnt a b e m (w + 1) n)
theorem fx_cnt_t {w n : Nat} (h : fx_acc a b e m w) : fx_cnt a b e m w (n + 1) = fx_cnt a b e m (w + 1) n + 1 := by
  show @ite Nat _ (Classical.propDecidable _) _ _ = _
  exact if_pos h
theorem fx_cnt_f {w n : Nat} (h : ¬ fx_acc a b e m w) : fx_cnt a b e m w (n + 1) = fx_cnt a b e m (w + 1) n := by
  show @ite Nat _ (Classical.propDecidable _) _ _ = _
  exact if_neg h
theorem fx_between_go {post : Int32 → Prop} (P : fx_P a a' b e) (h : fx_S a a' b e aO aB aS aE) (hm : m < 2) (to : Nat) (hto : to ≤ 8192) : ∀ n w c, 1 ≤ w → w + n = to → post (nI (c + fx_cnt a b e m w n)) →
    wX_acceptedBetween_6 post (nI m) (nI to) aO aB aS aE cC cF cS cA cG cL cM cN cP cW cT cQ (n + 1) (nI c) (nI w) := by
  intro n
  induction n with
  | zero =>
    intro w c h1 hn hp
    exact pk_le to w (fun _ => hp) (fun q => absurd q (by omega))
  | succ n ih =>
    intro w c h1 hn hp
    refine pk_le to w (fun q => absurd q (by omega)) (fun _ => fx_acceptsWord P h hm h1 (by omega) (fx_tv_c (fun g => ?_) (fun g => ?_)))
    · rw [fx_cnt_t g] at hp
      refine nm_r (nI_1 c) (nm_r (nI_1 w) (ih (w + 1) (c + 1) (by omega) (by omega) ?_))
      rw [show c + 1 + fx_cnt a b e m (w + 1) n = c + (fx_cnt a b e m (w + 1) n + 1) by omega]
      exact hp
    · rw [fx_cnt_f g] at hp
      exact nm_r (nI_1 w) (ih (w + 1) c (by omega) (by omega) hp)
theorem fx_between {post : Int32 → Prop} (P : fx_P a a' b e) (h : fx_S a a' b e aO aB aS aE) (hm : m < 2) {w to : Nat} (hto : to ≤ 8192) (h1 : 1 ≤ w) (hw : w ≤ to) (hp : post (nI (fx_cnt a b e m w (to - w)))) :
    wpX_acceptedBetween post (aO, aB, aS, aE, cC, cF, cS, cA, cG, cL, cM, cN, cP, cW, cT, cQ) (nI m) (nI w) (nI to) := by
  refine ⟨_, fx_between_go P h hm to hto (to - w) w 0 h1 (by omega) ?_⟩
  rw [Nat.zero_add]; exact hp
end
end
section
/-! X: arrow, cut, ends, turn -/
section
variable {a a' b e : Nat → Nat} {aO aB aS aE cC cF cS cA cG cL cM cN cP cW cT cQ : Nat → Int32} {m s l t : Nat}
theorem fx_join_o {post : SX → Prop} (ha : ff_ok a) (hm : m < 2) (hl : l < 2) : ∀ d c (aO : Nat → Int32), c + d = 32 → 0 < c → fk_J aO a m l c → (∀ aO' : Nat → Int32, fk_T aO' a → post (aO', aB, aS, aE, cC, cF, cS, cA, cG, cL, cM, cN, cP, cW, cT, cQ)) →
    wX_joinSets__onward_2 post (nI m) (nI l) (d + 1) (nI c) aO aB aS aE cC cF cS cA cG cL cM cN cP cW cT cQ := by
  intro d
  induction d with
  | zero =>
    intro c aO hc _ hJ hp
    have : c = 32 := by omega
    subst this
    exact pk_le 32 32 (fun _ => hp aO (fk_J_end hJ)) (fun q => absurd q (by omega))
  | succ d ih =>
    intro c aO hc h0 hJ hp
    obtain ⟨hlow, hle, _⟩ := fj_lowI c (by omega) h0
    refine pk_le 32 c (fun q => absurd q (by omega)) (fun _ => nm_r hlow ?_)
    refine fx_step ⟨vp_in_nI (by omega) (by omega), nm_r (fx_get (by omega)) ?_⟩
    rw [pk_sub hle]
    refine fx_step ⟨vp_in_nI (by omega) (by omega), nm_r (fx_get (by omega)) ?_⟩
    refine fx_step ⟨vp_in_nI (by omega) (by omega), nm_r (fx_put (by omega) rfl) (nm_r (nI_1 c) ?_)⟩
    exact ih (c + 1) _ (by omega) (by omega) (fk_J_step ha hm hl (by omega) h0 hJ) hp
theorem fx_join_b {post : SX → Prop} (ha : ff_ok a) (hm : m < 2) (hl : l < 2) : ∀ d c (aB : Nat → Int32), c + d = 32 → 0 < c → fk_J aB a m l c → (∀ aB' : Nat → Int32, fk_T aB' a → post (aO, aB', aS, aE, cC, cF, cS, cA, cG, cL, cM, cN, cP, cW, cT, cQ)) →
    wX_joinSets__backward_2 post (nI m) (nI l) (d + 1) (nI c) aO aB aS aE cC cF cS cA cG cL cM cN cP cW cT cQ := by
  intro d
  induction d with
  | zero =>
    intro c aB hc _ hJ hp
    have : c = 32 := by omega
    subst this
    exact pk_le 32 32 (fun _ => hp aB (fk_J_end hJ)) (fun q => absurd q (by omega))
  | succ d ih =>
    intro c aB hc h0 hJ hp
    obtain ⟨hlow, hle, _⟩ := fj_lowI c (by omega) h0
    refine pk_le 32 c (fun q => absurd q (by omega)) (fun _ => nm_r hlow ?_)
    refine fx_step ⟨vp_in_nI (by omega) (by omega), nm_r (fx_get (by omega)) ?_⟩
    rw [pk_sub hle]
    refine fx_step ⟨vp_in_nI (by omega) (by omega), nm_r (fx_get (by omega)) ?_⟩
    refine fx_step ⟨vp_in_nI (by omega) (by omega), nm_r (fx_put (by omega) rfl) (nm_r (nI_1 c) ?_)⟩
    exact ih (c + 1) _ (by omega) (by omega) (fk_J_step ha hm hl (by omega) h0 hJ) hp
theorem fx_flip {post : SX → Prop} (P : fx_P a a' b e) (h : fx_S a a' b e aO aB aS aE) (hm : m < 2) (hs : s < 5) (hl : l < 2) (ht : t < 5)
    (hp : ∀ aO' aB' : Nat → Int32, fk_T aO' (fk_fl a (10 * m + 2 * s + l) t) → fk_T aB' (fk_fl a' (10 * m + 2 * t + l) s) → post (aO', aB', aS, aE, cC, cF, cS, cA, cG, cL, cM, cN, cP, cW, cT, cQ)) :
    wpX_flipArrow post (aO, aB, aS, aE, cC, cF, cS, cA, cG, cL, cM, cN, cP, cW, cT, cQ) (nI m) (nI s) (nI l) (nI t) := by
  have h2s := fb_2lt hs
  have h2t := fb_2lt ht
  unfold wpX_flipArrow
  dsimp only
  rw [fj_one (by omega : s < 32), fj_one (by omega : t < 32)]
  refine fx_step ⟨vp_in_nI (by omega) (by omega), vp_in_nI (by omega) (by omega), nm_r (fx_put (y := nI (a (10 * m + 2 * s + l) ^^^ 2 ^ t)) (by omega) ?_) ?_⟩
  · rw [fx_tab h.1 hm h2s hl, ff_st_1 P.1 hm hs hl, nx_xor]
  refine fx_step ⟨vp_in_nI (by omega) (by omega), vp_in_nI (by omega) (by omega), nm_r (fx_put (y := nI (a' (10 * m + 2 * t + l) ^^^ 2 ^ s)) (by omega) ?_) ?_⟩
  · rw [fx_tab h.2.1 hm h2t hl, ff_st_1 P.2.1 hm ht hl, nx_xor]
  refine ⟨_, fx_join_o (fk_fl_ok P.1 ht) hm hl 31 1 _ rfl (by omega) (fk_J_flip P.1 hm hs hl ht h.1) (fun aO' hO => ?_)⟩
  refine ⟨_, fx_join_b (fk_fl_ok P.2.1 hs) hm hl 31 1 _ rfl (by omega) (fk_J_flip P.2.1 hm ht hl hs h.2.1) (fun aB' hB => ?_)⟩
  exact hp aO' aB' hO hB
theorem fx_flip_P (P : fx_P a a' b e) (hs : s < 5) (hl : l < 2) (ht : t < 5) : fx_P (fk_fl a (10 * m + 2 * s + l) t) (fk_fl a' (10 * m + 2 * t + l) s) b e :=
  ⟨fk_fl_ok P.1 ht, fk_fl_ok P.2.1 hs, fk_fl_cv P.2.2.1 hs hl ht, P.2.2.2.1, P.2.2.2.2⟩
theorem fx_hasArrow {post : Int32 → Prop} (P : fx_P a a' b e) (h : fx_S a a' b e aO aB aS aE) (hm : m < 2) (hs : s < 5) (hl : l < 2) (ht : t < 5)
    (hp : fx_tv ((a (10 * m + 2 * s + l)).testBit t = true) post) : wpX_hasArrow post (aO, aB, aS, aE, cC, cF, cS, cA, cG, cL, cM, cN, cP, cW, cT, cQ) (nI m) (nI s) (nI l) (nI t) := by
  have h2s := fb_2lt hs
  have hi := P.1 (10 * m + 2 * s + l) (by omega)
  unfold wpX_hasArrow
  dsimp only
  rw [fj_one (by omega : s < 32)]
  refine fx_step ⟨vp_in_nI (by omega) (by omega), ?_⟩
  rw [fx_tab h.1 hm h2s hl, ff_st_1 P.1 hm hs hl]
  exact fx_hb (by omega) (by omega) (fx_tv_n hp)
/-- all four of an arrow are in range -/
def fx_four (x y z w : Int32) (m s l t : Nat) : Prop := m < 2 ∧ s < 5 ∧ l < 2 ∧ t < 5 ∧ x = nI m ∧ y = nI s ∧ z = nI l ∧ w = nI t
theorem fx_four_x (x y z w : Int32) : (fx_bad x 2 ∨ fx_bad y 5 ∨ fx_bad z 2 ∨ fx_bad w 5) ∨ ∃ m s l t, fx_four x y z w m s l t := by
  rcases fx_ix3 x (n := 2) (by omega) with h | ⟨m, hm, ex⟩
  · exact Or.inl (Or.inl h)
  rcases fx_ix3 y (n := 5) (by omega) with h | ⟨s, hs, ey⟩
  · exact Or.inl (Or.inr (Or.inl h))
  rcases fx_ix3 z (n := 2) (by omega) with h | ⟨l, hl, ez⟩
  · exact Or.inl (Or.inr (Or.inr (Or.inl h)))
  rcases fx_ix3 w (n := 5) (by omega) with h | ⟨t, ht, ew⟩
  · exact Or.inl (Or.inr (Or.inr (Or.inr h)))
  exact Or.inr ⟨m, s, l, t, hm, hs, hl, ht, ex, ey, ez, ew⟩
theorem fx_range_t {post : Int32 → Prop} (hm : m < 2) (hs : s < 5) (hl : l < 2) (ht : t < 5) (hp : post 1) : wpX_isArrowInRange post (nI m) (nI s) (nI l) (nI t) := by
  unfold wpX_isArrowInRange
  exact fx_bel_t 2 hm (by omega) (fx_bel_t 5 hs (by omega) (fx_bel_t 2 hl (by omega) (fx_bel_t 5 ht (by omega) hp)))
theorem fx_range_f {post : Int32 → Prop} {x y z w : Int32} (h : fx_bad x 2 ∨ fx_bad y 5 ∨ fx_bad z 2 ∨ fx_bad w 5) (hp : post 0) : wpX_isArrowInRange post x y z w := by
  unfold wpX_isArrowInRange
  rcases fx_ix3 x (n := 2) (by omega) with hx | ⟨m, hm, rfl⟩
  · exact fx_bel_f (n := 2) hx hp
  refine fx_bel_t 2 hm (by omega) ?_
  rcases fx_ix3 y (n := 5) (by omega) with hy | ⟨s, hs, rfl⟩
  · exact fx_bel_f (n := 5) hy hp
  refine fx_bel_t 5 hs (by omega) ?_
  rcases fx_ix3 z (n := 2) (by omega) with hz | ⟨l, hl, rfl⟩
  · exact fx_bel_f (n := 2) hz hp
  refine fx_bel_t 2 hl (by omega) ?_
  rcases fx_ix3 w (n := 5) (by omega) with hw | ⟨t, ht, rfl⟩
  · exact fx_bel_f (n := 5) hw hp
  exfalso
  rcases h with h | h | h | h
  · exact fx_ne h hm (by omega) rfl
  · exact fx_ne h hs (by omega) rfl
  · exact fx_ne h hl (by omega) rfl
  · exact fx_ne h ht (by omega) rfl
/-- turning: the rows of machine m exchanged up to i -/
def fx_tu (t0 t1 t : Nat → Int32) (st i : Nat) : Prop := ∀ j, t j = if st ≤ j ∧ j < st + i then t1 j else t0 j
theorem fx_tu_s {t0 t1 t : Nat → Int32} {st i : Nat} (h : fx_tu t0 t1 t st i) : fx_tu t0 t1 (upd t (st + i) (t1 (st + i))) st (i + 1) := by
  intro j
  by_cases q : j = st + i
  · subst q
    rw [pk_us, if_pos (by omega)]
  · rw [pk_un q, h j]
    by_cases g : st ≤ j ∧ j < st + i
    · rw [if_pos g, if_pos (by omega)]
    · rw [if_neg g, if_neg (by omega)]
theorem fx_turn_go {post : Int32 → SX → Prop} (tO tB : Nat → Int32) (st : Nat) (hst : st + 64 ≤ 128) (hm : m < 2) (hp : ∀ aO' aB' : Nat → Int32, fx_tu tO tB aO' st 64 → fx_tu tB tO aB' st 64 → post 1 (aO', aB', (upd aS m (aE m)), (upd aE m (aS m)), cC, cF, cS, cA, cG, cL, cM, cN, cP, cW, cT, cQ)) :
    ∀ d i (aO aB : Nat → Int32), i + d = 64 → fx_tu tO tB aO st i → fx_tu tB tO aB st i → wX_turn_19 post (nI m) (nI st) (d + 1) (nI i) aO aB aS aE cC cF cS cA cG cL cM cN cP cW cT cQ := by
  intro d
  induction d with
  | zero =>
    intro i aO aB hi hO hB
    have : i = 64 := by omega
    subst this
    refine pk_le 64 64 (fun _ => ?_) (fun q => absurd q (by omega))
    have hin : vp_in (nI m) 2 := vp_in_nI hm (by omega)
    refine ⟨hin, nm_r (fx_get (by omega)) ⟨hin, hin, nm_r (fx_put (by omega) (fx_get (by omega))) ⟨hin, nm_r (fx_put (by omega) rfl) ?_⟩⟩⟩
    exact hp aO aB hO hB
  | succ d ih =>
    intro i aO aB hi hO hB
    refine pk_le 64 i (fun q => absurd q (by omega)) (fun _ => ?_)
    rw [nI_add]
    have hin : vp_in (nI (st + i)) 128 := vp_in_nI (by omega) (by omega)
    have e1 : aO (st + i) = tO (st + i) := by rw [hO, if_neg (by omega)]
    have e2 : aB (st + i) = tB (st + i) := by rw [hB, if_neg (by omega)]
    refine ⟨hin, nm_r ((fx_get (by omega)).trans e1) ⟨hin, hin, nm_r (fx_put (by omega) ((fx_get (by omega)).trans e2)) ⟨hin, nm_r (fx_put (by omega) rfl) (nm_r (nI_1 i) ?_)⟩⟩⟩
    exact ih (i + 1) _ _ (by omega) (fx_tu_s hO) (fx_tu_s hB)
theorem fx_tu_T {t0 t1 t : Nat → Int32} (h0 : fk_T t0 a) (h1 : fk_T t1 a') (hm : m < 2) (h : fx_tu t0 t1 t (64 * m) 64) : fk_T t (fk_sw a a' m) := by
  intro m' S l' hm' hS hl
  rw [h, fk_sw_st m m' S hl]
  by_cases q : m' = m
  · rw [if_pos (by omega), if_pos q]; exact h1 m' S l' hm' hS hl
  · rw [if_neg (by omega), if_neg q]; exact h0 m' S l' hm' hS hl
theorem fx_swv {t0 t1 : Nat → Int32} (h0 : fk_V t0 b) (h1 : fk_V t1 e) (hm : m < 2) : fk_V (upd t0 m (t1 m)) (fk_swv b e m) := by
  intro m' hm'
  unfold fk_swv
  by_cases q : m' = m
  · subst q; rw [pk_us, if_pos rfl]; exact h1 m' hm'
  · rw [pk_un q, if_neg q]; exact h0 m' hm'
theorem fx_swv_ok (hb : fk_ok b) (he : fk_ok e) : fk_ok (fk_swv b e m) := by
  intro m' hm'
  unfold fk_swv
  split
  · exact he m' hm'
  · exact hb m' hm'
theorem fx_turn {post : Int32 → SX → Prop} (h : fx_S a a' b e aO aB aS aE) (hm : m < 2)
    (hp : ∀ aO' aB' aS' aE' : Nat → Int32, fx_S (fk_sw a a' m) (fk_sw a' a m) (fk_swv b e m) (fk_swv e b m) aO' aB' aS' aE' → post 1 (aO', aB', aS', aE', cC, cF, cS, cA, cG, cL, cM, cN, cP, cW, cT, cQ)) : wpX_turn post (aO, aB, aS, aE, cC, cF, cS, cA, cG, cL, cM, cN, cP, cW, cT, cQ) (nI m) := by
  unfold wpX_turn
  dsimp only
  refine fx_bel_t 2 hm (by omega) ?_
  refine fx_step (S := 0) (l := 0) ?_
  rw [show (m * 32 + 0) * 2 + 0 = 64 * m by omega]
  refine ⟨_, fx_turn_go aO aB (64 * m) (by omega) hm (fun aO' aB' hO hB => ?_) 64 0 aO aB rfl ?_ ?_⟩
  · exact hp _ _ _ _ ⟨fx_tu_T h.1 h.2.1 hm hO, fx_tu_T h.2.1 h.1 hm hB, fx_swv h.2.2.1 h.2.2.2 hm, fx_swv h.2.2.2 h.2.2.1 hm⟩
  · intro j; rw [if_neg (by omega)]
  · intro j; rw [if_neg (by omega)]
theorem fx_turn_P (P : fx_P a a' b e) (m : Nat) : fx_P (fk_sw a a' m) (fk_sw a' a m) (fk_swv b e m) (fk_swv e b m) :=
  ⟨fk_sw_ok P.1 P.2.1 m, fk_sw_ok P.2.1 P.1 m, fk_sw_cv P.2.2.1 m, fx_swv_ok P.2.2.2.1 P.2.2.2.2, fx_swv_ok P.2.2.2.2 P.2.2.2.1⟩
end
end
section
/-! X: states and sets reached, live, endless -/
section
variable {a a' b e : Nat → Nat} {aO aB aS aE cC cF cS cA cG cL cM cN cP cW cT cQ : Nat → Int32} {m S : Nat}
theorem fx_sr_o_go {post : Int32 → Prop} (P : fx_P a a' b e) (h : fx_S a a' b e aO aB aS aE) (hm : m < 2) : ∀ d c S, c + d = 5 → S < 32 → post (nI (fb_cl (fb_j (ff_r a m 0) (ff_r a m 1)) d S)) →
    wX_statesReached__onward_5 post (nI m) aO aB aS aE cC cF cS cA cG cL cM cN cP cW cT cQ (d + 1) (nI S) (nI c) := by
  have B0 := ff_B P.1 hm (show 0 < 2 by omega)
  have B1 := ff_B P.1 hm (show 1 < 2 by omega)
  intro d
  induction d with
  | zero =>
    intro c S hc _ hp
    exact pk_le 5 c (fun _ => hp) (fun q => absurd q (by omega))
  | succ d ih =>
    intro c S hc hS hp
    refine pk_le 5 c (fun q => absurd q (by omega)) (fun _ => ?_)
    refine fx_step (l := 0) ⟨vp_in_nI (by omega) (by omega), fx_step (l := 1) ⟨vp_in_nI (by omega) (by omega), nm_r (e' := nI (S ||| fb_u (fb_j (ff_r a m 0) (ff_r a m 1)) S)) ?_ (nm_r (nI_1 c) ?_)⟩⟩
    · rw [fx_tab h.1 hm hS (by omega : 0 < 2), fx_tab h.1 hm hS (by omega : 1 < 2), fj_or, fj_or, fb_u_j B0 B1]
      rfl
    · refine ih (c + 1) _ (by omega) (Nat.or_lt_two_pow (n := 5) hS (fb_u_lt (fb_j_B B0 B1) S)) ?_
      rw [← fb_cl_s]; exact hp
theorem fx_sr_o {post : Int32 → Prop} (P : fx_P a a' b e) (h : fx_S a a' b e aO aB aS aE) (hm : m < 2) (hS : S < 32) (hp : post (nI (fb_cl (fb_j (ff_r a m 0) (ff_r a m 1)) 4 S))) :
    wpX_statesReached__onward post (aO, aB, aS, aE, cC, cF, cS, cA, cG, cL, cM, cN, cP, cW, cT, cQ) (nI m) (nI S) := ⟨_, fx_sr_o_go P h hm 4 1 S rfl hS hp⟩
theorem fx_st_o_in {post : Int32 → Prop} {J : Int32 → Int32 → Prop} (P : fx_P a a' b e) (h : fx_S a a' b e aO aB aS aE) (hm : m < 2) {b0 K r : Nat} (hr : r < 2 ^ 30) (hK : K < 2 ^ 32)
    (he : fe_rw (ff_st a m) b0 32 K K → post (nI K)) (hn : ∀ W, fe_rw (ff_st a m) b0 32 K W → J (nI W) (nI (r + 1))) : ∀ d c W, c + d = 32 → fe_rw (ff_st a m) b0 c K W →
    wX_setsReached__onward_20 post J (nI m) (nI K) (nI r) aO aB aS aE cC cF cS cA cG cL cM cN cP cW cT cQ (d + 1) (nI W) (nI c) := by
  intro d
  induction d with
  | zero =>
    intro c W hc hW
    have : c = 32 := by omega
    subst this
    refine pk_le 32 32 (fun _ => br_c (fun q => ?_) (fun q => ?_)) (fun q => absurd q (by omega))
    · rw [fm_inj hW.1 hK] at q
      subst q; exact he hW
    · exact nm_r (nI_1 r) (hn W hW)
  | succ d ih =>
    intro c W hc hW
    refine pk_le 32 c (fun q => absurd q (by omega)) (fun _ => fx_hb hK (by omega) (fx_tv_c (fun g => ?_) (fun g => ?_)))
    · have h0 := ff_st_lt P.1 hm c 0
      have h1 := ff_st_lt P.1 hm c 1
      refine fx_step (l := 0) ⟨vp_in_nI (by omega) (by omega), nm_r (e' := nI (W ||| 2 ^ ff_st a m c 0)) ?_ ?_⟩
      · rw [fx_tab h.1 hm (by omega) (by omega), fj_one h0, fj_or]
      refine fx_step (l := 1) ⟨vp_in_nI (by omega) (by omega), nm_r (e' := nI (W ||| 2 ^ ff_st a m c 0 ||| 2 ^ ff_st a m c 1)) ?_ ?_⟩
      · rw [fx_tab h.1 hm (by omega) (by omega), fj_one h1, fj_or]
      exact nm_r (nI_1 c) (ih (c + 1) _ (by omega) (fe_rw_y hW g ⟨h0, h1⟩))
    · exact nm_r (nI_1 c) (ih (c + 1) _ (by omega) (fe_rw_n hW g))
theorem fx_st_o_go {post : Int32 → Prop} (P : fx_P a a' b e) (h : fx_S a a' b e aO aB aS aE) (hm : m < 2) {b0 : Nat} (hb : b0 < 32)
    (hp : ∀ K, K < 2 ^ 32 → (∀ s, K.testBit s = true ↔ fa_R (ff_st a m) b0 s) → post (nI K)) : ∀ d r K, r + d = 32 → fe_rc (ff_st a m) b0 r K → wX_setsReached__onward_7 post (nI m) aO aB aS aE cC cF cS cA cG cL cM cN cP cW cT cQ (d + 1) (nI K) (nI r) := by
  intro d
  induction d with
  | zero =>
    intro r K hr hK
    exact pk_le 32 r (fun _ => hp K hK.1 (fe_rc_big hK (by omega) (ff_st_c P.1 hm) hb)) (fun q => absurd q (by omega))
  | succ d ih =>
    intro r K hr hK
    refine pk_le 32 r (fun q => absurd q (by omega)) (fun _ => ⟨33, ?_⟩)
    refine fx_st_o_in P h hm (by omega) hK.1 (fun g => hp K hK.1 (fe_rc_st hK g (ff_st_c P.1 hm) hb)) (fun W g => ?_) 32 0 K rfl (fe_rw_0 hK)
    exact ih (r + 1) W (by omega) (fe_rw_r hK g (ff_st_c P.1 hm) hb)
theorem fx_st_o {post : Int32 → Prop} (P : fx_P a a' b e) (h : fx_S a a' b e aO aB aS aE) (hm : m < 2) {b0 : Nat} (hb : b0 < 32)
    (hp : ∀ K, K < 2 ^ 32 → (∀ s, K.testBit s = true ↔ fa_R (ff_st a m) b0 s) → post (nI K)) : wpX_setsReached__onward post (aO, aB, aS, aE, cC, cF, cS, cA, cG, cL, cM, cN, cP, cW, cT, cQ) (nI m) (nI b0) := by
  unfold wpX_setsReached__onward
  dsimp only
  exact nm_r (fj_one hb) ⟨_, fx_st_o_go P h hm hb hp 32 0 _ rfl (fe_rc_0 hb)⟩
theorem fx_sr_b_go {post : Int32 → Prop} (P : fx_P a a' b e) (h : fx_S a a' b e aO aB aS aE) (hm : m < 2) : ∀ d c S, c + d = 5 → S < 32 → post (nI (fb_cl (fb_j (ff_r a' m 0) (ff_r a' m 1)) d S)) →
    wX_statesReached__backward_5 post (nI m) aO aB aS aE cC cF cS cA cG cL cM cN cP cW cT cQ (d + 1) (nI S) (nI c) := by
  have B0 := ff_B P.2.1 hm (show 0 < 2 by omega)
  have B1 := ff_B P.2.1 hm (show 1 < 2 by omega)
  intro d
  induction d with
  | zero =>
    intro c S hc _ hp
    exact pk_le 5 c (fun _ => hp) (fun q => absurd q (by omega))
  | succ d ih =>
    intro c S hc hS hp
    refine pk_le 5 c (fun q => absurd q (by omega)) (fun _ => ?_)
    refine fx_step (l := 0) ⟨vp_in_nI (by omega) (by omega), fx_step (l := 1) ⟨vp_in_nI (by omega) (by omega), nm_r (e' := nI (S ||| fb_u (fb_j (ff_r a' m 0) (ff_r a' m 1)) S)) ?_ (nm_r (nI_1 c) ?_)⟩⟩
    · rw [fx_tab h.2.1 hm hS (by omega : 0 < 2), fx_tab h.2.1 hm hS (by omega : 1 < 2), fj_or, fj_or, fb_u_j B0 B1]
      rfl
    · refine ih (c + 1) _ (by omega) (Nat.or_lt_two_pow (n := 5) hS (fb_u_lt (fb_j_B B0 B1) S)) ?_
      rw [← fb_cl_s]; exact hp
theorem fx_sr_b {post : Int32 → Prop} (P : fx_P a a' b e) (h : fx_S a a' b e aO aB aS aE) (hm : m < 2) (hS : S < 32) (hp : post (nI (fb_cl (fb_j (ff_r a' m 0) (ff_r a' m 1)) 4 S))) :
    wpX_statesReached__backward post (aO, aB, aS, aE, cC, cF, cS, cA, cG, cL, cM, cN, cP, cW, cT, cQ) (nI m) (nI S) := ⟨_, fx_sr_b_go P h hm 4 1 S rfl hS hp⟩
theorem fx_st_b_in {post : Int32 → Prop} {J : Int32 → Int32 → Prop} (P : fx_P a a' b e) (h : fx_S a a' b e aO aB aS aE) (hm : m < 2) {b0 K r : Nat} (hr : r < 2 ^ 30) (hK : K < 2 ^ 32)
    (he : fe_rw (ff_st a' m) b0 32 K K → post (nI K)) (hn : ∀ W, fe_rw (ff_st a' m) b0 32 K W → J (nI W) (nI (r + 1))) : ∀ d c W, c + d = 32 → fe_rw (ff_st a' m) b0 c K W →
    wX_setsReached__backward_20 post J (nI m) (nI K) (nI r) aO aB aS aE cC cF cS cA cG cL cM cN cP cW cT cQ (d + 1) (nI W) (nI c) := by
  intro d
  induction d with
  | zero =>
    intro c W hc hW
    have : c = 32 := by omega
    subst this
    refine pk_le 32 32 (fun _ => br_c (fun q => ?_) (fun q => ?_)) (fun q => absurd q (by omega))
    · rw [fm_inj hW.1 hK] at q
      subst q; exact he hW
    · exact nm_r (nI_1 r) (hn W hW)
  | succ d ih =>
    intro c W hc hW
    refine pk_le 32 c (fun q => absurd q (by omega)) (fun _ => fx_hb hK (by omega) (fx_tv_c (fun g => ?_) (fun g => ?_)))
    · have h0 := ff_st_lt P.2.1 hm c 0
      have h1 := ff_st_lt P.2.1 hm c 1
      refine fx_step (l := 0) ⟨vp_in_nI (by omega) (by omega), nm_r (e' := nI (W ||| 2 ^ ff_st a' m c 0)) ?_ ?_⟩
      · rw [fx_tab h.2.1 hm (by omega) (by omega), fj_one h0, fj_or]
      refine fx_step (l := 1) ⟨vp_in_nI (by omega) (by omega), nm_r (e' := nI (W ||| 2 ^ ff_st a' m c 0 ||| 2 ^ ff_st a' m c 1)) ?_ ?_⟩
      · rw [fx_tab h.2.1 hm (by omega) (by omega), fj_one h1, fj_or]
      exact nm_r (nI_1 c) (ih (c + 1) _ (by omega) (fe_rw_y hW g ⟨h0, h1⟩))
    · exact nm_r (nI_1 c) (ih (c + 1) _ (by omega) (fe_rw_n hW g))
theorem fx_st_b_go {post : Int32 → Prop} (P : fx_P a a' b e) (h : fx_S a a' b e aO aB aS aE) (hm : m < 2) {b0 : Nat} (hb : b0 < 32)
    (hp : ∀ K, K < 2 ^ 32 → (∀ s, K.testBit s = true ↔ fa_R (ff_st a' m) b0 s) → post (nI K)) : ∀ d r K, r + d = 32 → fe_rc (ff_st a' m) b0 r K → wX_setsReached__backward_7 post (nI m) aO aB aS aE cC cF cS cA cG cL cM cN cP cW cT cQ (d + 1) (nI K) (nI r) := by
  intro d
  induction d with
  | zero =>
    intro r K hr hK
    exact pk_le 32 r (fun _ => hp K hK.1 (fe_rc_big hK (by omega) (ff_st_c P.2.1 hm) hb)) (fun q => absurd q (by omega))
  | succ d ih =>
    intro r K hr hK
    refine pk_le 32 r (fun q => absurd q (by omega)) (fun _ => ⟨33, ?_⟩)
    refine fx_st_b_in P h hm (by omega) hK.1 (fun g => hp K hK.1 (fe_rc_st hK g (ff_st_c P.2.1 hm) hb)) (fun W g => ?_) 32 0 K rfl (fe_rw_0 hK)
    exact ih (r + 1) W (by omega) (fe_rw_r hK g (ff_st_c P.2.1 hm) hb)
theorem fx_st_b {post : Int32 → Prop} (P : fx_P a a' b e) (h : fx_S a a' b e aO aB aS aE) (hm : m < 2) {b0 : Nat} (hb : b0 < 32)
    (hp : ∀ K, K < 2 ^ 32 → (∀ s, K.testBit s = true ↔ fa_R (ff_st a' m) b0 s) → post (nI K)) : wpX_setsReached__backward post (aO, aB, aS, aE, cC, cF, cS, cA, cG, cL, cM, cN, cP, cW, cT, cQ) (nI m) (nI b0) := by
  unfold wpX_setsReached__backward
  dsimp only
  exact nm_r (fj_one hb) ⟨_, fx_st_b_go P h hm hb hp 32 0 _ rfl (fe_rc_0 hb)⟩
/-- the live states -/
def fx_lv (a a' b e : Nat → Nat) (m : Nat) : Nat := fb_cl (fb_j (ff_r a m 0) (ff_r a m 1)) 4 (b m) &&& fb_cl (fb_j (ff_r a' m 0) (ff_r a' m 1)) 4 (e m)
theorem fx_lv_lt (P : fx_P a a' b e) (hm : m < 2) : fx_lv a a' b e m < 32 :=
  Nat.lt_of_le_of_lt Nat.and_le_left (fb_cl_lt (fb_j_B (ff_B P.1 hm (by omega)) (ff_B P.1 hm (by omega))) (P.2.2.2.1 m hm) 4)
theorem fx_live {post : Int32 → Prop} (P : fx_P a a' b e) (h : fx_S a a' b e aO aB aS aE) (hm : m < 2) (hp : post (nI (fx_lv a a' b e m))) : wpX_liveStates post (aO, aB, aS, aE, cC, cF, cS, cA, cG, cL, cM, cN, cP, cW, cT, cQ) (nI m) := by
  have hin : vp_in (nI m) 2 := vp_in_nI hm (by omega)
  refine ⟨hin, ?_⟩
  rw [fx_vec h.2.2.1 hm]
  refine fx_sr_o P h hm (P.2.2.2.1 m hm) ⟨hin, ?_⟩
  rw [fx_vec h.2.2.2 hm]
  refine fx_sr_b P h hm (P.2.2.2.2 m hm) ?_
  rw [nx_and]; exact hp
/-- s lies on a round -/
def fx_rd (a : Nat → Nat) (m s : Nat) : Prop := (fb_cl (fb_j (ff_r a m 0) (ff_r a m 1)) 4 (fb_u (fb_j (ff_r a m 0) (ff_r a m 1)) (2 ^ s))).testBit s = true
theorem fx_round {post : Int32 → Prop} (P : fx_P a a' b e) (h : fx_S a a' b e aO aB aS aE) (hm : m < 2) {s : Nat} (hs : s < 5) (hp : fx_tv (fx_rd a m s) post) : wpX_isOnRound post (aO, aB, aS, aE, cC, cF, cS, cA, cG, cL, cM, cN, cP, cW, cT, cQ) (nI m) (nI s) := by
  have h2s := fb_2lt hs
  have B0 := ff_B P.1 hm (show 0 < 2 by omega)
  have B1 := ff_B P.1 hm (show 1 < 2 by omega)
  unfold wpX_isOnRound
  dsimp only
  rw [fj_one (by omega : s < 32)]
  refine fx_step (l := 0) ⟨vp_in_nI (by omega) (by omega), fx_step (l := 1) ⟨vp_in_nI (by omega) (by omega), nm_r (e' := nI (fb_u (fb_j (ff_r a m 0) (ff_r a m 1)) (2 ^ s))) ?_ ?_⟩⟩
  · rw [fx_tab h.1 hm h2s (by omega : 0 < 2), fx_tab h.1 hm h2s (by omega : 1 < 2), fj_or, fb_u_j B0 B1]
    rfl
  refine fx_sr_o P h hm (fb_u_lt (fb_j_B B0 B1) _) ?_
  have := fb_cl_lt (fb_j_B B0 B1) (fb_u_lt (fb_j_B B0 B1) (2 ^ s)) 4
  exact fx_hb (by omega) (by omega) (fx_tv_n hp)
def fx_el (a a' b e : Nat → Nat) (m : Nat) : Prop := ∃ s, s < 5 ∧ (fx_lv a a' b e m).testBit s = true ∧ fx_rd a m s
theorem fx_endless_go {post : Int32 → Prop} (P : fx_P a a' b e) (h : fx_S a a' b e aO aB aS aE) (hm : m < 2) (hp : fx_tv (fx_el a a' b e m) post) : ∀ d s, s + d = 5 → (∀ t, t < s → ¬ ((fx_lv a a' b e m).testBit t = true ∧ fx_rd a m t)) →
    wX_endless_18 post (nI m) (nI (fx_lv a a' b e m)) aO aB aS aE cC cF cS cA cG cL cM cN cP cW cT cQ (d + 1) (nI s) := by
  have hlt := fx_lv_lt P hm
  intro d
  induction d with
  | zero =>
    intro s hs hn
    have : s = 5 := by omega
    subst this
    refine pk_le 5 5 (fun _ => hp.2 ?_) (fun q => absurd q (by omega))
    rintro ⟨s, hs, g⟩
    exact hn s hs g
  | succ d ih =>
    intro s hs hn
    refine pk_le 5 s (fun q => absurd q (by omega)) (fun _ => fx_hb (by omega) (by omega) (fx_tv_c (fun g => ?_) (fun g => ?_)))
    · refine fx_round P h hm (by omega) (fx_tv_c (fun g' => ?_) (fun g' => ?_))
      · exact hp.1 ⟨s, by omega, g, g'⟩
      · refine nm_r (nI_1 s) (ih (s + 1) (by omega) (fun t ht => ?_))
        by_cases q : t = s
        · subst q; exact fun z => g' z.2
        · exact hn t (by omega)
    · refine nm_r (nI_1 s) (ih (s + 1) (by omega) (fun t ht => ?_))
      by_cases q : t = s
      · subst q; exact fun z => g z.1
      · exact hn t (by omega)
end
end
section
/-! X: sorting the nodes into kinds; size by kinds; equal by kinds -/
theorem fx_ix2 (m S : Nat) : nI m * 32 + nI S = nI (m * 32 + S) := by
  show nI m * nI 32 + nI S = _
  rw [pk_mul, nI_add]
theorem fx_32 : ¬ (32 : Int32) = 0 := by decide
theorem fx_d32 {x : Nat} (h : x < 2 ^ 31) : nI x / 32 = nI (x / 32) := pk_div (d := 32) h (by omega) (by omega)
theorem fx_r32 {x : Nat} (h : x < 2 ^ 31) : nI x - nI x / 32 * 32 = nI (x % 32) := pk_rem (d := 32) h (by omega) (by omega)
def fx_ar (t : Nat → Int32) (c : Nat → Nat) (n : Nat) : Prop := ∀ x, x < n → t x = nI (c x)
theorem fx_ar_s {t : Nat → Int32} {c : Nat → Nat} {n v : Nat} (h : fx_ar t c n) : fx_ar (upd t n (nI v)) (fd_up c n v) (n + 1) := by
  intro x hx
  by_cases q : x = n
  · subst q; rw [pk_us, fd_up_s]
  · rw [pk_un q, fd_up_n (by omega)]; exact h x (by omega)
theorem fx_ar_k {t : Nat → Int32} {c : Nat → Nat} {n : Nat} (h : fx_ar t c n) : fx_ar (upd t n (nI (c n))) c (n + 1) := by
  intro x hx
  by_cases q : x = n
  · subst q; rw [pk_us]
  · rw [pk_un q]; exact h x (by omega)
section
variable {a a' b e : Nat → Nat} {aO aB aS aE cC cF cS cA cG cL cM cN cP cW cT cQ : Nat → Int32} {m x l : Nat}
theorem fx_endNode {post : Int32 → Prop} (h : fx_S a a' b e aO aB aS aE) (hx : x < 64) (hp : fx_tv (ff_f e x) post) : wpX_isEndingNode post (aO, aB, aS, aE, cC, cF, cS, cA, cG, cL, cM, cN, cP, cW, cT, cQ) (nI x) := by
  refine ⟨fx_32, fx_32, ?_⟩
  rw [fx_r32 (by omega), fx_d32 (by omega)]
  exact fx_ending h (by omega) (by omega) (fx_tv_n hp)
theorem fx_nodeAfter {post : Int32 → Prop} (P : fx_P a a' b e) (h : fx_S a a' b e aO aB aS aE) (hx : x < 64) (hl : l < 2) (hp : post (nI (ff_d a x l))) : wpX_nodeAfter post (aO, aB, aS, aE, cC, cF, cS, cA, cG, cL, cM, cN, cP, cW, cT, cQ) (nI x) (nI l) := by
  have ei : nI x * 2 + nI l = nI (x * 2 + l) := by
    show nI x * nI 2 + nI l = _
    rw [pk_mul, nI_add]
  have et : aO (x * 2 + l) = nI (ff_st a (x / 32) (x % 32) l) := by
    have := h.1 (x / 32) (x % 32) l (by omega) (by omega) hl
    rw [show (x / 32 * 32 + x % 32) * 2 + l = x * 2 + l by omega] at this
    exact this
  unfold wpX_nodeAfter
  dsimp only
  rw [fx_r32 (by omega), ei, nI_clamp (by omega), et, pk_sub (Nat.mod_le _ _), nI_add]
  refine ⟨fx_32, vp_in_nI (by omega) (by omega), ?_⟩
  rw [show x - x % 32 + ff_st a (x / 32) (x % 32) l = ff_d a x l by unfold ff_d; omega]
  exact hp
theorem fx_like_go {post : Int32 → Prop} (hx : x < 64) (h1 : ∀ k, k < x → cS k = cS x → post (nI k)) (h0 : (∀ k, k < x → cS k ≠ cS x) → post (nI x)) : ∀ d c, c + d = x → (∀ k, k < c → cS k ≠ cS x) →
    wX_firstNodeLike_2 post (nI x) aO aB aS aE cC cF cS cA cG cL cM cN cP cW cT cQ (d + 1) (nI c) := by
  intro d
  induction d with
  | zero =>
    intro c hc hn
    have : c = x := by omega
    subst this
    exact pk_le c c (fun _ => h0 hn) (fun q => absurd q (by omega))
  | succ d ih =>
    intro c hc hn
    refine pk_le x c (fun q => absurd q (by omega)) (fun _ => ⟨vp_in_nI (by omega) (by omega), vp_in_nI hx (by omega), ?_⟩)
    rw [nI_clamp (by omega), nI_clamp (by omega)]
    refine br_c (fun q => h1 c (by omega) q) (fun q => nm_r (nI_1 c) (ih (c + 1) (by omega) (fun k hk => ?_)))
    by_cases g : k = c
    · subst g; exact q
    · exact hn k (by omega)
theorem fx_like {post : Int32 → Prop} (hx : x < 64) (h1 : ∀ k, k < x → cS k = cS x → post (nI k)) (h0 : (∀ k, k < x → cS k ≠ cS x) → post (nI x)) : wpX_firstNodeLike post (aO, aB, aS, aE, cC, cF, cS, cA, cG, cL, cM, cN, cP, cW, cT, cQ) (nI x) :=
  ⟨_, fx_like_go hx h1 h0 x 0 (by omega) (fun k hk => absurd hk (Nat.not_lt_zero _))⟩
theorem fx_split2 {post : Int32 → SX → Prop} {n : Nat} {fn : Nat → Nat} (hF : fx_ar cF fn 64) (hp : ∀ cC' : Nat → Int32, fx_ar cC' fn 64 → post (nI n) (aO, aB, aS, aE, cC', cF, cS, cA, cG, cL, cM, cN, cP, cW, cT, cQ)) : ∀ d c (cC : Nat → Int32), c + d = 64 → fx_ar cC fn c →
    wX_splitClasses_105 post (nI n) (d + 1) (nI c) aO aB aS aE cC cF cS cA cG cL cM cN cP cW cT cQ := by
  intro d
  induction d with
  | zero =>
    intro c cC hc hC
    have : c = 64 := by omega
    subst this
    exact pk_le 64 64 (fun _ => hp cC hC) (fun q => absurd q (by omega))
  | succ d ih =>
    intro c cC hc hC
    refine pk_le 64 c (fun q => absurd q (by omega)) (fun _ => ⟨vp_in_nI (by omega) (by omega), vp_in_nI (by omega) (by omega), nm_r (fx_put (by omega) ((fx_get (by omega)).trans (hF c (by omega)))) (nm_r (nI_1 c) ?_)⟩)
    exact ih (c + 1) _ (by omega) (fx_ar_k hC)
theorem fx_split_go {post : Int32 → SX → Prop} (P : fx_P a a' b e) (h : fx_S a a' b e aO aB aS aE) {r : Nat} {cl : Nat → Nat} (hC : fx_ar cC cl 64) (hcl : fg_cl (ff_d a) (ff_f e) r cl)
    (hp : ∀ (cC' cF' cS' : Nat → Int32) (n : Nat) (fn : Nat → Nat), fg_fn (ff_d a) (ff_f e) r 64 n fn → fx_ar cC' fn 64 → post (nI n) (aO, aB, aS, aE, cC', cF', cS', cA, cG, cL, cM, cN, cP, cW, cT, cQ)) : ∀ d c n (fn : Nat → Nat) (cF cS : Nat → Int32), c + d = 64 → fg_fn (ff_d a) (ff_f e) r c n fn → fx_ar cF fn c → fx_ar cS (fg_sg (ff_d a) cl) c →
    wX_splitClasses_4 post (d + 1) (nI n) (nI c) aO aB aS aE cC cF cS cA cG cL cM cN cP cW cT cQ := by
  have hcd := ff_d_c P.1
  intro d
  induction d with
  | zero =>
    intro c n fn cF cS hc hfn hF hS
    have : c = 64 := by omega
    subst this
    refine pk_le 64 64 (fun _ => ⟨_, fx_split2 hF (fun cC' hC' => hp cC' cF cS n fn hfn hC') 64 0 cC rfl (fun x hx => absurd hx (Nat.not_lt_zero _))⟩) (fun q => absurd q (by omega))
  | succ d ih =>
    intro c n fn cF cS hc hfn hF hS
    have hc64 : c < 64 := by omega
    have d0 := (hcd c hc64).1
    have d1 := (hcd c hc64).2
    refine pk_le 64 c (fun q => absurd q (by omega)) (fun _ => fx_nodeAfter (l := 0) P h hc64 (by omega) ⟨vp_in_nI d0 (by omega), nm_r ((fx_get (by omega)).trans (hC _ d0)) ?_⟩)
    refine fx_nodeAfter (l := 1) P h hc64 (by omega) ⟨vp_in_nI d1 (by omega), nm_r ((fx_get (by omega)).trans (hC _ d1)) ⟨vp_in_nI hc64 (by omega), vp_in_nI hc64 (by omega), nm_r (fx_put (y := nI (fg_sg (ff_d a) cl c)) (by omega) ?_) ?_⟩⟩
    · rw [nI_clamp (by omega), hC c hc64]
      show (nI (cl c) * nI 64 + nI (cl (ff_d a c 0))) * nI 64 + nI (cl (ff_d a c 1)) = _
      rw [pk_mul, nI_add, pk_mul, nI_add]; rfl
    have hS' : fx_ar (upd cS c (nI (fg_sg (ff_d a) cl c))) (fg_sg (ff_d a) cl) (c + 1) := fx_ar_k hS
    have eqS : ∀ k, k < c → (upd cS c (nI (fg_sg (ff_d a) cl c)) k = upd cS c (nI (fg_sg (ff_d a) cl c)) c ↔ fa_E (ff_d a) (ff_f e) (r + 1) k c) := by
      intro k hk
      rw [hS' k (by omega), hS' c (by omega), fm_inj (by have := fg_sg_lt hcl hcd (show k < 64 by omega); omega) (by have := fg_sg_lt hcl hcd hc64; omega)]
      exact fg_sg_E hcl hcd (by omega) hc64
    refine fx_like hc64 (fun k hk he => ?_) (fun hne => ?_)
    · refine pk_eq k c (fun q => absurd q (by omega)) (fun _ => ⟨vp_in_nI (by omega) (by omega), vp_in_nI hc64 (by omega), nm_r (fx_put (by omega) ((fx_get (by omega)).trans (hF k hk))) (nm_r (nI_1 c) ?_)⟩)
      exact ih (c + 1) n _ _ _ (by omega) (fg_fn_old hfn hk ((eqS k hk).mp he)) (fx_ar_s hF) hS'
    · refine pk_eq c c (fun _ => ⟨vp_in_nI hc64 (by omega), nm_r (fx_put (by omega) rfl) (nm_r (nI_1 n) (nm_r (nI_1 c) ?_))⟩) (fun q => absurd rfl q)
      exact ih (c + 1) (n + 1) _ _ _ (by omega) (fg_fn_new hfn (fun k hk z => hne k hk ((eqS k hk).mpr z))) (fx_ar_s hF) hS'
theorem fx_split {post : Int32 → SX → Prop} (P : fx_P a a' b e) (h : fx_S a a' b e aO aB aS aE) {r : Nat} {cl : Nat → Nat} (hC : fx_ar cC cl 64) (hcl : fg_cl (ff_d a) (ff_f e) r cl)
    (hp : ∀ (cC' cF' cS' : Nat → Int32) (n : Nat) (fn : Nat → Nat), fg_fn (ff_d a) (ff_f e) r 64 n fn → fx_ar cC' fn 64 → post (nI n) (aO, aB, aS, aE, cC', cF', cS', cA, cG, cL, cM, cN, cP, cW, cT, cQ)) : wpX_splitClasses post (aO, aB, aS, aE, cC, cF, cS, cA, cG, cL, cM, cN, cP, cW, cT, cQ) :=
  ⟨_, fx_split_go P h hC hcl hp 64 0 0 (fun _ => 0) cF cS rfl (fg_fn_0 r _) (fun x hx => absurd hx (Nat.not_lt_zero _)) (fun x hx => absurd hx (Nat.not_lt_zero _))⟩
theorem fx_sort_go {post : SX → Prop} (P : fx_P a a' b e) (h : fx_S a a' b e aO aB aS aE)
    (hp : ∀ (cC' cF' cS' : Nat → Int32) (cl : Nat → Nat), fx_ar cC' cl 64 → fg_fin (ff_d a) (ff_f e) cl → post (aO, aB, aS, aE, cC', cF', cS', cA, cG, cL, cM, cN, cP, cW, cT, cQ)) : ∀ d r k (cl : Nat → Nat) (cC cF cS : Nat → Int32), r + d = 64 → fx_ar cC cl 64 → fg_cl (ff_d a) (ff_f e) r cl →
    (k ≤ 64 ∧ (r = 0 ∧ k = 0 ∨ k = fa_ct (fa_rep (ff_d a) (ff_f e) r) 64)) → wX_sortIntoClasses_37 post (d + 1) (nI k) (nI r) aO aB aS aE cC cF cS cA cG cL cM cN cP cW cT cQ := by
  have hcd := ff_d_c P.1
  intro d
  induction d with
  | zero =>
    intro r k cl cC cF cS hr hC hcl _
    exact pk_le 64 r (fun _ => hp cC cF cS cl hC (fg_big (by omega) hcd hcl)) (fun q => absurd q (by omega))
  | succ d ih =>
    intro r k cl cC cF cS hr hC hcl hk
    refine pk_le 64 r (fun q => absurd q (by omega)) (fun _ => ?_)
    refine fx_split P h hC hcl (fun cC' cF' cS' n fn hfn hC' => ?_)
    have hn := fg_n1 hfn
    refine pk_eq n k (fun q => ?_) (fun _ => nm_r (nI_1 r) ?_)
    · refine hp cC' cF' cS' fn hC' (fg_brk hcd hfn ?_)
      rcases hk.2 with g | g
      · omega
      · rw [q]; exact g
    · exact ih (r + 1) n fn cC' cF' cS' (by omega) hC' (fg_fn_end hfn) ⟨hn.2, Or.inr hfn.1⟩
noncomputable def fx_c0 (e : Nat → Nat) (x : Nat) : Nat := @ite Nat (ff_f e x) (Classical.propDecidable _) 1 0
theorem fx_c0_t {e : Nat → Nat} {x : Nat} (h : ff_f e x) : fx_c0 e x = 1 := by unfold fx_c0; exact if_pos h
theorem fx_c0_f {e : Nat → Nat} {x : Nat} (h : ¬ ff_f e x) : fx_c0 e x = 0 := by unfold fx_c0; exact if_neg h
theorem fx_c0_cl (d : Nat → Nat → Nat) : fg_cl d (ff_f e) 0 (fx_c0 e) := by
  refine ⟨fun x _ => ?_, fun x y _ _ => ?_⟩
  · by_cases h : ff_f e x
    · rw [fx_c0_t h]; omega
    · rw [fx_c0_f h]; omega
  · show _ ↔ (ff_f e x ↔ ff_f e y)
    by_cases h : ff_f e x
    · by_cases g : ff_f e y
      · rw [fx_c0_t h, fx_c0_t g]; exact ⟨fun _ => ⟨fun _ => g, fun _ => h⟩, fun _ => rfl⟩
      · rw [fx_c0_t h, fx_c0_f g]; exact ⟨fun z => absurd z (by decide), fun z => absurd (z.mp h) g⟩
    · by_cases g : ff_f e y
      · rw [fx_c0_f h, fx_c0_t g]; exact ⟨fun z => absurd z (by decide), fun z => absurd (z.mpr g) h⟩
      · rw [fx_c0_f h, fx_c0_f g]; exact ⟨fun _ => ⟨fun z => absurd z h, fun z => absurd z g⟩, fun _ => rfl⟩
theorem fx_sort0_go {post : SX → Prop} (P : fx_P a a' b e) (h : fx_S a a' b e aO aB aS aE)
    (hp : ∀ (cC' cF' cS' : Nat → Int32) (cl : Nat → Nat), fx_ar cC' cl 64 → fg_fin (ff_d a) (ff_f e) cl → post (aO, aB, aS, aE, cC', cF', cS', cA, cG, cL, cM, cN, cP, cW, cT, cQ)) : ∀ d c (cC : Nat → Int32), c + d = 64 → fx_ar cC (fx_c0 e) c →
    wX_sortIntoClasses_2 post (d + 1) (nI c) aO aB aS aE cC cF cS cA cG cL cM cN cP cW cT cQ := by
  intro d
  induction d with
  | zero =>
    intro c cC hc hC
    have : c = 64 := by omega
    subst this
    exact pk_le 64 64 (fun _ => ⟨_, fx_sort_go P h hp 64 0 0 (fx_c0 e) cC cF cS rfl hC (fx_c0_cl _) ⟨by omega, Or.inl ⟨rfl, rfl⟩⟩⟩) (fun q => absurd q (by omega))
  | succ d ih =>
    intro c cC hc hC
    have hk := fx_ar_k hC
    refine pk_le 64 c (fun q => absurd q (by omega)) (fun _ => fx_endNode h (by omega) (fx_tv_c (fun g => ?_) (fun g => ?_)))
    · rw [fx_c0_t g] at hk
      exact ⟨vp_in_nI (by omega) (by omega), nm_r (fx_put (by omega) rfl) (nm_r (nI_1 c) (ih (c + 1) _ (by omega) hk))⟩
    · rw [fx_c0_f g] at hk
      exact ⟨vp_in_nI (by omega) (by omega), nm_r (fx_put (by omega) rfl) (nm_r (nI_1 c) (ih (c + 1) _ (by omega) hk))⟩
theorem fx_sort {post : SX → Prop} (P : fx_P a a' b e) (h : fx_S a a' b e aO aB aS aE)
    (hp : ∀ (cC' cF' cS' : Nat → Int32) (cl : Nat → Nat), fx_ar cC' cl 64 → fg_fin (ff_d a) (ff_f e) cl → post (aO, aB, aS, aE, cC', cF', cS', cA, cG, cL, cM, cN, cP, cW, cT, cQ)) : wpX_sortIntoClasses post (aO, aB, aS, aE, cC, cF, cS, cA, cG, cL, cM, cN, cP, cW, cT, cQ) :=
  ⟨_, fx_sort0_go P h hp 64 0 cC rfl (fun x hx => absurd hx (Nat.not_lt_zero _))⟩
theorem fx_byClasses {post : Int32 → SX → Prop} (P : fx_P a a' b e) (h : fx_S a a' b e aO aB aS aE)
    (h1 : fi_EQ a b e → ∀ cC' cF' cS' : Nat → Int32, post 1 (aO, aB, aS, aE, cC', cF', cS', cA, cG, cL, cM, cN, cP, cW, cT, cQ)) (h0 : ¬ fi_EQ a b e → ∀ cC' cF' cS' : Nat → Int32, post 0 (aO, aB, aS, aE, cC', cF', cS', cA, cG, cL, cM, cN, cP, cW, cT, cQ)) : wpX_isEqualByClasses post (aO, aB, aS, aE, cC, cF, cS, cA, cG, cL, cM, cN, cP, cW, cT, cQ) := by
  have hb0 := P.2.2.2.1 0 (by omega)
  have hb1 := P.2.2.2.1 1 (by omega)
  unfold wpX_isEqualByClasses
  dsimp only
  refine fx_sort P h (fun cC' cF' cS' cl hC hcl => ?_)
  have e0 : aS 0 = nI (b 0) := h.2.2.1 0 (by omega)
  have e1 : (32 : Int32) + aS 1 = nI (32 + b 1) := by
    rw [h.2.2.1 1 (by omega)]
    exact nI_add 32 (b 1)
  dsimp only
  rw [e0, e1]
  refine ⟨vp_in_nI (by omega) (by omega), vp_in_nI (by omega) (by omega), ?_⟩
  rw [nI_clamp (by omega), nI_clamp (by omega), hC _ (by omega), hC _ (by omega)]
  have hE := hcl.2 (b 0) (32 + b 1) (by omega) (by omega)
  have c0 := hcl.1 (b 0) (by omega)
  have c1 := hcl.1 (32 + b 1) (by omega)
  exact pk_eq (cl (b 0)) (cl (32 + b 1)) (fun q => h1 (hE.mp q) _ _ _) (fun q => h0 (fun z => q (hE.mpr z)) _ _ _)
end
end
section
/-! X: the four engines for size -/
section
variable {a a' b e : Nat → Nat} {aO aB aS aE cC cF cS cA cG cL cM cN cP cW cT cQ : Nat → Int32} {m x l : Nat}
/-- what every engine leaves: the answer, in any state with the same machines -/
def fx_ans (a a' b e : Nat → Nat) (v : Int32) (post : Int32 → SX → Prop) : Prop := ∀ aO aB aS aE cC cF cS cA cG cL cM cN cP cW cT cQ : Nat → Int32, fx_S a a' b e aO aB aS aE → post v (aO, aB, aS, aE, cC, cF, cS, cA, cG, cL, cM, cN, cP, cW, cT, cQ)
theorem fx_s0_go {post : Int32 → SX → Prop} {K : Nat} {cl : Nat → Nat} {R : Nat → Prop} (hm : m < 2) (hC : fx_ar cC cl 64) (hcl : ∀ x, x < 64 → cl x < 64) (hK : K < 2 ^ 32) (hR : ∀ s, K.testBit s = true ↔ R s)
    (hp : post (nI (fa_ct (fe_nb R (fun s t => cl (m * 32 + s) = cl (m * 32 + t))) 32)) (aO, aB, aS, aE, cC, cF, cS, cA, cG, cL, cM, cN, cP, cW, cT, cQ)) : ∀ d c A n, c + d = 32 → A < 2 ^ 64 → (∀ q, A.testBit q = true ↔ ∃ s, s < c ∧ R s ∧ cl (m * 32 + s) = q) → n = fa_ct (fe_nb R (fun s t => cl (m * 32 + s) = cl (m * 32 + t))) c →
    wX_sizeByClasses_27 post (nI m) (nI K) aO aB aS aE cC cF cS cA cG cL cM cN cP cW cT cQ (d + 1) (lN A) (nI n) (nI c) := by
  intro d
  induction d with
  | zero =>
    intro c A n hc _ _ hn
    have : c = 32 := by omega
    subst this
    refine pk_le 32 32 (fun _ => ?_) (fun q => absurd q (by omega))
    rw [hn]; exact hp
  | succ d ih =>
    intro c A n hc hA hq hn
    refine pk_le 32 c (fun q => absurd q (by omega)) (fun _ => ?_)
    rw [fx_ix2]
    have hx : m * 32 + c < 64 := by omega
    have hlt := hcl _ hx
    refine ⟨vp_in_nI hx (by omega), nm_r ((fx_get (by omega)).trans (hC _ hx)) (fx_hb hK (by omega) (fx_tv_c (fun g => ?_) (fun g => ?_)))⟩
    · have hr := (hR c).mp g
      refine br_c (fun z => ?_) (fun z => ?_)
      · rw [fj_lu0 hA hlt] at z
        rw [fj_lone hlt]
        refine nm_r (wb_or hA (Nat.pow_lt_pow_right (by omega) hlt)) (nm_r (nI_1 n) (nm_r (nI_1 c) ?_))
        refine ih (c + 1) _ (n + 1) (by omega) (Nat.or_lt_two_pow hA (Nat.pow_lt_pow_right (by omega) hlt)) (fun q => ?_) ?_
        · constructor
          · intro t
            rcases fe_or_e t with t | t
            · obtain ⟨s, h1, h2, h3⟩ := (hq q).mp t
              exact ⟨s, by omega, h2, h3⟩
            · rw [fb_2p] at t
              exact ⟨c, by omega, hr, t⟩
          · rintro ⟨s, h1, h2, h3⟩
            by_cases u : s = c
            · subst u; exact fb_orr (fb_2p.mpr h3)
            · exact fb_ol ((hq q).mpr ⟨s, by omega, h2, h3⟩)
        · rw [fa_ct_t ⟨hr, fun t ht hrt het => z ((hq _).mpr ⟨t, ht, hrt, het⟩)⟩, hn]
      · rw [fj_lu0 hA hlt] at z
        have z' : A.testBit (cl (m * 32 + c)) = true := Classical.byContradiction z
        obtain ⟨s, h1, h2, h3⟩ := (hq _).mp z'
        refine nm_r (nI_1 c) (ih (c + 1) A n (by omega) hA (fun q => ?_) ?_)
        · constructor
          · intro t
            obtain ⟨s, h1, h2, h3⟩ := (hq q).mp t
            exact ⟨s, by omega, h2, h3⟩
          · rintro ⟨s', g1, g2, g3⟩
            by_cases u : s' = c
            · subst u; rw [← g3]; exact z'
            · exact (hq q).mpr ⟨s', by omega, g2, g3⟩
        · rw [fa_ct_f (fun y => y.2 s h1 h2 h3), hn]
    · have hr : ¬ R c := fun y => g ((hR c).mpr y)
      refine nm_r (nI_1 c) (ih (c + 1) A n (by omega) hA (fun q => ?_) ?_)
      · constructor
        · intro t
          obtain ⟨s, h1, h2, h3⟩ := (hq q).mp t
          exact ⟨s, by omega, h2, h3⟩
        · rintro ⟨s', g1, g2, g3⟩
          by_cases u : s' = c
          · subst u; exact absurd g2 hr
          · exact (hq q).mpr ⟨s', by omega, g2, g3⟩
      · rw [fa_ct_f (fun y => hr y.1), hn]
theorem fx_N_lt (a b e : Nat → Nat) (m : Nat) : ff_N a b e m ≤ 32 := fa_ct_bd 32
theorem fx_size0 {post : Int32 → SX → Prop} (P : fx_P a a' b e) (h : fx_S a a' b e aO aB aS aE) (hm : m < 2) (hp : fx_ans a a' b e (nI (ff_N a b e m)) post) : wpX_sizeByClasses post (aO, aB, aS, aE, cC, cF, cS, cA, cG, cL, cM, cN, cP, cW, cT, cQ) (nI m) := by
  have hb := P.2.2.2.1 m hm
  unfold wpX_sizeByClasses
  dsimp only
  refine fx_sort P h (fun cC' cF' cS' cl hC hcl => ⟨vp_in_nI hm (by omega), ?_⟩)
  dsimp only
  rw [fx_vec h.2.2.1 hm]
  refine fx_st_o P h hm hb (fun K hK hR => ⟨_, fx_s0_go hm hC hcl.1 hK hR ?_ 32 0 0 0 rfl (by decide) (fun q => ?_) rfl⟩)
  · have : fa_ct (fe_nb (fa_R (ff_st a m) (b m)) (fun s t => cl (m * 32 + s) = cl (m * 32 + t))) 32 = ff_N a b e m := by
      refine fe_nb_congr (fun _ _ => Iff.rfl) (fun s t hs ht _ _ => ?_)
      rw [hcl.2 _ _ (by omega) (by omega), Nat.mul_comm m 32]
      exact ff_I P.1 hm hs ht
    rw [this]
    exact hp _ _ _ _ _ _ _ _ _ _ _ _ _ _ _ _ h
  · rw [Nat.zero_testBit]
    exact ⟨fun z => Bool.noConfusion z, fun ⟨s, hs, _⟩ => absurd hs (Nat.not_lt_zero _)⟩
/-! engine 1 -/
def fx_Q (t : Nat → Int32) (z : Nat) : Prop := t z ≠ 0
theorem fx_mea_in {post : SX → Prop} {J : Int32 → (Nat → Int32) → (Nat → Int32) → (Nat → Int32) → (Nat → Int32) → (Nat → Int32) → (Nat → Int32) → (Nat → Int32) → (Nat → Int32) → (Nat → Int32) → (Nat → Int32) → (Nat → Int32) → (Nat → Int32) → (Nat → Int32) → (Nat → Int32) → (Nat → Int32) → (Nat → Int32) → Prop}
    (h : fx_S a a' b e aO aB aS aE) (hm : m < 2) {x : Nat} (hx : x < 32) (hJ : ∀ cA' : Nat → Int32, (∀ z, z < 32 * x + 32 → (fx_Q cA' z ↔ ¬ (ff_g e m (z / 32) ↔ ff_g e m (z % 32)))) → J (nI (x + 1)) aO aB aS aE cC cF cS cA' cG cL cM cN cP cW cT cQ) :
    ∀ d y (cA : Nat → Int32), y + d = 32 → (∀ z, z < 32 * x + y → (fx_Q cA z ↔ ¬ (ff_g e m (z / 32) ↔ ff_g e m (z % 32)))) → wX_markEndingApart_10 post J (nI m) (nI x) (d + 1) (nI y) aO aB aS aE cC cF cS cA cG cL cM cN cP cW cT cQ := by
  intro d
  induction d with
  | zero =>
    intro y cA hy hq
    have : y = 32 := by omega
    subst this
    exact pk_le 32 32 (fun _ => nm_r (nI_1 x) (hJ cA hq)) (fun q => absurd q (by omega))
  | succ d ih =>
    intro y cA hy hq
    refine pk_le 32 y (fun q => absurd q (by omega)) (fun _ => ?_)
    have key : ∀ v : Int32, (v ≠ 0 ↔ ¬ (ff_g e m x ↔ ff_g e m y)) → ∀ z, z < 32 * x + (y + 1) → (fx_Q (upd cA (x * 32 + y) v) z ↔ ¬ (ff_g e m (z / 32) ↔ ff_g e m (z % 32))) := by
      intro v hv z hz
      by_cases g : z = x * 32 + y
      · subst g
        unfold fx_Q
        rw [pk_us, hv, show (x * 32 + y) / 32 = x by omega, show (x * 32 + y) % 32 = y by omega]
      · unfold fx_Q
        rw [pk_un g]; exact hq z (by omega)
    rw [fx_ix2]
    refine fx_ending h hm hx (fx_tv_m (fun gx => fx_ending h hm (by omega) (fx_tv_m (fun gy => ?_) (fun gy => ?_))) (fun gx => fx_ending h hm (by omega) (fx_tv_m (fun gy => ?_) (fun gy => ?_))))
    · exact br_t rfl ⟨vp_in_nI (by omega) (by omega), nm_r (fx_put (by omega) fx_nb0) (nm_r (nI_1 y) (ih (y + 1) _ (by omega) (key 0 ⟨fun z => absurd rfl z, fun z => absurd ⟨fun _ => gy, fun _ => gx⟩ z⟩)))⟩
    · exact br_f fx_n1 ⟨vp_in_nI (by omega) (by omega), nm_r (fx_put (by omega) fx_nb1) (nm_r (nI_1 y) (ih (y + 1) _ (by omega) (key 1 ⟨fun _ z => gy (z.mp gx), fun _ => fx_n1⟩)))⟩
    · exact br_f (fun z => fx_n1 z.symm) ⟨vp_in_nI (by omega) (by omega), nm_r (fx_put (by omega) fx_nb1) (nm_r (nI_1 y) (ih (y + 1) _ (by omega) (key 1 ⟨fun _ z => gx (z.mpr gy), fun _ => fx_n1⟩)))⟩
    · exact br_t rfl ⟨vp_in_nI (by omega) (by omega), nm_r (fx_put (by omega) fx_nb0) (nm_r (nI_1 y) (ih (y + 1) _ (by omega) (key 0 ⟨fun z => absurd rfl z, fun z => absurd ⟨fun q => absurd q gx, fun q => absurd q gy⟩ z⟩)))⟩
theorem fx_mea_go {post : SX → Prop} (h : fx_S a a' b e aO aB aS aE) (hm : m < 2) (hp : ∀ cA' : Nat → Int32, (∀ z, z < 1024 → (fx_Q cA' z ↔ ¬ (ff_g e m (z / 32) ↔ ff_g e m (z % 32)))) → post (aO, aB, aS, aE, cC, cF, cS, cA', cG, cL, cM, cN, cP, cW, cT, cQ)) :
    ∀ d x (cA : Nat → Int32), x + d = 32 → (∀ z, z < 32 * x → (fx_Q cA z ↔ ¬ (ff_g e m (z / 32) ↔ ff_g e m (z % 32)))) → wX_markEndingApart_2 post (nI m) (d + 1) (nI x) aO aB aS aE cC cF cS cA cG cL cM cN cP cW cT cQ := by
  intro d
  induction d with
  | zero =>
    intro x cA hx hq
    have : x = 32 := by omega
    subst this
    exact pk_le 32 32 (fun _ => hp cA hq) (fun q => absurd q (by omega))
  | succ d ih =>
    intro x cA hx hq
    refine pk_le 32 x (fun q => absurd q (by omega)) (fun _ => ⟨_, fx_mea_in h hm (by omega) (fun cA' hq' => ?_) 32 0 cA rfl hq⟩)
    exact ih (x + 1) cA' (by omega) hq'
theorem fx_mea {post : SX → Prop} (h : fx_S a a' b e aO aB aS aE) (hm : m < 2) (hp : ∀ cA' : Nat → Int32, (∀ z, z < 1024 → (fx_Q cA' z ↔ ¬ (ff_g e m (z / 32) ↔ ff_g e m (z % 32)))) → post (aO, aB, aS, aE, cC, cF, cS, cA', cG, cL, cM, cN, cP, cW, cT, cQ)) : wpX_markEndingApart post (aO, aB, aS, aE, cC, cF, cS, cA, cG, cL, cM, cN, cP, cW, cT, cQ) (nI m) :=
  ⟨_, fx_mea_go h hm hp 32 0 cA rfl (fun z hz => absurd hz (Nat.not_lt_zero _))⟩
theorem fx_aal {post : Int32 → Prop} (P : fx_P a a' b e) (h : fx_S a a' b e aO aB aS aE) (hm : m < 2) {x y : Nat} (hx : x < 32) (hy : y < 32)
    (hp : fx_tv (fx_Q cA (32 * ff_st a m x 0 + ff_st a m y 0) ∨ fx_Q cA (32 * ff_st a m x 1 + ff_st a m y 1)) post) : wpX_isApartAfterLetter post (aO, aB, aS, aE, cC, cF, cS, cA, cG, cL, cM, cN, cP, cW, cT, cQ) (nI m) (nI x) (nI y) := by
  have gx0 := ff_st_lt P.1 hm x 0
  have gx1 := ff_st_lt P.1 hm x 1
  have gy0 := ff_st_lt P.1 hm y 0
  have gy1 := ff_st_lt P.1 hm y 1
  refine ⟨3, ?_⟩
  refine pk_le 2 0 (fun q => absurd q (by omega)) (fun _ => ?_) rfl rfl
  refine fx_step (l := 0) ⟨vp_in_nI (by omega) (by omega), nm_r (fx_tab h.1 hm hx (by omega)) (fx_step (l := 0) ⟨vp_in_nI (by omega) (by omega), nm_r (fx_tab h.1 hm hy (by omega)) ?_⟩)⟩
  rw [fx_ix2, Nat.mul_comm _ 32]
  refine ⟨vp_in_nI (by omega) (by omega), ?_⟩
  rw [nI_clamp (by omega)]
  refine br_c (fun z0 => ?_) (fun z0 => hp.1 (Or.inl z0))
  refine nm_r (e' := nI 1) (by decide) ?_
  refine pk_le 2 1 (fun q => absurd q (by omega)) (fun _ => ?_)
  refine fx_step ⟨vp_in_nI (by omega) (by omega), nm_r (fx_tab h.1 hm hx (by omega)) (fx_step ⟨vp_in_nI (by omega) (by omega), nm_r (fx_tab h.1 hm hy (by omega)) ?_⟩)⟩
  rw [fx_ix2, Nat.mul_comm _ 32]
  refine ⟨vp_in_nI (by omega) (by omega), ?_⟩
  rw [nI_clamp (by omega)]
  refine br_c (fun z1 => ?_) (fun z1 => hp.1 (Or.inr z1))
  refine nm_r (e' := nI 2) (by decide) ?_
  refine pk_le 2 2 (fun _ => hp.2 ?_) (fun q => absurd q (by omega))
  rintro (z | z)
  · exact z z0
  · exact z z1
end
end
section
/-! X: engine 1 for size, its rounds and its count; engines 2 and 3 -/
section
variable {a a' b e : Nat → Nat} {aO aB aS aE cC cF cS cA cG cL cM cN cP cW cT cQ : Nat → Int32} {m x l : Nat}
def fx_c1 (a : Nat → Nat) (m : Nat) (cA : Nat → Int32) (c : Nat) : Prop :=
  ∀ x y, x < 32 → y < 32 → 32 * x + y < c → ¬ fx_Q cA (32 * x + y) → ¬ fx_Q cA (32 * ff_st a m x 0 + ff_st a m y 0) ∧ ¬ fx_Q cA (32 * ff_st a m x 1 + ff_st a m y 1)
def fx_mi (a e : Nat → Nat) (m r c : Nat) (k : Int32) (cA : Nat → Int32) : Prop :=
  fe_mk (ff_st a m) (ff_g e m) r c (fx_Q cA) ∧ (k = 1 ∨ k = 0 ∧ fx_c1 a m cA c)
theorem fx_mma_in {post : Int32 → SX → Prop} {J : Int32 → Int32 → (Nat → Int32) → (Nat → Int32) → (Nat → Int32) → (Nat → Int32) → (Nat → Int32) → (Nat → Int32) → (Nat → Int32) → (Nat → Int32) → (Nat → Int32) → (Nat → Int32) → (Nat → Int32) → (Nat → Int32) → (Nat → Int32) → (Nat → Int32) → (Nat → Int32) → (Nat → Int32) → Prop}
    (P : fx_P a a' b e) (h : fx_S a a' b e aO aB aS aE) (hm : m < 2) {r x : Nat} (hx : x < 32) (hJ : ∀ (k : Int32) (cA' : Nat → Int32), fx_mi a e m r (32 * x + 32) k cA' → J k (nI (x + 1)) aO aB aS aE cC cF cS cA' cG cL cM cN cP cW cT cQ) :
    ∀ d y (k : Int32) (cA : Nat → Int32), y + d = 32 → fx_mi a e m r (32 * x + y) k cA → wX_markMoreApart_13 post J (nI m) (nI x) (d + 1) k (nI y) aO aB aS aE cC cF cS cA cG cL cM cN cP cW cT cQ := by
  intro d
  induction d with
  | zero =>
    intro y k cA hy hq
    have : y = 32 := by omega
    subst this
    exact pk_le 32 32 (fun _ => nm_r (nI_1 x) (hJ k cA hq)) (fun q => absurd q (by omega))
  | succ d ih =>
    intro y k cA hy hq
    refine pk_le 32 y (fun q => absurd q (by omega)) (fun _ => ?_)
    have hy' : y < 32 := by omega
    rw [fx_ix2]
    have hin : vp_in (nI (x * 32 + y)) 1024 := vp_in_nI (by omega) (by omega)
    refine ⟨hin, ?_⟩
    rw [nI_clamp (by omega)]
    have ec : x * 32 + y = 32 * x + y := by omega
    rw [ec]
    refine br_c (fun z => ?_) (fun z => ?_)
    · refine fx_aal P h hm hx hy' (fx_tv_c (fun g => ?_) (fun g => ?_))
      · refine ⟨vp_in_nI (n := 32 * x + y) (by omega) (by omega), nm_r (e' := upd cA (32 * x + y) 1) rfl (nm_r (nI_1 y) (ih (y + 1) 1 _ (by omega) ⟨?_, Or.inl rfl⟩))⟩
        refine fe_mk_s hq.1 hx hy' (ff_st_c P.1 hm) (fun w _ hw => ?_) ?_
        · unfold fx_Q; rw [pk_un hw]
        · refine ⟨fun _ => Or.inr g, fun _ => ?_⟩
          unfold fx_Q; rw [pk_us]; exact fx_n1
      · refine nm_r (nI_1 y) (ih (y + 1) k cA (by omega) ⟨?_, ?_⟩)
        · refine fe_mk_s hq.1 hx hy' (ff_st_c P.1 hm) (fun w _ _ => Iff.rfl) ⟨fun t => Or.inl t, fun t => ?_⟩
          rcases t with t | t
          · exact t
          · exact absurd t g
        · rcases hq.2 with t | ⟨t, u⟩
          · exact Or.inl t
          · refine Or.inr ⟨t, fun x' y' hx' hy2 hlt hn => ?_⟩
            by_cases v : 32 * x' + y' = 32 * x + y
            · have : x' = x := by omega
              have : y' = y := by omega
              subst x'; subst y'
              exact ⟨fun w => g (Or.inl w), fun w => g (Or.inr w)⟩
            · exact u x' y' hx' hy2 (by omega) hn
    · refine nm_r (nI_1 y) (ih (y + 1) k cA (by omega) ⟨?_, ?_⟩)
      · exact fe_mk_s hq.1 hx hy' (ff_st_c P.1 hm) (fun w _ _ => Iff.rfl) ⟨fun t => Or.inl t, fun _ => z⟩
      · rcases hq.2 with t | ⟨t, u⟩
        · exact Or.inl t
        · refine Or.inr ⟨t, fun x' y' hx' hy2 hlt hn => ?_⟩
          by_cases v : 32 * x' + y' = 32 * x + y
          · rw [v] at hn; exact absurd z hn
          · exact u x' y' hx' hy2 (by omega) hn
theorem fx_mma_go {post : Int32 → SX → Prop} (P : fx_P a a' b e) (h : fx_S a a' b e aO aB aS aE) (hm : m < 2) {r : Nat} (hp : ∀ (k : Int32) (cA' : Nat → Int32), fx_mi a e m r 1024 k cA' → post k (aO, aB, aS, aE, cC, cF, cS, cA', cG, cL, cM, cN, cP, cW, cT, cQ)) :
    ∀ d x (k : Int32) (cA : Nat → Int32), x + d = 32 → fx_mi a e m r (32 * x) k cA → wX_markMoreApart_4 post (nI m) (d + 1) k (nI x) aO aB aS aE cC cF cS cA cG cL cM cN cP cW cT cQ := by
  intro d
  induction d with
  | zero =>
    intro x k cA hx hq
    have : x = 32 := by omega
    subst this
    refine pk_le 32 32 (fun _ => ⟨?_, hp k cA hq⟩) (fun q => absurd q (by omega))
    rcases hq.2 with t | ⟨t, _⟩
    · rw [t]; rfl
    · rw [t]; rfl
  | succ d ih =>
    intro x k cA hx hq
    refine pk_le 32 x (fun q => absurd q (by omega)) (fun _ => ⟨_, fx_mma_in P h hm (by omega) (fun k' cA' hq' => ?_) 32 0 k cA rfl hq⟩)
    exact ih (x + 1) k' cA' (by omega) hq'
theorem fx_mma {post : Int32 → SX → Prop} (P : fx_P a a' b e) (h : fx_S a a' b e aO aB aS aE) (hm : m < 2) {r : Nat} (hq : fe_mk (ff_st a m) (ff_g e m) r 0 (fx_Q cA))
    (hp : ∀ (k : Int32) (cA' : Nat → Int32), fx_mi a e m r 1024 k cA' → post k (aO, aB, aS, aE, cC, cF, cS, cA', cG, cL, cM, cN, cP, cW, cT, cQ)) : wpX_markMoreApart post (aO, aB, aS, aE, cC, cF, cS, cA, cG, cL, cM, cN, cP, cW, cT, cQ) (nI m) :=
  ⟨_, fx_mma_go P h hm hp 32 0 0 cA rfl ⟨hq, Or.inr ⟨rfl, fun _ _ _ _ hz => absurd hz (Nat.not_lt_zero _)⟩⟩⟩
theorem fx_like1_go {post : Int32 → Prop} {K s : Nat} (hK : K < 2 ^ 32) (hs : s < 32) (hp : fx_tv (∃ t, t < s ∧ K.testBit t = true ∧ ¬ fx_Q cA (32 * t + s)) post) :
    ∀ d c, c + d = s → (∀ t, t < c → ¬ (K.testBit t = true ∧ ¬ fx_Q cA (32 * t + s))) → wX_isLikeEarlier_2 post (nI s) (nI K) aO aB aS aE cC cF cS cA cG cL cM cN cP cW cT cQ (d + 1) (nI c) := by
  intro d
  induction d with
  | zero =>
    intro c hc hn
    have : c = s := by omega
    subst this
    refine pk_le c c (fun _ => hp.2 ?_) (fun q => absurd q (by omega))
    rintro ⟨t, ht, g⟩
    exact hn t ht g
  | succ d ih =>
    intro c hc hn
    refine pk_le s c (fun q => absurd q (by omega)) (fun _ => fx_hb hK (by omega) (fx_tv_c (fun g => ?_) (fun g => ?_)))
    · rw [fx_ix2, Nat.mul_comm c 32]
      refine ⟨vp_in_nI (by omega) (by omega), ?_⟩
      rw [nI_clamp (by omega)]
      refine br_c (fun z => hp.1 ⟨c, by omega, g, fun w => w z⟩) (fun z => nm_r (nI_1 c) (ih (c + 1) (by omega) (fun t ht => ?_)))
      by_cases q : t = c
      · subst q; exact fun w => w.2 z
      · exact hn t (by omega)
    · refine nm_r (nI_1 c) (ih (c + 1) (by omega) (fun t ht => ?_))
      by_cases q : t = c
      · subst q; exact fun w => g w.1
      · exact hn t (by omega)
theorem fx_s1_go {post : Int32 → SX → Prop} {K : Nat} {R : Nat → Prop} (hK : K < 2 ^ 32) (hR : ∀ s, K.testBit s = true ↔ R s)
    (hp : post (nI (fa_ct (fe_nb R (fun s t => ¬ fx_Q cA (32 * s + t))) 32)) (aO, aB, aS, aE, cC, cF, cS, cA, cG, cL, cM, cN, cP, cW, cT, cQ)) : ∀ d c n, c + d = 32 → n = fa_ct (fe_nb R (fun s t => ¬ fx_Q cA (32 * s + t))) c → wX_sizeByMarks_51 post (nI K) aO aB aS aE cC cF cS cA cG cL cM cN cP cW cT cQ (d + 1) (nI n) (nI c) := by
  intro d
  induction d with
  | zero =>
    intro c n hc hn
    have : c = 32 := by omega
    subst this
    refine pk_le 32 32 (fun _ => ?_) (fun q => absurd q (by omega))
    rw [hn]; exact hp
  | succ d ih =>
    intro c n hc hn
    refine pk_le 32 c (fun q => absurd q (by omega)) (fun _ => fx_hb hK (by omega) (fx_tv_c (fun g => ?_) (fun g => ?_)))
    · refine ⟨_, fx_like1_go hK (by omega) (fx_tv_c (fun z => ?_) (fun z => ?_)) c 0 (by omega) (fun t ht => absurd ht (Nat.not_lt_zero _))⟩
      · obtain ⟨t, ht, h1, h2⟩ := z
        refine nm_r (nI_1 c) (ih (c + 1) n (by omega) ?_)
        rw [fa_ct_f (fun y => y.2 t ht ((hR t).mp h1) h2), hn]
      · refine nm_r (nI_1 n) (nm_r (nI_1 c) (ih (c + 1) (n + 1) (by omega) ?_))
        rw [fa_ct_t ⟨(hR c).mp g, fun t ht hr he => z ⟨t, ht, (hR t).mpr hr, he⟩⟩, hn]
    · refine nm_r (nI_1 c) (ih (c + 1) n (by omega) ?_)
      rw [fa_ct_f (fun y => g ((hR c).mpr y.1)), hn]
theorem fx_s1_end {post : Int32 → SX → Prop} (P : fx_P a a' b e) (h : fx_S a a' b e aO aB aS aE) (hm : m < 2) (hq : ∀ x y, x < 32 → y < 32 → (fx_Q cA (32 * x + y) ↔ ¬ fa_I (ff_st a m) (ff_g e m) x y))
    (hp : fx_ans a a' b e (nI (ff_N a b e m)) post) : wX_sizeByMarks_31 post (nI m) aO aB aS aE cC cF cS cA cG cL cM cN cP cW cT cQ := by
  have hb := P.2.2.2.1 m hm
  refine ⟨vp_in_nI hm (by omega), ?_⟩
  rw [fx_vec h.2.2.1 hm]
  refine fx_st_o P h hm hb (fun K hK hR => ⟨_, fx_s1_go hK hR ?_ 32 0 0 rfl rfl⟩)
  have : fa_ct (fe_nb (fa_R (ff_st a m) (b m)) (fun s t => ¬ fx_Q cA (32 * s + t))) 32 = ff_N a b e m := by
    refine fe_nb_congr (fun _ _ => Iff.rfl) (fun s t hs ht _ _ => ?_)
    rw [hq s t hs ht]
    exact ⟨fun z => Classical.byContradiction z, fun z w => w z⟩
  rw [this]
  exact hp _ _ _ _ _ _ _ _ _ _ _ _ _ _ _ _ h
theorem fx_s1_rounds {post : Int32 → SX → Prop} (P : fx_P a a' b e) (h : fx_S a a' b e aO aB aS aE) (hm : m < 2) (hp : fx_ans a a' b e (nI (ff_N a b e m)) post) :
    ∀ d r (cA : Nat → Int32), r + d = 1024 → fe_mk (ff_st a m) (ff_g e m) r 0 (fx_Q cA) → wX_sizeByMarks_7 post (nI m) (d + 1) (nI r) aO aB aS aE cC cF cS cA cG cL cM cN cP cW cT cQ := by
  intro d
  induction d with
  | zero =>
    intro r cA hr hq
    exact pk_le 1024 r (fun _ => fx_s1_end P h hm (fun x y hx hy => fe_mk_big hq (by omega) (ff_st_c P.1 hm) hx hy) hp) (fun q => absurd q (by omega))
  | succ d ih =>
    intro r cA hr hq
    refine pk_le 1024 r (fun q => absurd q (by omega)) (fun _ => fx_mma P h hm hq (fun k cA' hk => ?_))
    rcases hk.2 with t | ⟨t, u⟩
    · subst t
      exact br_f fx_n1 (nm_r (nI_1 r) (ih (r + 1) cA' (by omega) (fe_mk_r hk.1)))
    · subst t
      refine br_t rfl (fx_s1_end P h hm (fun x y hx hy => fe_mk_cl (fe_mk_r hk.1) (ff_st_c P.1 hm) (fun x y hx hy hn => u x y hx hy (by omega) hn) hx hy) hp)
theorem fx_size1 {post : Int32 → SX → Prop} (P : fx_P a a' b e) (h : fx_S a a' b e aO aB aS aE) (hm : m < 2) (hp : fx_ans a a' b e (nI (ff_N a b e m)) post) : wpX_sizeByMarks post (aO, aB, aS, aE, cC, cF, cS, cA, cG, cL, cM, cN, cP, cW, cT, cQ) (nI m) := by
  unfold wpX_sizeByMarks
  dsimp only
  refine fx_mea h hm (fun cA' hq => ⟨_, fx_s1_rounds P h hm hp 1024 0 cA' rfl (fe_mk_0 (fun x y hx hy => ?_))⟩)
  rw [hq (32 * x + y) (by omega), show (32 * x + y) / 32 = x by omega, show (32 * x + y) % 32 = y by omega]
/-! engines 2 and 3 -/
theorem fx_meet_go {post : Int32 → Prop} {K S : Nat} (hK : K < 2 ^ 32) (hS : S < 32) (hp : post (nI (fm_M K S))) : ∀ d c, c + d = 32 → wX_setsMeeting_4 post (nI K) (nI S) (d + 1) (nI (fm_k (fm_p K S) c)) (nI c) := by
  intro d
  induction d with
  | zero =>
    intro c hc
    have : c = 32 := by omega
    subst this
    exact pk_le 32 32 (fun _ => hp) (fun q => absurd q (by omega))
  | succ d ih =>
    intro c hc
    refine pk_le 32 c (fun q => absurd q (by omega)) (fun _ => fx_hb hK (by omega) (fx_tv_c (fun g => ?_) (fun g => ?_)))
    · refine br_c (fun z => ?_) (fun z => ?_)
      · rw [fx_and0 _ _ (by omega)] at z
        have := ih (c + 1) (by omega)
        rw [fm_k_f (fun y => z y.2)] at this
        exact nm_r (nI_1 c) this
      · rw [fx_and0 _ _ (by omega)] at z
        have := ih (c + 1) (by omega)
        rw [fm_k_t ⟨g, Classical.byContradiction z⟩] at this
        rw [fj_one (by omega)]
        exact nm_r (fj_or _ _) (nm_r (nI_1 c) this)
    · have := ih (c + 1) (by omega)
      rw [fm_k_f (fun y => g y.1)] at this
      exact nm_r (nI_1 c) this
theorem fx_meet {post : Int32 → Prop} {K S : Nat} (hK : K < 2 ^ 32) (hS : S < 32) (hp : post (nI (fm_M K S))) : wpX_setsMeeting post (nI K) (nI S) :=
  ⟨_, fx_meet_go hK hS hp 32 0 rfl⟩
theorem fx_group_go {post : Int32 → Prop} (P : fx_P a a' b e) (h : fx_S a a' b e aO aB aS aE) (hm : m < 2) {K G l : Nat} (hK : K < 2 ^ 32) (hG : G < 2 ^ 32) (hl : l < 2) (hp : post (nI (fm_k (fm_q (ff_st a' m) K G l) 32))) :
    ∀ d c, c + d = 32 → wX_groupAfter_6 post (nI m) (nI K) (nI G) (nI l) aO aB aS aE cC cF cS cA cG cL cM cN cP cW cT cQ (d + 1) (nI (fm_k (fm_q (ff_st a' m) K G l) c)) (nI c) := by
  intro d
  induction d with
  | zero =>
    intro c hc
    have : c = 32 := by omega
    subst this
    exact pk_le 32 32 (fun _ => hp) (fun q => absurd q (by omega))
  | succ d ih =>
    intro c hc
    have hlt := ff_st_lt P.2.1 hm c l
    refine pk_le 32 c (fun q => absurd q (by omega)) (fun _ => fx_step ⟨vp_in_nI (by omega) (by omega), nm_r (fx_tab h.2.1 hm (by omega) hl) (fx_hb hK (by omega) (fx_tv_c (fun g => ?_) (fun g => ?_)))⟩)
    · refine fx_hb hG hlt (fx_tv_c (fun g' => ?_) (fun g' => ?_))
      · have := ih (c + 1) (by omega)
        rw [fm_k_t ⟨g, g'⟩] at this
        rw [fj_one (by omega)]
        exact nm_r (fj_or _ _) (nm_r (nI_1 c) this)
      · have := ih (c + 1) (by omega)
        rw [fm_k_f (fun y => g' y.2)] at this
        exact nm_r (nI_1 c) this
    · have := ih (c + 1) (by omega)
      rw [fm_k_f (fun y => g y.1)] at this
      exact nm_r (nI_1 c) this
theorem fx_group {post : Int32 → Prop} (P : fx_P a a' b e) (h : fx_S a a' b e aO aB aS aE) (hm : m < 2) {K G l : Nat} (hK : K < 2 ^ 32) (hG : G < 2 ^ 32) (hl : l < 2) (hp : post (nI (fm_k (fm_q (ff_st a' m) K G l) 32))) :
    wpX_groupAfter post (aO, aB, aS, aE, cC, cF, cS, cA, cG, cL, cM, cN, cP, cW, cT, cQ) (nI m) (nI K) (nI G) (nI l) := ⟨_, fx_group_go P h hm hK hG hl hp 32 0 rfl⟩
theorem fx_note_go {post : Int32 → SX → Prop} {n : Nat} {g : Int32} (hn : n ≤ 32) (h1 : ∀ k, k < n → cG k = g → post (nI n) (aO, aB, aS, aE, cC, cF, cS, cA, cG, cL, cM, cN, cP, cW, cT, cQ)) (h0 : (∀ k, k < n → cG k ≠ g) → n < 32 → post (nI (n + 1)) (aO, aB, aS, aE, cC, cF, cS, cA, (upd cG n g), cL, cM, cN, cP, cW, cT, cQ)) (hb : (∀ k, k < n → cG k ≠ g) → n < 32) :
    ∀ d c, c + d = n → (∀ k, k < c → cG k ≠ g) → wX_noteGroup_2 post g (nI n) aO aB aS aE cC cF cS cA cG cL cM cN cP cW cT cQ (d + 1) (nI c) := by
  intro d
  induction d with
  | zero =>
    intro c hc hk
    have : c = n := by omega
    subst this
    refine pk_le c c (fun _ => ?_) (fun q => absurd q (by omega))
    have hlt := hb hk
    refine pk_lt c 32 (fun _ => ⟨vp_in_nI hlt (by omega), nm_r (fx_put (by omega) rfl) ?_⟩) (fun q => absurd q (by omega))
    rw [nI_1]; exact h0 hk hlt
  | succ d ih =>
    intro c hc hk
    refine pk_le n c (fun q => absurd q (by omega)) (fun _ => pk_le 32 c (fun q => absurd q (by omega)) (fun _ => ⟨vp_in_nI (by omega) (by omega), ?_⟩))
    rw [nI_clamp (by omega)]
    refine br_c (fun z => h1 c (by omega) z) (fun z => nm_r (nI_1 c) (ih (c + 1) (by omega) (fun k hk' => ?_)))
    by_cases q : k = c
    · subst q; exact z
    · exact hk k (by omega)
/-- a longer list that begins as the shorter one -/
def fx_xt (n : Nat) (G : Nat → Int32) (n' : Nat) (G' : Nat → Int32) : Prop := n ≤ n' ∧ ∀ k, k < n → G' k = G k
theorem fx_note {post : Int32 → SX → Prop} {R : Nat → Prop} {M : Nat → Nat} {n s : Nat} (hG : fm_G R M n cG) (hs : s < 32) (hr : R s)
    (hp : ∀ n' (cG' : Nat → Int32), fm_G R M n' cG' → fx_xt n cG n' cG' → (∃ k, k < n' ∧ cG' k = nI (M s)) → post (nI n') (aO, aB, aS, aE, cC, cF, cS, cA, cG', cL, cM, cN, cP, cW, cT, cQ)) : wpX_noteGroup post (aO, aB, aS, aE, cC, cF, cS, cA, cG, cL, cM, cN, cP, cW, cT, cQ) (nI (M s)) (nI n) := by
  refine ⟨_, fx_note_go (fm_G_32 hG) (fun k hk e => hp n cG hG ⟨Nat.le_refl _, fun _ _ => rfl⟩ ⟨k, hk, e⟩) (fun hne _ => ?_) (fun hne => ?_) n 0 (by omega) (fun k hk => absurd hk (Nat.not_lt_zero _))⟩
  · exact hp (n + 1) _ (fm_G_new hG hs hr hne) ⟨by omega, fun k hk => pk_un (by omega)⟩ ⟨n, by omega, pk_us⟩
  · have := fm_G_32 (fm_G_new hG hs hr hne)
    omega
theorem fx_s3_go {post : Int32 → SX → Prop} {R : Nat → Prop} {K L : Nat} (hK : K < 2 ^ 32) (hL : L < 2 ^ 32) (hR : ∀ s, K.testBit s = true ↔ R s)
    (hp : ∀ n (cG' : Nat → Int32), fm_G R (fm_M L) n cG' → (∀ s, s < 32 → R s → ∃ k, k < n ∧ cG' k = nI (fm_M L s)) → post (nI n) (aO, aB, aS, aE, cC, cF, cS, cA, cG', cL, cM, cN, cP, cW, cT, cQ)) :
    ∀ d c n (cG : Nat → Int32), c + d = 32 → fm_G R (fm_M L) n cG → (∀ s, s < c → R s → ∃ k, k < n ∧ cG k = nI (fm_M L s)) → wX_sizeByRows_36 post (nI K) (nI L) (d + 1) (nI n) (nI c) aO aB aS aE cC cF cS cA cG cL cM cN cP cW cT cQ := by
  intro d
  induction d with
  | zero =>
    intro c n cG hc hG hall
    have : c = 32 := by omega
    subst this
    exact pk_le 32 32 (fun _ => hp n cG hG hall) (fun q => absurd q (by omega))
  | succ d ih =>
    intro c n cG hc hG hall
    refine pk_le 32 c (fun q => absurd q (by omega)) (fun _ => fx_hb hK (by omega) (fx_tv_c (fun g => ?_) (fun g => ?_)))
    · refine fx_meet hL (by omega) (fx_note hG (show c < 32 by omega) ((hR c).mp g) (fun n' cG' hG' hx hk => ?_))
      refine nm_r (nI_1 c) (ih (c + 1) n' cG' (by omega) hG' (fun s hs hr => ?_))
      by_cases q : s = c
      · subst q; exact hk
      · obtain ⟨k, h1, h2⟩ := hall s (by omega) hr
        exact ⟨k, Nat.lt_of_lt_of_le h1 hx.1, (hx.2 k h1).trans h2⟩
    · refine nm_r (nI_1 c) (ih (c + 1) n cG (by omega) hG (fun s hs hr => ?_))
      by_cases q : s = c
      · subst q; exact absurd ((hR s).mpr hr) g
      · exact hall s (by omega) hr
theorem fx_N_M (P : fx_P a a' b e) (hm : m < 2) {L : Nat} (hL : ∀ s, L.testBit s = true ↔ fa_R (ff_st a' m) (e m) s) : fa_ct (fe_nb (fa_R (ff_st a m) (b m)) (fun s t => fm_M L s = fm_M L t)) 32 = ff_N a b e m :=
  fe_nb_congr (fun _ _ => Iff.rfl) (fun _ _ hs ht _ _ => fm_M_I P.1 P.2.1 P.2.2.1 hm (P.2.2.2.2 m hm) hL hs ht)
theorem fx_size3 {post : Int32 → SX → Prop} (P : fx_P a a' b e) (h : fx_S a a' b e aO aB aS aE) (hm : m < 2) (hp : fx_ans a a' b e (nI (ff_N a b e m)) post) : wpX_sizeByRows post (aO, aB, aS, aE, cC, cF, cS, cA, cG, cL, cM, cN, cP, cW, cT, cQ) (nI m) := by
  have hb := P.2.2.2.1 m hm
  have he := P.2.2.2.2 m hm
  refine ⟨vp_in_nI hm (by omega), ?_⟩
  rw [fx_vec h.2.2.1 hm]
  refine fx_st_o P h hm hb (fun K hK hR => ⟨vp_in_nI hm (by omega), ?_⟩)
  rw [fx_vec h.2.2.2 hm]
  refine fx_st_b P h hm he (fun L hL hT => ⟨_, fx_s3_go hK hL hR (fun n cG' hG hall => ?_) 32 0 0 cG rfl ⟨fun i j hi => absurd hi (Nat.not_lt_zero _), fun i hi => absurd hi (Nat.not_lt_zero _)⟩ (fun s hs => absurd hs (Nat.not_lt_zero _))⟩)
  rw [fm_G_end (fm_M_lt L) hG hall, fx_N_M P hm hT]
  exact hp _ _ _ _ _ _ _ _ _ _ _ _ _ _ _ _ h
theorem fx_s2_end {n : Nat} {R : Nat → Prop} {d : Nat → Nat → Nat} {M : Nat → Nat} {b0 : Nat} (hR : ∀ s, R s ↔ fa_R d b0 s) (hc : ∀ x, x < 32 → d x 0 < 32 ∧ d x 1 < 32) (hb : b0 < 32) (h0 : ∃ k, k < n ∧ cG k = nI (M b0)) (hW : fm_W d M n n cG) :
    ∀ s, s < 32 → R s → ∃ k, k < n ∧ cG k = nI (M s) := by
  intro s _ hr
  have := fa_R_of (d := d) (b := b0) (fun s => s < 32 ∧ ∃ k, k < n ∧ cG k = nI (M s)) ⟨hb, h0⟩ (fun s hs => ?_) (fun s hs => ?_) s ((hR s).mp hr)
  · exact this.2
  · obtain ⟨hs, k, hk, e⟩ := hs
    exact ⟨(hc s hs).1, (hW k s hk hs e).1⟩
  · obtain ⟨hs, k, hk, e⟩ := hs
    exact ⟨(hc s hs).2, (hW k s hk hs e).2⟩
end
end
section
/-! X: engine 2 for size; size and agree -/
section
variable {a a' b e : Nat → Nat} {aO aB aS aE cC cF cS cA cG cL cM cN cP cW cT cQ : Nat → Int32} {m x l : Nat}
theorem fx_s2_in {post : Int32 → SX → Prop} {J : Int32 → Int32 → (Nat → Int32) → (Nat → Int32) → (Nat → Int32) → (Nat → Int32) → (Nat → Int32) → (Nat → Int32) → (Nat → Int32) → (Nat → Int32) → (Nat → Int32) → (Nat → Int32) → (Nat → Int32) → (Nat → Int32) → (Nat → Int32) → (Nat → Int32) → (Nat → Int32) → (Nat → Int32) → Prop}
    (P : fx_P a a' b e) (h : fx_S a a' b e aO aB aS aE) (hm : m < 2) {K i n s : Nat} (hK : K < 2 ^ 32) (hT : ∀ s, K.testBit s = true ↔ fa_R (ff_st a' m) (e m) s) (hi : i < n) (hi32 : i < 32)
    (hG : fm_G (fa_R (ff_st a m) (b m)) (fm_M K) n cG) (hs : s < 32) (hr : fa_R (ff_st a m) (b m) s) (es : cG i = nI (fm_M K s))
    (hJ : ∀ n' (cG' : Nat → Int32), fm_G (fa_R (ff_st a m) (b m)) (fm_M K) n' cG' → fx_xt n cG n' cG' → (∃ k, k < n' ∧ cG' k = nI (fm_M K (ff_st a m s 0))) → (∃ k, k < n' ∧ cG' k = nI (fm_M K (ff_st a m s 1))) → J (nI n') (nI (i + 1)) aO aB aS aE cC cF cS cA cG' cL cM cN cP cW cT cQ) :
    wX_sizeByTurningTwice_52 post J (nI m) (nI K) (nI i) 3 (nI n) 0 aO aB aS aE cC cF cS cA cG cL cM cN cP cW cT cQ := by
  refine pk_le 2 0 (fun q => absurd q (by omega)) (fun _ => ⟨vp_in_nI hi32 (by omega), ?_⟩)
  rw [nI_clamp (by omega), es]
  refine fx_group (l := 0) P h hm hK (fm_M_lt K s) (by omega) ?_
  rw [fm_q_M P.1 P.2.1 P.2.2.1 hm hT hs (by omega)]
  refine fx_note hG (ff_st_lt P.1 hm s 0) (fa_R_0 hr) (fun n1 cG1 hG1 hx1 hk1 => nm_r (e' := nI 1) (by decide) ?_)
  refine pk_le 2 1 (fun q => absurd q (by omega)) (fun _ => ⟨vp_in_nI hi32 (by omega), ?_⟩)
  rw [nI_clamp (by omega), (hx1.2 i hi).trans es]
  refine fx_group P h hm hK (fm_M_lt K s) (by omega) ?_
  rw [fm_q_M P.1 P.2.1 P.2.2.1 hm hT hs (by omega)]
  refine fx_note hG1 (ff_st_lt P.1 hm s 1) (fa_R_1 hr) (fun n2 cG2 hG2 hx2 hk2 => nm_r (e' := nI 2) (by decide) ?_)
  refine pk_le 2 2 (fun _ => nm_r (nI_1 i) ?_) (fun q => absurd q (by omega))
  obtain ⟨k, h1, h2⟩ := hk1
  exact hJ n2 cG2 hG2 ⟨Nat.le_trans hx1.1 hx2.1, fun k hk => (hx2.2 k (Nat.lt_of_lt_of_le hk hx1.1)).trans (hx1.2 k hk)⟩ ⟨k, Nat.lt_of_lt_of_le h1 hx2.1, (hx2.2 k h1).trans h2⟩ hk2
theorem fx_s2_go {post : Int32 → SX → Prop} (P : fx_P a a' b e) (h : fx_S a a' b e aO aB aS aE) (hm : m < 2) {K : Nat} (hK : K < 2 ^ 32) (hT : ∀ s, K.testBit s = true ↔ fa_R (ff_st a' m) (e m) s)
    (hp : fx_ans a a' b e (nI (ff_N a b e m)) post) : ∀ d i n (cG : Nat → Int32), i + d = 33 → i ≤ n → fm_G (fa_R (ff_st a m) (b m)) (fm_M K) n cG → fm_W (ff_st a m) (fm_M K) n i cG → (∃ k, k < n ∧ cG k = nI (fm_M K (b m))) →
    wX_sizeByTurningTwice_36 post (nI m) (nI K) (d + 1) (nI n) (nI i) aO aB aS aE cC cF cS cA cG cL cM cN cP cW cT cQ := by
  intro d
  induction d with
  | zero =>
    intro i n cG hi hin hG
    have := fm_G_32 hG
    omega
  | succ d ih =>
    intro i n cG hi hin hG hW hb
    have h32 := fm_G_32 hG
    refine pk_le n i (fun q => ?_) (fun q => pk_le 32 i (fun q' => absurd q' (by omega)) (fun _ => ?_))
    · have : i = n := by omega
      subst this
      rw [fm_G_end (fm_M_lt K) hG (fx_s2_end (fun _ => Iff.rfl) (ff_st_c P.1 hm) (P.2.2.2.1 m hm) hb hW), fx_N_M P hm hT]
      exact hp _ _ _ _ _ _ _ _ _ _ _ _ _ _ _ _ h
    · obtain ⟨s, hs, hr, es⟩ := hG.2 i q
      refine ⟨_, fx_s2_in P h hm hK hT q (by omega) hG hs hr es (fun n' cG' hG' hx k0 k1 => ?_)⟩
      refine ih (i + 1) n' cG' (by omega) (by have := hx.1; omega) hG' (fun j s' hj hs' ej => ?_) ?_
      · by_cases g : j = i
        · subst g
          rw [hx.2 j q, es, fm_inj (fm_M_lt _ _) (fm_M_lt _ _), fm_M_I P.1 P.2.1 P.2.2.1 hm (P.2.2.2.2 m hm) hT hs hs'] at ej
          have e0 := (fm_M_I P.1 P.2.1 P.2.2.1 hm (P.2.2.2.2 m hm) hT (ff_st_lt P.1 hm s 0) (ff_st_lt P.1 hm s' 0)).mpr (fa_I_s0 ej)
          have e1 := (fm_M_I P.1 P.2.1 P.2.2.1 hm (P.2.2.2.2 m hm) hT (ff_st_lt P.1 hm s 1) (ff_st_lt P.1 hm s' 1)).mpr (fa_I_s1 ej)
          rw [← e0, ← e1]
          exact ⟨k0, k1⟩
        · have hjn : j < n := by omega
          rw [hx.2 j hjn] at ej
          obtain ⟨⟨p, p1, p2⟩, ⟨r, r1, r2⟩⟩ := hW j s' (by omega) hs' ej
          exact ⟨⟨p, Nat.lt_of_lt_of_le p1 hx.1, (hx.2 p p1).trans p2⟩, ⟨r, Nat.lt_of_lt_of_le r1 hx.1, (hx.2 r r1).trans r2⟩⟩
      · obtain ⟨p, p1, p2⟩ := hb
        exact ⟨p, Nat.lt_of_lt_of_le p1 hx.1, (hx.2 p p1).trans p2⟩
theorem fx_size2 {post : Int32 → SX → Prop} (P : fx_P a a' b e) (h : fx_S a a' b e aO aB aS aE) (hm : m < 2) (hp : fx_ans a a' b e (nI (ff_N a b e m)) post) : wpX_sizeByTurningTwice post (aO, aB, aS, aE, cC, cF, cS, cA, cG, cL, cM, cN, cP, cW, cT, cQ) (nI m) := by
  have hb := P.2.2.2.1 m hm
  have he := P.2.2.2.2 m hm
  refine ⟨vp_in_nI hm (by omega), ?_⟩
  rw [fx_vec h.2.2.2 hm]
  refine fx_st_b P h hm he (fun K hK hT => ⟨vp_in_nI hm (by omega), ?_⟩)
  rw [fx_vec h.2.2.1 hm]
  refine fx_meet hK hb (nm_e ⟨_, fx_s2_go P h hm hK hT hp 33 0 1 _ rfl (by omega) ?_ (fun j s hj => absurd hj (Nat.not_lt_zero _)) ⟨0, by omega, pk_us⟩⟩)
  exact fm_G_new (n := 0) ⟨fun i j hi => absurd hi (Nat.not_lt_zero _), fun i hi => absurd hi (Nat.not_lt_zero _)⟩ hb fa_R_b (fun i hi => absurd hi (Nat.not_lt_zero _))
theorem fx_found {post : Int32 → SX → Prop} (P : fx_P a a' b e) (h : fx_S a a' b e aO aB aS aE) (hm : m < 2) {g : Nat} (hg : g < 4) (hp : fx_ans a a' b e (nI (ff_N a b e m)) post) : wpX_sizeFoundBy post (aO, aB, aS, aE, cC, cF, cS, cA, cG, cL, cM, cN, cP, cW, cT, cQ) (nI g) (nI m) := by
  refine br_f (nI_pos (by omega)) (pk_lt 2 g (fun _ => ?_) (fun q => pk_eq g 0 (fun q0 => ?_) (fun q0 => pk_eq g 1 (fun q1 => ?_) (fun q1 => pk_eq g 2 (fun q2 => ?_) (fun q2 => trivial)))))
  · exact fx_size3 P h hm hp
  · exact fx_size0 P h hm hp
  · exact fx_size1 P h hm hp
  · exact fx_size2 P h hm hp
theorem fx_agree {post : Int32 → SX → Prop} (P : fx_P a a' b e) (h : fx_S a a' b e aO aB aS aE) {g g' : Nat} (hg : g < 4) (hg' : g' < 4) (hp : fx_ans a a' b e 1 post) : ∃ n, wX_agree_20 post (nI g) (nI g') n 0 aO aB aS aE cC cF cS cA cG cL cM cN cP cW cT cQ := by
  refine ⟨3, pk_le 2 0 (fun q => absurd q (by omega)) (fun _ => ?_)⟩
  refine fx_found (m := 0) P h (by omega) hg (fun aO aB aS aE cC cF cS cA cG cL cM cN cP cW cT cQ h1 => ?_)
  refine fx_found (m := 0) P h1 (by omega) hg' (fun aO aB aS aE cC cF cS cA cG cL cM cN cP cW cT cQ h2 => ?_)
  refine br_t rfl (nm_r (e' := nI 1) (by decide) (pk_le 2 1 (fun q => absurd q (by omega)) (fun _ => ?_)))
  refine fx_found P h2 (by omega) hg (fun aO aB aS aE cC cF cS cA cG cL cM cN cP cW cT cQ h3 => ?_)
  refine fx_found P h3 (by omega) hg' (fun aO aB aS aE cC cF cS cA cG cL cM cN cP cW cT cQ h4 => ?_)
  refine br_t rfl (nm_r (e' := nI 2) (by decide) (pk_le 2 2 (fun _ => ?_) (fun q => absurd q (by omega))))
  exact hp _ _ _ _ _ _ _ _ _ _ _ _ _ _ _ _ h4
end
end
section
/-! X: the walk over pairs; equal by walking, covers, difference -/
def fx_ps (cP cW cT cQ : Nat → Int32) (s : fd_S) : Prop :=
  (∀ j, j < s.1 → cP j = nI (s.2.1 j) ∧ cW j = nI (s.2.2.1 j) ∧ cT j = nI (s.2.2.2 j)) ∧ (∀ q, q < 1024 → (cQ q ≠ 0 ↔ fd_in q s))
section
variable {a a' b e : Nat → Nat} {aO aB aS aE cC cF cS cA cG cL cM cN cP cW cT cQ : Nat → Int32} {m x l : Nat}
theorem fx_ps_new {s : fd_S} {q w t : Nat} (h : fx_ps cP cW cT cQ s) (hq : q < 1024) (hn : ¬ fd_in q s) : fx_ps (upd cP s.1 (nI q)) (upd cW s.1 (nI w)) (upd cT s.1 (nI t)) (upd cQ q 1) (fd_nt q w t s) := by
  refine ⟨fun j hj => ?_, fun x hx => ?_⟩
  · rw [fd_nt_f hn] at hj ⊢
    have hj' : j < s.1 + 1 := hj
    show upd cP s.1 (nI q) j = nI (fd_up s.2.1 s.1 q j) ∧ upd cW s.1 (nI w) j = nI (fd_up s.2.2.1 s.1 w j) ∧ upd cT s.1 (nI t) j = nI (fd_up s.2.2.2 s.1 t j)
    by_cases g : j = s.1
    · rw [g, pk_us, pk_us, pk_us, fd_up_s, fd_up_s, fd_up_s]; exact ⟨rfl, rfl, rfl⟩
    · rw [pk_un g, pk_un g, pk_un g, fd_up_n (by omega), fd_up_n (by omega), fd_up_n (by omega)]
      exact h.1 j (by omega)
  · rw [fd_in_nt_iff]
    by_cases g : x = q
    · subst g; rw [pk_us]; exact ⟨fun _ => Or.inr rfl, fun _ => fx_n1⟩
    · rw [pk_un g, h.2 x hx]
      exact ⟨fun z => Or.inl z, fun z => z.elim id (fun y => absurd y g)⟩
theorem fx_notePair {post : Int32 → SX → Prop} {s : fd_S} {q w t : Nat} (h : fx_ps cP cW cT cQ s) (hq : q < 1024) (hs : s.1 ≤ 1024) (hb : (fd_nt q w t s).1 ≤ 1024)
    (hp : ∀ cP' cW' cT' cQ' : Nat → Int32, fx_ps cP' cW' cT' cQ' (fd_nt q w t s) → post (nI (fd_nt q w t s).1) (aO, aB, aS, aE, cC, cF, cS, cA, cG, cL, cM, cN, cP', cW', cT', cQ')) : wpX_notePair post (aO, aB, aS, aE, cC, cF, cS, cA, cG, cL, cM, cN, cP, cW, cT, cQ) (nI q) (nI w) (nI t) (nI s.1) := by
  have hin : vp_in (nI q) 1024 := vp_in_nI hq (by omega)
  refine ⟨hin, ?_⟩
  rw [nI_clamp (by omega)]
  refine br_c (fun z => ?_) (fun z => ?_)
  · have hn : ¬ fd_in q s := fun y => (h.2 q hq).mpr y z
    have hb' : s.1 + 1 ≤ 1024 := by rw [fd_nt_f hn] at hb; exact hb
    have hin2 : vp_in (nI s.1) 1024 := vp_in_nI (by omega) (by omega)
    have e1 : (fd_nt q w t s).1 = s.1 + 1 := by rw [fd_nt_f hn]
    have key := hp _ _ _ _ (fx_ps_new (w := w) (t := t) h hq hn)
    rw [e1, ← nI_1] at key
    have hs2 : s.1 < 2 ^ 31 := by omega
    refine pk_lt s.1 1024 (fun _ => ⟨hin, nm_r (e' := upd cQ q 1) rfl ⟨hin2, nm_r (fx_put hs2 rfl) ⟨hin2, nm_r (fx_put hs2 rfl) ⟨hin2, nm_r (fx_put hs2 rfl) key⟩⟩⟩⟩) (fun y => absurd y (by omega))
  · have hi : fd_in q s := (h.2 q hq).mp z
    have key := hp cP cW cT cQ (by rw [fd_nt_t hi]; exact h)
    rw [fd_nt_t hi] at key
    exact key
theorem fx_pairAfter {post : Int32 → Prop} (P : fx_P a a' b e) (h : fx_S a a' b e aO aB aS aE) {q : Nat} (hq : q < 1024) (hl : l < 2) (hp : post (nI (fi_s a q l))) : wpX_pairAfter post (aO, aB, aS, aE, cC, cF, cS, cA, cG, cL, cM, cN, cP, cW, cT, cQ) (nI q) (nI l) := by
  have g0 := ff_st_lt P.1 (show 0 < 2 by omega) (q / 32) l
  have g1 := ff_st_lt P.1 (show 1 < 2 by omega) (q % 32) l
  unfold wpX_pairAfter
  dsimp only
  rw [fx_r32 (by omega), fx_d32 (by omega)]
  refine ⟨fx_32, fx_step (m := 0) ⟨vp_in_nI (by omega) (by omega), nm_r (fx_tab h.1 (by omega) (by omega) hl) ⟨fx_32, fx_step (m := 1) ⟨vp_in_nI (by omega) (by omega), nm_r (fx_tab h.1 (by omega) (by omega) hl) ?_⟩⟩⟩⟩
  rw [fx_ix2, Nat.mul_comm _ 32]
  exact hp
theorem fx_walk_in {post : Int32 → SX → Prop} {J : Int32 → Int32 → (Nat → Int32) → (Nat → Int32) → (Nat → Int32) → (Nat → Int32) → (Nat → Int32) → (Nat → Int32) → (Nat → Int32) → (Nat → Int32) → (Nat → Int32) → (Nat → Int32) → (Nat → Int32) → (Nat → Int32) → (Nat → Int32) → (Nat → Int32) → (Nat → Int32) → (Nat → Int32) → Prop}
    (P : fx_P a a' b e) (h : fx_S a a' b e aO aB aS aE) {q0 i : Nat} {s : fd_S} (J0 : fd_J (fi_s a) q0 s) (hi : i < s.1) (hs : fx_ps cP cW cT cQ s)
    (hJ : ∀ cP' cW' cT' cQ' : Nat → Int32, fx_ps cP' cW' cT' cQ' (fd_g1 (fi_s a) (fd_g0 (fi_s a) s i) i) → J (nI (fd_g1 (fi_s a) (fd_g0 (fi_s a) s i) i).1) (nI (i + 1)) aO aB aS aE cC cF cS cA cG cL cM cN cP' cW' cT' cQ') :
    wX_walkPairs_62 post J (nI i) 3 (nI s.1) 0 aO aB aS aE cC cF cS cA cG cL cM cN cP cW cT cQ := by
  have hst := fi_s_lt P.1
  have n0 := fd_J_n J0
  have J1 := fd_J_g0 J0 hst hi
  have n1 := fd_J_n J1
  have hi1 : i < (fd_g0 (fi_s a) s i).1 := Nat.lt_of_lt_of_le hi (fd_le_g0 (stp := fi_s a) s i).1
  have J2 := fd_J_g1 J1 hst hi1
  have n2 := fd_J_n J2
  have hin : vp_in (nI i) 1024 := vp_in_nI (by omega) (by omega)
  have q0 := J0.2.1 i hi
  have q1 := J1.2.1 i hi1
  refine pk_le 2 0 (fun z => absurd z (by omega)) (fun _ => ⟨hin, ?_⟩)
  rw [nI_clamp (by omega), (hs.1 i hi).1, (hs.1 i hi).2.1, (hs.1 i hi).2.2]
  refine fx_pairAfter (l := 0) P h q0 (by omega) ⟨hin, nm_r (e' := nI (2 * s.2.2.1 i)) ?_ ⟨hin, ?_⟩⟩
  · show nI (s.2.2.1 i) * nI 2 + nI 0 = _
    rw [pk_mul, nI_add, Nat.add_zero, Nat.mul_comm]
  rw [nI_1 (s.2.2.2 i)]
  refine fx_notePair hs (hst _ _) n0 n1 (fun cP1 cW1 cT1 cQ1 hs1 => nm_r (e' := nI 1) (by decide) ?_)
  refine pk_le 2 1 (fun z => absurd z (by omega)) (fun _ => ⟨hin, ?_⟩)
  dsimp only
  have hs1' : fx_ps cP1 cW1 cT1 cQ1 (fd_g0 (fi_s a) s i) := hs1
  rw [nI_clamp (by omega), (hs1'.1 i hi1).1, (hs1'.1 i hi1).2.1, (hs1'.1 i hi1).2.2]
  refine fx_pairAfter P h q1 (by omega) ⟨hin, nm_r (e' := nI (2 * (fd_g0 (fi_s a) s i).2.2.1 i + 1)) ?_ ⟨hin, ?_⟩⟩
  · show nI ((fd_g0 (fi_s a) s i).2.2.1 i) * nI 2 + nI 1 = _
    rw [pk_mul, nI_add, Nat.mul_comm]
  rw [nI_1 ((fd_g0 (fi_s a) s i).2.2.2 i)]
  refine fx_notePair (s := fd_g0 (fi_s a) s i) hs1' (hst _ _) n1 n2 (fun cP2 cW2 cT2 cQ2 hs2 => nm_r (e' := nI 2) (by decide) ?_)
  refine pk_le 2 2 (fun _ => nm_r (nI_1 i) ?_) (fun z => absurd z (by omega))
  exact hJ cP2 cW2 cT2 cQ2 hs2
/-- what the walk leaves -/
def fx_wk (a b : Nat → Nat) (F : Nat) (cP cW cT cQ : Nat → Int32) : Prop :=
  F ≤ 1024 ∧ (fd_bf (fi_s a) (fi_q b) F).1 = F ∧ fd_on (fi_s a) (fi_q b) F ∧ fx_ps cP cW cT cQ (fd_bf (fi_s a) (fi_q b) F)
theorem fx_q_lt (P : fx_P a a' b e) : fi_q b < 1024 := by
  have h0 := P.2.2.2.1 0 (by omega)
  have h1 := P.2.2.2.1 1 (by omega)
  unfold fi_q; omega
theorem fx_walk_go {post : Int32 → SX → Prop} (P : fx_P a a' b e) (h : fx_S a a' b e aO aB aS aE) (hp : ∀ F (cP' cW' cT' cQ' : Nat → Int32), fx_wk a b F cP' cW' cT' cQ' → post (nI F) (aO, aB, aS, aE, cC, cF, cS, cA, cG, cL, cM, cN, cP', cW', cT', cQ')) :
    ∀ d i (cP cW cT cQ : Nat → Int32), i + d = 1025 → fd_on (fi_s a) (fi_q b) i → fx_ps cP cW cT cQ (fd_bf (fi_s a) (fi_q b) i) → wX_walkPairs_48 post (d + 1) (nI (fd_bf (fi_s a) (fi_q b) i).1) (nI i) aO aB aS aE cC cF cS cA cG cL cM cN cP cW cT cQ := by
  have hst := fi_s_lt P.1
  have hq := fx_q_lt P
  intro d
  induction d with
  | zero =>
    intro i cP cW cT cQ hi ho hs
    have h1 := fd_J_n (fd_J_bf hq hst i ho)
    have h2 := ho (i - 1) (by omega)
    have h3 := (fd_le_bf (stp := fi_s a) (q0 := fi_q b) (i - 1)).1
    rw [show i - 1 + 1 = i by omega] at h3
    omega
  | succ d ih =>
    intro i cP cW cT cQ hi ho hs
    have J0 := fd_J_bf hq hst i ho
    have hn := fd_J_n J0
    refine pk_le (fd_bf (fi_s a) (fi_q b) i).1 i (fun z => ?_) (fun z => pk_le 1024 i (fun y => absurd y (by omega)) (fun _ => ⟨3, ?_⟩))
    · have hge : i ≤ (fd_bf (fi_s a) (fi_q b) i).1 := by
        cases i with
        | zero => exact Nat.zero_le _
        | succ i =>
          have h2 := ho i (by omega)
          have h3 := (fd_le_bf (stp := fi_s a) (q0 := fi_q b) i).1
          omega
      have he : (fd_bf (fi_s a) (fi_q b) i).1 = i := Nat.le_antisymm z hge
      have key := hp i cP cW cT cQ ⟨by omega, he, ho, hs⟩
      rw [he]; exact key
    · refine fx_walk_in P h J0 z hs (fun cP' cW' cT' cQ' hs' => ?_)
      refine ih (i + 1) cP' cW' cT' cQ' (by omega) (fun j hj => ?_) hs'
      by_cases g : j = i
      · subst g; exact z
      · exact ho j (by omega)
theorem fx_walk0 {post : Int32 → SX → Prop} (P : fx_P a a' b e) (h : fx_S a a' b e aO aB aS aE) (hp : ∀ F (cP' cW' cT' cQ' : Nat → Int32), fx_wk a b F cP' cW' cT' cQ' → post (nI F) (aO, aB, aS, aE, cC, cF, cS, cA, cG, cL, cM, cN, cP', cW', cT', cQ')) :
    ∀ d c (cQ : Nat → Int32), c + d = 1024 → (∀ x, x < c → cQ x = 0) → wX_walkPairs_2 post (d + 1) (nI c) aO aB aS aE cC cF cS cA cG cL cM cN cP cW cT cQ := by
  have hq := fx_q_lt P
  intro d
  induction d with
  | zero =>
    intro c cQ hc hz
    have : c = 1024 := by omega
    subst this
    refine pk_le 1024 1024 (fun _ => ?_) (fun z => absurd z (by omega))
    have e0 : aS 0 * 32 + aS 1 = nI (fi_q b) := by
      rw [h.2.2.1 0 (by omega), h.2.2.1 1 (by omega), fx_ix2, Nat.mul_comm]; rfl
    rw [e0]
    have hin : vp_in (nI (fi_q b)) 1024 := vp_in_nI hq (by omega)
    have hi0 : vp_in (0 : Int32) 1024 := vp_in_nI (n := 0) (by omega) (by omega)
    refine ⟨hin, br_t ((fx_get (by omega)).trans (hz _ hq)) (br_t (by decide) ⟨hin, nm_r (fx_put (by omega) fx_nb1) ⟨hi0, nm_e ⟨hi0, nm_e ⟨hi0, nm_e ⟨1026, ?_⟩⟩⟩⟩⟩)⟩
    refine fx_walk_go P h hp 1025 0 _ _ _ _ rfl (fun j hj => absurd hj (Nat.not_lt_zero _)) ⟨fun j hj => ?_, fun x hx => ?_⟩
    · have hj' : j < 1 := hj
      have : j = 0 := by omega
      subst this
      exact ⟨rfl, rfl, rfl⟩
    · by_cases g : x = fi_q b
      · subst g; rw [pk_us]; exact ⟨fun _ => ⟨0, Nat.one_pos, rfl⟩, fun _ => fx_n1⟩
      · rw [pk_un g, hz x hx]
        exact ⟨fun z => absurd rfl z, fun ⟨j, _, y⟩ => absurd y.symm g⟩
  | succ d ih =>
    intro c cQ hc hz
    refine pk_le 1024 c (fun z => absurd z (by omega)) (fun _ => ⟨vp_in_nI (by omega) (by omega), nm_r (fx_put (by omega) fx_nb0) (nm_r (nI_1 c) (ih (c + 1) _ (by omega) (fun x hx => ?_)))⟩)
    by_cases g : x = c
    · subst g; exact pk_us
    · rw [pk_un g]; exact hz x (by omega)
theorem fx_walk {post : Int32 → SX → Prop} (P : fx_P a a' b e) (h : fx_S a a' b e aO aB aS aE) (hp : ∀ F (cP' cW' cT' cQ' : Nat → Int32), fx_wk a b F cP' cW' cT' cQ' → post (nI F) (aO, aB, aS, aE, cC, cF, cS, cA, cG, cL, cM, cN, cP', cW', cT', cQ')) : wpX_walkPairs post (aO, aB, aS, aE, cC, cF, cS, cA, cG, cL, cM, cN, cP, cW, cT, cQ) :=
  ⟨_, fx_walk0 P h hp 1024 0 cQ rfl (fun x hx => absurd hx (Nat.not_lt_zero _))⟩
theorem fx_pa0 {post : Int32 → Prop} (h : fx_S a a' b e aO aB aS aE) {q : Nat} (hq : q < 1024) (hp : fx_tv (fi_x e q) post) : wpX_pairAccepts post (aO, aB, aS, aE, cC, cF, cS, cA, cG, cL, cM, cN, cP, cW, cT, cQ) 0 (nI q) := by
  refine br_t rfl ⟨fx_32, ?_⟩
  rw [fx_d32 (by omega)]
  exact fx_ending (m := 0) h (by omega) (by omega) (fx_tv_n hp)
theorem fx_pa1 {post : Int32 → Prop} (h : fx_S a a' b e aO aB aS aE) {q : Nat} (hq : q < 1024) (hp : fx_tv (fi_y e q) post) : wpX_pairAccepts post (aO, aB, aS, aE, cC, cF, cS, cA, cG, cL, cM, cN, cP, cW, cT, cQ) 1 (nI q) := by
  refine br_f fx_n1 ⟨fx_32, ?_⟩
  rw [fx_r32 (by omega)]
  exact fx_ending (m := 1) h (by omega) (by omega) (fx_tv_n hp)
theorem fx_fsp_go {post : Int32 → Prop} (h : fx_S a a' b e aO aB aS aE) {F : Nat} {p : Nat → Nat} (hF : F ≤ 1024) (hP : ∀ j, j < F → cP j = nI (p j) ∧ p j < 1024)
    (h1 : ∀ j, j < F → ¬ (fi_x e (p j) ↔ fi_y e (p j)) → (∀ i, i < j → (fi_x e (p i) ↔ fi_y e (p i))) → post (nI j)) (h0 : (∀ j, j < F → (fi_x e (p j) ↔ fi_y e (p j))) → post (-2)) :
    ∀ d c, c + d = F → (∀ i, i < c → (fi_x e (p i) ↔ fi_y e (p i))) → wX_firstSplitPair_2 post (nI F) aO aB aS aE cC cF cS cA cG cL cM cN cP cW cT cQ (d + 1) (nI c) := by
  intro d
  induction d with
  | zero =>
    intro c hc hn
    have : c = F := by omega
    subst this
    exact pk_le c c (fun _ => h0 hn) (fun z => absurd z (by omega))
  | succ d ih =>
    intro c hc hn
    have hcF : c < F := by omega
    have hin : vp_in (nI c) 1024 := vp_in_nI (by omega) (by omega)
    refine pk_le F c (fun z => absurd z (by omega)) (fun _ => pk_le 1024 c (fun z => absurd z (by omega)) (fun _ => ⟨hin, ?_⟩))
    rw [nI_clamp (by omega), (hP c hcF).1]
    have nx : (fi_x e (p c) ↔ fi_y e (p c)) → wX_firstSplitPair_2 post (nI F) aO aB aS aE cC cF cS cA cG cL cM cN cP cW cT cQ (d + 1) (nI (c + 1)) := by
      intro g
      refine ih (c + 1) (by omega) (fun i hi => ?_)
      by_cases q : i = c
      · subst q; exact g
      · exact hn i (by omega)
    refine fx_pa0 h (hP c hcF).2 (fx_tv_m (fun gx => ⟨hin, fx_pa1 h (hP c hcF).2 (fx_tv_m (fun gy => ?_) (fun gy => ?_))⟩) (fun gx => ⟨hin, fx_pa1 h (hP c hcF).2 (fx_tv_m (fun gy => ?_) (fun gy => ?_))⟩))
    · exact br_t rfl (nm_r (nI_1 c) (nx ⟨fun _ => gy, fun _ => gx⟩))
    · exact br_f fx_n1 (h1 c hcF (fun z => gy (z.mp gx)) hn)
    · exact br_f (fun z => fx_n1 z.symm) (h1 c hcF (fun z => gx (z.mpr gy)) hn)
    · exact br_t rfl (nm_r (nI_1 c) (nx ⟨fun z => absurd z gx, fun z => absurd z gy⟩))
theorem fx_fsp {post : Int32 → Prop} (h : fx_S a a' b e aO aB aS aE) {F : Nat} {p : Nat → Nat} (hF : F ≤ 1024) (hP : ∀ j, j < F → cP j = nI (p j) ∧ p j < 1024)
    (h1 : ∀ j, j < F → ¬ (fi_x e (p j) ↔ fi_y e (p j)) → (∀ i, i < j → (fi_x e (p i) ↔ fi_y e (p i))) → post (nI j)) (h0 : (∀ j, j < F → (fi_x e (p j) ↔ fi_y e (p j))) → post (-2)) : wpX_firstSplitPair post (aO, aB, aS, aE, cC, cF, cS, cA, cG, cL, cM, cN, cP, cW, cT, cQ) (nI F) :=
  ⟨_, fx_fsp_go h hF hP h1 h0 F 0 (by omega) (fun i hi => absurd hi (Nat.not_lt_zero _))⟩
theorem fx_nm2 {j : Nat} (h : j < 2 ^ 31) : ¬ nI j = -2 := by
  intro z
  have := nI_pos h
  rw [z] at this
  exact this (by decide)
theorem fx_wk_P (P : fx_P a a' b e) {F : Nat} (w : fx_wk a b F cP cW cT cQ) : ∀ j, j < F → cP j = nI ((fd_bf (fi_s a) (fi_q b) F).2.1 j) ∧ (fd_bf (fi_s a) (fi_q b) F).2.1 j < 1024 := by
  intro j hj
  have J0 := fd_J_bf (fx_q_lt P) (fi_s_lt P.1) F w.2.2.1
  have hj' : j < (fd_bf (fi_s a) (fi_q b) F).1 := by rw [w.2.1]; exact hj
  exact ⟨(w.2.2.2.1 j hj').1, J0.2.1 j hj'⟩
theorem fx_byWalk {post : Int32 → SX → Prop} (P : fx_P a a' b e) (h : fx_S a a' b e aO aB aS aE)
    (h1 : fi_EQ a b e → fx_ans a a' b e 1 post) (h0 : ¬ fi_EQ a b e → fx_ans a a' b e 0 post) : wpX_isEqualByWalk post (aO, aB, aS, aE, cC, cF, cS, cA, cG, cL, cM, cN, cP, cW, cT, cQ) := by
  have hb0 := P.2.2.2.1 0 (by omega)
  have hb1 := P.2.2.2.1 1 (by omega)
  unfold wpX_isEqualByWalk
  dsimp only
  refine fx_walk P h (fun F cP' cW' cT' cQ' w => ?_)
  have iff := fi_none (e := e) P.1 hb0 hb1 w.2.1 w.2.2.1
  have hF := w.1
  refine fx_fsp h hF (fx_wk_P P w) (fun j hj hs _ => br_f (fx_nm2 (by omega)) ?_) (fun hn => br_t rfl ?_)
  · exact h0 (fun z => hs (iff.mpr z j hj)) _ _ _ _ _ _ _ _ _ _ _ _ _ _ _ _ h
  · exact h1 (iff.mp hn) _ _ _ _ _ _ _ _ _ _ _ _ _ _ _ _ h
end
end
section
/-! X: equal by merging; the four answers of X that compare the machines -/
section
variable {a a' b e : Nat → Nat} {aO aB aS aE cC cF cS cA cG cL cM cN cP cW cT cQ : Nat → Int32} {m x l : Nat}
theorem fx_mg_go {post : Int32 → SX → Prop} {n p q k o : Nat} {ld : Nat → Nat} (hn : n < 64) (hld : ∀ x, x < 64 → ld x < 64) (hk : k < 64) (ho : o < 64)
    (hp : ∀ cL' : Nat → Int32, fx_ar cL' (fh_ld ld k o) 64 → post (nI (n + 1)) (aO, aB, aS, aE, cC, cF, cS, cA, cG, cL', (upd cM n (nI p)), (upd cN n (nI q)), cP, cW, cT, cQ)) : ∀ d c (cL : Nat → Int32), c + d = 64 → (∀ x, x < 64 → cL x = nI (if x < c then fh_ld ld k o x else ld x)) →
    wX_merge_34 post (nI p) (nI q) (nI n) (nI k) (nI o) (d + 1) (nI c) aO aB aS aE cC cF cS cA cG cL cM cN cP cW cT cQ := by
  intro d
  induction d with
  | zero =>
    intro c cL hc hL
    have : c = 64 := by omega
    subst this
    have hin : vp_in (nI n) 64 := vp_in_nI hn (by omega)
    refine pk_le 64 64 (fun _ => ⟨hin, nm_r (fx_put (by omega) rfl) ⟨hin, nm_r (fx_put (by omega) rfl) ?_⟩⟩) (fun z => absurd z (by omega))
    rw [nI_1]
    refine hp cL (fun x hx => ?_)
    rw [hL x hx, if_pos hx]
  | succ d ih =>
    intro c cL hc hL
    have hc64 : c < 64 := by omega
    have hin : vp_in (nI c) 64 := vp_in_nI hc64 (by omega)
    refine pk_le 64 c (fun z => absurd z (by omega)) (fun _ => ⟨hin, ?_⟩)
    rw [nI_clamp (by omega)]
    have ec : cL c = nI (ld c) := by rw [hL c hc64, if_neg (by omega)]
    have hlc := hld c hc64
    rw [ec]
    refine pk_eq (ld c) k (fun z => ⟨hin, nm_r (e' := upd cL c (nI o)) rfl (nm_r (nI_1 c) (ih (c + 1) _ (by omega) (fun x hx => ?_)))⟩) (fun z => nm_r (nI_1 c) (ih (c + 1) cL (by omega) (fun x hx => ?_)))
    · by_cases g : x = c
      · subst g
        rw [pk_us, if_pos (by omega)]
        unfold fh_ld
        rw [if_pos z]
      · rw [pk_un g, hL x hx]
        by_cases g' : x < c
        · rw [if_pos g', if_pos (by omega)]
        · rw [if_neg g', if_neg (by omega)]
    · by_cases g : x = c
      · subst g
        rw [ec, if_pos (by omega)]
        unfold fh_ld
        rw [if_neg z]
      · rw [hL x hx]
        by_cases g' : x < c
        · rw [if_pos g', if_pos (by omega)]
        · rw [if_neg g', if_neg (by omega)]
/-- what a merging leaves -/
def fx_mv (d : Nat → Nat → Nat) (f : Nat → Prop) (x0 y0 n : Nat) (ld mo mt : Nat → Nat) (cL cM cN : Nat → Int32) : Prop :=
  fh_v d f x0 y0 n ld mo mt ∧ fx_ar cL ld 64 ∧ fx_ar cM mo n ∧ fx_ar cN mt n
def fx_mx (n : Nat) (ld mo mt : Nat → Nat) (n' : Nat) (ld' mo' mt' : Nat → Nat) : Prop :=
  n ≤ n' ∧ (∀ i, i < n → mo' i = mo i ∧ mt' i = mt i) ∧ (∀ x y, ld x = ld y → ld' x = ld' y)
theorem fx_merge {post : Int32 → SX → Prop} {d : Nat → Nat → Nat} {f : Nat → Prop} {x0 y0 n : Nat} {ld mo mt : Nat → Nat} (v : fx_mv d f x0 y0 n ld mo mt cL cM cN) {p q : Nat} (hp : p < 64) (hq : q < 64) (hI : fa_I d f x0 y0 → fa_I d f p q)
    (k : ∀ n' (ld' mo' mt' : Nat → Nat) (cL' cM' cN' : Nat → Int32), fx_mv d f x0 y0 n' ld' mo' mt' cL' cM' cN' → fx_mx n ld mo mt n' ld' mo' mt' → ld' p = ld' q → post (nI n') (aO, aB, aS, aE, cC, cF, cS, cA, cG, cL', cM', cN', cP, cW, cT, cQ)) : wpX_merge post (aO, aB, aS, aE, cC, cF, cS, cA, cG, cL, cM, cN, cP, cW, cT, cQ) (nI p) (nI q) (nI n) := by
  obtain ⟨hv, hL, hM, hN⟩ := v
  have hlp := (hv.1 p hp).1
  have hlq := (hv.1 q hq).1
  have hn := fh_v_n hv
  refine ⟨vp_in_nI hp (by omega), nm_r ((fx_get (by omega)).trans (hL p hp)) ⟨vp_in_nI hq (by omega), nm_r ((fx_get (by omega)).trans (hL q hq)) ?_⟩⟩
  refine pk_eq (ld p) (ld q) (fun z => ?_) (fun z => pk_lt n 64 (fun _ => ?_) (fun y => absurd y (by omega)))
  · exact k n ld mo mt cL cM cN ⟨hv, hL, hM, hN⟩ ⟨Nat.le_refl _, fun _ _ => ⟨rfl, rfl⟩, fun _ _ t => t⟩ z
  · refine ⟨_, fx_mg_go hn (fun x hx => (hv.1 x hx).1) hlp hlq (fun cL' hL' => ?_) 64 0 cL rfl (fun x hx => ?_)⟩
    · refine k (n + 1) (fh_ld ld (ld p) (ld q)) (fd_up mo n p) (fd_up mt n q) cL' _ _ ⟨fh_merge hv hp hq hI z, hL', fx_ar_s hM, fx_ar_s hN⟩ ⟨by omega, fun i hi => ⟨fd_up_n hi, fd_up_n hi⟩, fun x y t => ?_⟩ ?_
      · unfold fh_ld; rw [t]
      · unfold fh_ld; rw [if_pos rfl, if_neg (fun y => z y.symm)]
    · rw [if_neg (Nat.not_lt_zero _)]; exact hL x hx
theorem fx_mm_in {post : Int32 → SX → Prop} {J : Int32 → Int32 → (Nat → Int32) → (Nat → Int32) → (Nat → Int32) → (Nat → Int32) → (Nat → Int32) → (Nat → Int32) → (Nat → Int32) → (Nat → Int32) → (Nat → Int32) → (Nat → Int32) → (Nat → Int32) → (Nat → Int32) → (Nat → Int32) → (Nat → Int32) → (Nat → Int32) → (Nat → Int32) → Prop}
    (P : fx_P a a' b e) (h : fx_S a a' b e aO aB aS aE) {x0 y0 n i : Nat} {ld mo mt : Nat → Nat} (v : fx_mv (ff_d a) (ff_f e) x0 y0 n ld mo mt cL cM cN) (hi : i < n)
    (hJ : ∀ n' (ld' mo' mt' : Nat → Nat) (cL' cM' cN' : Nat → Int32), fx_mv (ff_d a) (ff_f e) x0 y0 n' ld' mo' mt' cL' cM' cN' → fx_mx n ld mo mt n' ld' mo' mt' → ld' (ff_d a (mo i) 0) = ld' (ff_d a (mt i) 0) → ld' (ff_d a (mo i) 1) = ld' (ff_d a (mt i) 1) → J (nI n') (nI (i + 1)) aO aB aS aE cC cF cS cA cG cL' cM' cN' cP cW cT cQ) :
    wX_isEqualByMerging_82 post J (nI i) 3 (nI n) 0 aO aB aS aE cC cF cS cA cG cL cM cN cP cW cT cQ := by
  have hn := fh_v_n v.1
  have g := v.1.2.2.1 i hi
  have gI := v.1.2.2.2.2 i hi
  have hin : vp_in (nI i) 64 := vp_in_nI (by omega) (by omega)
  refine pk_le 2 0 (fun z => absurd z (by omega)) (fun _ => ⟨hin, ?_⟩)
  rw [nI_clamp (by omega), v.2.2.1 i hi, v.2.2.2 i hi]
  refine fx_nodeAfter (l := 0) P h g.1 (by omega) ⟨hin, fx_nodeAfter (l := 0) P h g.2.1 (by omega) ?_⟩
  refine fx_merge v (ff_d_lt P.1 g.1 0) (ff_d_lt P.1 g.2.1 0) (fun z => fa_I_s0 (gI z)) (fun n1 ld1 mo1 mt1 cL1 cM1 cN1 v1 x1 e1 => nm_r (e' := nI 1) (by decide) ?_)
  have hi1 : i < n1 := Nat.lt_of_lt_of_le hi x1.1
  have em := (x1.2.1 i hi).1
  have et := (x1.2.1 i hi).2
  refine pk_le 2 1 (fun z => absurd z (by omega)) (fun _ => ⟨hin, ?_⟩)
  dsimp only
  rw [nI_clamp (by omega), v1.2.2.1 i hi1, v1.2.2.2 i hi1, em, et]
  refine fx_nodeAfter P h g.1 (by omega) ⟨hin, fx_nodeAfter P h g.2.1 (by omega) ?_⟩
  refine fx_merge v1 (ff_d_lt P.1 g.1 1) (ff_d_lt P.1 g.2.1 1) (fun z => fa_I_s1 (gI z)) (fun n2 ld2 mo2 mt2 cL2 cM2 cN2 v2 x2 e2 => nm_r (e' := nI 2) (by decide) ?_)
  refine pk_le 2 2 (fun _ => nm_r (nI_1 i) ?_) (fun z => absurd z (by omega))
  refine hJ n2 ld2 mo2 mt2 cL2 cM2 cN2 v2 ⟨Nat.le_trans x1.1 x2.1, fun j hj => ?_, fun x y t => x2.2.2 x y (x1.2.2 x y t)⟩ (x2.2.2 _ _ e1) e2
  have hj1 : j < n1 := Nat.lt_of_lt_of_le hj x1.1
  exact ⟨((x2.2.1 j hj1).1).trans (x1.2.1 j hj).1, ((x2.2.1 j hj1).2).trans (x1.2.1 j hj).2⟩
theorem fx_mm_go {post : Int32 → SX → Prop} (P : fx_P a a' b e) (h : fx_S a a' b e aO aB aS aE)
    (h1 : fi_EQ a b e → fx_ans a a' b e 1 post) (h0 : ¬ fi_EQ a b e → fx_ans a a' b e 0 post) : ∀ d i n (ld mo mt : Nat → Nat) (cL cM cN : Nat → Int32), i + d = 64 → i ≤ n → fx_mv (ff_d a) (ff_f e) (b 0) (32 + b 1) n ld mo mt cL cM cN → fh_p (ff_d a) (ff_f e) i ld mo mt → ld (b 0) = ld (32 + b 1) →
    wX_isEqualByMerging_44 post (d + 1) (nI n) (nI i) aO aB aS aE cC cF cS cA cG cL cM cN cP cW cT cQ := by
  have hb0 := P.2.2.2.1 0 (by omega)
  have hb1 := P.2.2.2.1 1 (by omega)
  intro d
  induction d with
  | zero =>
    intro i n ld mo mt cL cM cN hi hin v hp h00
    have hn := fh_v_n v.1
    omega
  | succ d ih =>
    intro i n ld mo mt cL cM cN hi hin v hp h00
    have hn := fh_v_n v.1
    refine pk_le n i (fun z => ?_) (fun z => pk_le 64 i (fun y => absurd y (by omega)) (fun _ => ?_))
    · have : i = n := by omega
      subst this
      exact h1 (fh_end (ff_d_c P.1) v.1 hp (by omega) (by omega) h00) _ _ _ _ _ _ _ _ _ _ _ _ _ _ _ _ h
    · have g := v.1.2.2.1 i z
      have gI := v.1.2.2.2.2 i z
      have hv : vp_in (nI i) 64 := vp_in_nI (by omega) (by omega)
      refine ⟨hv, ?_⟩
      rw [nI_clamp (by omega), v.2.2.1 i z, v.2.2.2 i z]
      have go : (ff_f e (mo i) ↔ ff_f e (mt i)) → ∃ n82, wX_isEqualByMerging_82 post (wX_isEqualByMerging_44 post (d + 1)) (nI i) n82 (nI n) 0 aO aB aS aE cC cF cS cA cG cL cM cN cP cW cT cQ := by
        intro gf
        refine ⟨3, fx_mm_in P h v z (fun n' ld' mo' mt' cL' cM' cN' v' x' e0 e1 => ?_)⟩
        refine ih (i + 1) n' ld' mo' mt' cL' cM' cN' (by omega) (by have := x'.1; omega) v' (fun j hj => ?_) (x'.2.2 _ _ h00)
        by_cases q : j = i
        · subst q
          rw [(x'.2.1 j z).1, (x'.2.1 j z).2]
          exact ⟨gf, e0, e1⟩
        · have hj' : j < n := by omega
          rw [(x'.2.1 j hj').1, (x'.2.1 j hj').2]
          obtain ⟨p1, p2, p3⟩ := hp j (by omega)
          exact ⟨p1, x'.2.2 _ _ p2, x'.2.2 _ _ p3⟩
      have no : ¬ (ff_f e (mo i) ↔ ff_f e (mt i)) → post 0 (aO, aB, aS, aE, cC, cF, cS, cA, cG, cL, cM, cN, cP, cW, cT, cQ) := fun gf => h0 (fun z => gf (fa_I_f (gI z))) _ _ _ _ _ _ _ _ _ _ _ _ _ _ _ _ h
      refine fx_endNode h g.1 (fx_tv_m (fun gx => ⟨hv, fx_endNode h g.2.1 (fx_tv_m (fun gy => ?_) (fun gy => ?_))⟩) (fun gx => ⟨hv, fx_endNode h g.2.1 (fx_tv_m (fun gy => ?_) (fun gy => ?_))⟩))
      · exact br_t rfl (go ⟨fun _ => gy, fun _ => gx⟩)
      · exact br_f fx_n1 (no (fun z => gy (z.mp gx)))
      · exact br_f (fun z => fx_n1 z.symm) (no (fun z => gx (z.mpr gy)))
      · exact br_t rfl (go ⟨fun z => absurd z gx, fun z => absurd z gy⟩)
theorem fx_mm0 {post : Int32 → SX → Prop} (P : fx_P a a' b e) (h : fx_S a a' b e aO aB aS aE)
    (h1 : fi_EQ a b e → fx_ans a a' b e 1 post) (h0 : ¬ fi_EQ a b e → fx_ans a a' b e 0 post) : ∀ d c (cL : Nat → Int32), c + d = 64 → fx_ar cL (fun x => x) c → wX_isEqualByMerging_2 post (d + 1) (nI c) aO aB aS aE cC cF cS cA cG cL cM cN cP cW cT cQ := by
  have hb0 := P.2.2.2.1 0 (by omega)
  have hb1 := P.2.2.2.1 1 (by omega)
  intro d
  induction d with
  | zero =>
    intro c cL hc hL
    have : c = 64 := by omega
    subst this
    refine pk_le 64 64 (fun _ => ?_) (fun z => absurd z (by omega))
    have e1 : (32 : Int32) + aS 1 = nI (32 + b 1) := by
      rw [h.2.2.1 1 (by omega)]
      exact nI_add 32 (b 1)
    rw [h.2.2.1 0 (by omega), e1]
    refine fx_merge (n := 0) ⟨fh_v_0 (d := ff_d a) (f := ff_f e) (b 0) (32 + b 1) (fun _ => 0) (fun _ => 0), hL, fun x hx => absurd hx (Nat.not_lt_zero _), fun x hx => absurd hx (Nat.not_lt_zero _)⟩ (by omega) (by omega) (fun z => z)
      (fun n' ld' mo' mt' cL' cM' cN' v' x' e' => ⟨65, fx_mm_go P h h1 h0 64 0 n' ld' mo' mt' cL' cM' cN' rfl (Nat.zero_le _) v' (fun j hj => absurd hj (Nat.not_lt_zero _)) e'⟩)
  | succ d ih =>
    intro c cL hc hL
    refine pk_le 64 c (fun z => absurd z (by omega)) (fun _ => ⟨vp_in_nI (by omega) (by omega), nm_r (fx_put (by omega) rfl) (nm_r (nI_1 c) (ih (c + 1) _ (by omega) (fx_ar_k hL)))⟩)
theorem fx_byMerging {post : Int32 → SX → Prop} (P : fx_P a a' b e) (h : fx_S a a' b e aO aB aS aE)
    (h1 : fi_EQ a b e → fx_ans a a' b e 1 post) (h0 : ¬ fi_EQ a b e → fx_ans a a' b e 0 post) : wpX_isEqualByMerging post (aO, aB, aS, aE, cC, cF, cS, cA, cG, cL, cM, cN, cP, cW, cT, cQ) :=
  ⟨_, fx_mm0 P h h1 h0 64 0 cL rfl (fun x hx => absurd hx (Nat.not_lt_zero _))⟩
theorem fx_equal {post : Int32 → SX → Prop} (P : fx_P a a' b e) (h : fx_S a a' b e aO aB aS aE) {g : Nat} (hg : g < 3)
    (h1 : fi_EQ a b e → fx_ans a a' b e 1 post) (h0 : ¬ fi_EQ a b e → fx_ans a a' b e 0 post) : wpX_equal post (aO, aB, aS, aE, cC, cF, cS, cA, cG, cL, cM, cN, cP, cW, cT, cQ) (nI g) := by
  unfold wpX_equal
  dsimp only
  refine fx_bel_t 3 hg (by omega) ?_
  refine pk_eq g 0 (fun _ => ?_) (fun _ => pk_eq g 1 (fun _ => ?_) (fun _ => ?_))
  · exact fx_byWalk P h (fun z aO aB aS aE cC cF cS cA cG cL cM cN cP cW cT cQ h' => ⟨rfl, h1 z _ _ _ _ _ _ _ _ _ _ _ _ _ _ _ _ h'⟩) (fun z aO aB aS aE cC cF cS cA cG cL cM cN cP cW cT cQ h' => ⟨rfl, h0 z _ _ _ _ _ _ _ _ _ _ _ _ _ _ _ _ h'⟩)
  · exact fx_byMerging P h (fun z aO aB aS aE cC cF cS cA cG cL cM cN cP cW cT cQ h' => ⟨rfl, h1 z _ _ _ _ _ _ _ _ _ _ _ _ _ _ _ _ h'⟩) (fun z aO aB aS aE cC cF cS cA cG cL cM cN cP cW cT cQ h' => ⟨rfl, h0 z _ _ _ _ _ _ _ _ _ _ _ _ _ _ _ _ h'⟩)
  · exact fx_byClasses P h (fun z cC' cF' cS' => ⟨rfl, h1 z _ _ _ _ _ _ _ _ _ _ _ _ _ _ _ _ h⟩) (fun z cC' cF' cS' => ⟨rfl, h0 z _ _ _ _ _ _ _ _ _ _ _ _ _ _ _ _ h⟩)
end
end
section
/-! X: covers and difference -/
/-- where the walk ends -/
def fi_F (a b : Nat → Nat) (F : Nat) : Prop := F ≤ 1024 ∧ (fd_bf (fi_s a) (fi_q b) F).1 = F ∧ fd_on (fi_s a) (fi_q b) F
theorem fi_F_un {a b : Nat → Nat} {F G : Nat} (h : fi_F a b F) (g : fi_F a b G) : F = G := by
  rcases Nat.lt_trichotomy F G with q | q | q
  · have := g.2.2 F q
    have := h.2.1
    omega
  · exact q
  · have := h.2.2 G q
    have := g.2.1
    omega
/-- a pair that decides a search of this kind -/
def fi_sp (e : Nat → Nat) (k q : Nat) : Prop := if k = 2 then ¬ (fi_x e q ↔ fi_y e q) else if k = 0 then fi_y e q ∧ ¬ fi_x e q else fi_x e q ∧ ¬ fi_y e q
theorem fi_sp_2 (e : Nat → Nat) (q : Nat) : fi_sp e 2 q ↔ ¬ (fi_x e q ↔ fi_y e q) := Iff.rfl
theorem fi_sp_0 (e : Nat → Nat) (q : Nat) : fi_sp e 0 q ↔ fi_y e q ∧ ¬ fi_x e q := Iff.rfl
theorem fi_sp_1 (e : Nat → Nat) (q : Nat) : fi_sp e 1 q ↔ fi_x e q ∧ ¬ fi_y e q := Iff.rfl
/-- some pair decides it -/
def fi_C (a b e : Nat → Nat) (k : Nat) : Prop := ∃ F j, fi_F a b F ∧ j < F ∧ fi_sp e k ((fd_bf (fi_s a) (fi_q b) F).2.1 j)
theorem fi_C_n {a b e : Nat → Nat} {k F : Nat} (h : fi_F a b F) (hn : ∀ j, j < F → ¬ fi_sp e k ((fd_bf (fi_s a) (fi_q b) F).2.1 j)) : ¬ fi_C a b e k := by
  rintro ⟨G, j, hG, hj, hs⟩
  have := fi_F_un h hG
  subst this
  exact hn j hj hs
theorem fi_C_2 {a b e : Nat → Nat} (ha : ff_ok a) (hb0 : b 0 < 32) (hb1 : b 1 < 32) : ¬ fi_C a b e 2 ↔ fi_EQ a b e := by
  constructor
  · intro h
    obtain ⟨F, h1, h2, h3⟩ := fd_F (q0 := fi_q b) (stp := fi_s a) (by unfold fi_q; omega) (fi_s_lt ha)
    refine (fi_none ha hb0 hb1 h2 h3).mp (fun j hj => ?_)
    apply Classical.byContradiction
    intro hs
    exact h ⟨F, j, ⟨h1, h2, h3⟩, hj, hs⟩
  · rintro h ⟨F, j, hF, hj, hs⟩
    exact hs ((fi_none ha hb0 hb1 hF.2.1 hF.2.2).mpr h j hj)
/-- what difference has to answer -/
def fi_D (a b e : Nat → Nat) (r : Int32) : Prop := (fi_EQ a b e ∧ r = -2) ∨ ∃ F j, fi_F a b F ∧ j < F ∧ fi_sp e 2 ((fd_bf (fi_s a) (fi_q b) F).2.1 j) ∧ (∀ i, i < j → ¬ fi_sp e 2 ((fd_bf (fi_s a) (fi_q b) F).2.1 i)) ∧
  (((fd_bf (fi_s a) (fi_q b) F).2.2.2 j ≤ 29 ∧ r = nI ((fd_bf (fi_s a) (fi_q b) F).2.2.1 j)) ∨ (29 < (fd_bf (fi_s a) (fi_q b) F).2.2.2 j ∧ r = -1))
theorem fi_D_un {a b e : Nat → Nat} (ha : ff_ok a) (hb0 : b 0 < 32) (hb1 : b 1 < 32) {r r' : Int32} (h : fi_D a b e r) (h' : fi_D a b e r') : r' = r := by
  rcases h with ⟨hE, hr⟩ | ⟨F, j, hF, hj, hs, hn, hv⟩
  · rcases h' with ⟨_, hr'⟩ | ⟨F, j, hF, hj, hs, _⟩
    · rw [hr, hr']
    · exact absurd ⟨F, j, hF, hj, hs⟩ ((fi_C_2 ha hb0 hb1).mpr hE)
  · rcases h' with ⟨hE, _⟩ | ⟨F', j', hF', hj', hs', hn', hv'⟩
    · exact absurd ⟨F, j, hF, hj, hs⟩ ((fi_C_2 ha hb0 hb1).mpr hE)
    · have := fi_F_un hF hF'
      subst this
      have ej : j = j' := by
        rcases Nat.lt_trichotomy j j' with q | q | q
        · exact absurd hs (hn' j q)
        · exact q
        · exact absurd hs' (hn j' q)
      subst ej
      rcases hv with ⟨v1, v2⟩ | ⟨v1, v2⟩
      · rcases hv' with ⟨w1, w2⟩ | ⟨w1, w2⟩
        · rw [v2, w2]
        · omega
      · rcases hv' with ⟨w1, w2⟩ | ⟨w1, w2⟩
        · omega
        · rw [v2, w2]
section
variable {a a' b e : Nat → Nat} {aO aB aS aE cC cF cS cA cG cL cM cN cP cW cT cQ : Nat → Int32} {m x l : Nat}
theorem fx_diff {post : Int32 → SX → Prop} (P : fx_P a a' b e) (h : fx_S a a' b e aO aB aS aE) (hp : ∀ r, fi_D a b e r → fx_ans a a' b e r post) : wpX_difference post (aO, aB, aS, aE, cC, cF, cS, cA, cG, cL, cM, cN, cP, cW, cT, cQ) := by
  have hb0 := P.2.2.2.1 0 (by omega)
  have hb1 := P.2.2.2.1 1 (by omega)
  unfold wpX_difference
  dsimp only
  refine fx_walk P h (fun F cP' cW' cT' cQ' w => ?_)
  have hF := w.1
  have J0 := fd_J_bf (fx_q_lt P) (fi_s_lt P.1) F w.2.2.1
  have hF' : fi_F a b F := ⟨w.1, w.2.1, w.2.2.1⟩
  refine fx_fsp h hF (fx_wk_P P w) (fun j hj hs hn => br_f (fx_nm2 (by omega)) ⟨vp_in_nI (by omega) (by omega), ?_⟩) (fun hn => br_t rfl ?_)
  · dsimp only
    have hj' : j < (fd_bf (fi_s a) (fi_q b) F).1 := by rw [w.2.1]; exact hj
    have hL := (J0.2.2.2.1 j hj').2.2
    rw [nI_clamp (by omega), (w.2.2.2.1 j hj').2.1, (w.2.2.2.1 j hj').2.2]
    have hn' : ∀ i, i < j → ¬ fi_sp e 2 ((fd_bf (fi_s a) (fi_q b) F).2.1 i) := fun i hi z => z (hn i hi)
    refine pk_le ((fd_bf (fi_s a) (fi_q b) F).2.2.2 j) 29 (fun z => ⟨vp_in_nI (by omega) (by omega), ?_⟩) (fun z => ?_)
    · exact hp _ (Or.inr ⟨F, j, hF', hj, hs, hn', Or.inl ⟨z, rfl⟩⟩) _ _ _ _ _ _ _ _ _ _ _ _ _ _ _ _ h
    · exact hp _ (Or.inr ⟨F, j, hF', hj, hs, hn', Or.inr ⟨z, rfl⟩⟩) _ _ _ _ _ _ _ _ _ _ _ _ _ _ _ _ h
  · exact hp _ (Or.inl ⟨(fi_none P.1 hb0 hb1 w.2.1 w.2.2.1).mp hn, rfl⟩) _ _ _ _ _ _ _ _ _ _ _ _ _ _ _ _ h
theorem fx_cov_go {post : Int32 → SX → Prop} (h : fx_S a a' b e aO aB aS aE) (hm : m < 2) {F : Nat} {p : Nat → Nat} (hF : F ≤ 1024) (hP : ∀ j, j < F → cP j = nI (p j) ∧ p j < 1024)
    (h0 : ∀ j, j < F → fi_sp e m (p j) → post 0 (aO, aB, aS, aE, cC, cF, cS, cA, cG, cL, cM, cN, cP, cW, cT, cQ)) (h1 : (∀ j, j < F → ¬ fi_sp e m (p j)) → post 1 (aO, aB, aS, aE, cC, cF, cS, cA, cG, cL, cM, cN, cP, cW, cT, cQ)) :
    ∀ d c, c + d = F → (∀ i, i < c → ¬ fi_sp e m (p i)) → wX_covers_17 post (nI m) (nI F) aO aB aS aE cC cF cS cA cG cL cM cN cP cW cT cQ (d + 1) (nI c) := by
  intro d
  induction d with
  | zero =>
    intro c hc hn
    have : c = F := by omega
    subst this
    exact pk_le c c (fun _ => h1 hn) (fun z => absurd z (by omega))
  | succ d ih =>
    intro c hc hn
    have hcF : c < F := by omega
    have hin : vp_in (nI c) 1024 := vp_in_nI (by omega) (by omega)
    refine pk_le F c (fun z => absurd z (by omega)) (fun _ => pk_le 1024 c (fun z => absurd z (by omega)) (fun _ => ⟨hin, ?_⟩))
    rw [nI_clamp (by omega), (hP c hcF).1]
    have nx : ¬ fi_sp e m (p c) → ∀ y, y = nI c + 1 → wX_covers_17 post (nI m) (nI F) aO aB aS aE cC cF cS cA cG cL cM cN cP cW cT cQ (d + 1) y := by
      intro g
      refine nm_r (nI_1 c) (ih (c + 1) (by omega) (fun i hi => ?_))
      by_cases q : i = c
      · subst q; exact g
      · exact hn i (by omega)
    have hm' : m = 0 ∨ m = 1 := by omega
    rcases hm' with rfl | rfl
    · rw [show (1 : Int32) - nI 0 = 1 by decide]
      refine fx_pa1 h (hP c hcF).2 (fx_tv_c (fun gy => ⟨hin, fx_pa0 h (hP c hcF).2 (fx_tv_c (fun gx => ?_) (fun gx => ?_))⟩) (fun gy => ?_))
      · exact nx (fun z => z.2 gx)
      · exact h0 c hcF ⟨gy, gx⟩
      · exact nx (fun z => gy z.1)
    · rw [show (1 : Int32) - nI 1 = 0 by decide]
      refine fx_pa0 h (hP c hcF).2 (fx_tv_c (fun gy => ⟨hin, fx_pa1 h (hP c hcF).2 (fx_tv_c (fun gx => ?_) (fun gx => ?_))⟩) (fun gy => ?_))
      · exact nx (fun z => z.2 gx)
      · exact h0 c hcF ⟨gy, gx⟩
      · exact nx (fun z => gy z.1)
theorem fx_covers {post : Int32 → SX → Prop} (P : fx_P a a' b e) (h : fx_S a a' b e aO aB aS aE) (hm : m < 2) (h1 : ¬ fi_C a b e m → fx_ans a a' b e 1 post) (h0 : fi_C a b e m → fx_ans a a' b e 0 post) : wpX_covers post (aO, aB, aS, aE, cC, cF, cS, cA, cG, cL, cM, cN, cP, cW, cT, cQ) (nI m) := by
  unfold wpX_covers
  dsimp only
  refine fx_bel_t 2 hm (by omega) ?_
  refine fx_walk P h (fun F cP' cW' cT' cQ' w => ?_)
  have hF' : fi_F a b F := ⟨w.1, w.2.1, w.2.2.1⟩
  refine ⟨_, fx_cov_go h hm w.1 (fx_wk_P P w) (fun j hj hs => ?_) (fun hn => ?_) F 0 (by omega) (fun i hi => absurd hi (Nat.not_lt_zero _))⟩
  · exact h0 ⟨F, j, hF', hj, hs⟩ _ _ _ _ _ _ _ _ _ _ _ _ _ _ _ _ h
  · exact h1 (fi_C_n hF' hn) _ _ _ _ _ _ _ _ _ _ _ _ _ _ _ _ h
end
end
section
/-! Y: ranges, steps, words, changes -/
def fy_S (a b e : Nat → Nat) (yA yB yF : Nat → Int32) : Prop := fk_A yA a ∧ fk_V yB b ∧ fk_V yF e
theorem fy_ix (m s l : Nat) : (10 * nI m + 2 * nI s) + nI l = nI (10 * m + 2 * s + l) := by
  show (nI 10 * nI m + nI 2 * nI s) + nI l = _
  rw [pk_mul, pk_mul, nI_add, nI_add]
section
variable {a a' b e : Nat → Nat} {yA yB yF yO yS yP : Nat → Int32} {yW : Nat → Int64} {m s l t : Nat}
theorem fy_machine_t {post : Int32 → Prop} (hm : m < 2) (hp : post 1) : wpY_machine post (yA, yB, yF, yO, yS, yW, yP) (nI m) :=
  pk_eq m 0 (fun _ => hp) (fun q => pk_eq m 1 (fun _ => hp) (fun q' => absurd hm (by omega)))
theorem fy_machine_f {post : Int32 → Prop} {x : Int32} (h : fx_bad x 2) (hp : post 0) : wpY_machine post (yA, yB, yF, yO, yS, yW, yP) x :=
  br_f (fx_ne (k := 0) h (by omega) (by omega)) (br_f (fx_ne (k := 1) h (by omega) (by omega)) hp)
theorem fy_fits_t {post : Int32 → Prop} (hm : m < 2) (hs : s < 5) (hl : l < 2) (ht : t < 5) (hp : post 1) : wpY_fits post (yA, yB, yF, yO, yS, yW, yP) (nI m) (nI s) (nI l) (nI t) := by
  have last : wY_fits_26 post (nI t) yA yB yF yO yS yW yP := br_f (nI_pos (by omega)) (pk_lt 4 t (fun q => absurd q (by omega)) (fun _ => hp))
  unfold wpY_fits
  dsimp only
  refine fy_machine_t hm (br_f fx_n1 (br_f (nI_pos (by omega)) (pk_lt 4 s (fun q => absurd q (by omega)) (fun _ => pk_eq l 0 (fun _ => last) (fun q => pk_eq l 1 (fun _ => last) (fun q' => absurd hl (by omega)))))))
theorem fy_fits_f {post : Int32 → Prop} {x y z w : Int32} (h : fx_bad x 2 ∨ fx_bad y 5 ∨ fx_bad z 2 ∨ fx_bad w 5) (hp : post 0) : wpY_fits post (yA, yB, yF, yO, yS, yW, yP) x y z w := by
  unfold wpY_fits
  dsimp only
  rcases fx_ix3 x (n := 2) (by omega) with hx | ⟨m, hm, rfl⟩
  · exact fy_machine_f hx (br_t rfl hp)
  refine fy_machine_t hm (br_f fx_n1 ?_)
  rcases fx_ix3 y (n := 5) (by omega) with hy | ⟨s, hs, rfl⟩
  · rcases hy with hy | hy
    · exact br_t hy hp
    · by_cases h0 : y < 0
      · exact br_t h0 hp
      · exact br_f h0 (br_t (Int32.lt_of_lt_of_le (by decide : (4 : Int32) < nI 5) hy) hp)
  refine br_f (nI_pos (by omega)) (pk_lt 4 s (fun q => absurd q (by omega)) (fun _ => ?_))
  rcases fx_ix3 z (n := 2) (by omega) with hz | ⟨l, hl, rfl⟩
  · exact br_f (fx_ne (k := 0) hz (by omega) (by omega)) (br_f (fx_ne (k := 1) hz (by omega) (by omega)) hp)
  have hw : fx_bad w 5 := by
    rcases h with h | h | h | h
    · exact absurd rfl (fx_ne h hm (by omega))
    · exact absurd rfl (fx_ne h hs (by omega))
    · exact absurd rfl (fx_ne h hl (by omega))
    · exact h
  have last : wY_fits_26 post w yA yB yF yO yS yW yP := by
    rcases hw with hw | hw
    · exact br_t hw hp
    · by_cases h0 : w < 0
      · exact br_t h0 hp
      · exact br_f h0 (br_t (Int32.lt_of_lt_of_le (by decide : (4 : Int32) < nI 5) hw) hp)
  exact pk_eq l 0 (fun _ => last) (fun q => pk_eq l 1 (fun _ => last) (fun q' => absurd hl (by omega)))
theorem fy_has {post : Int32 → Prop} (P : fx_P a a' b e) (h : fy_S a b e yA yB yF) (hm : m < 2) (hs : s < 5) (hl : l < 2) (ht : t < 5) (hp : fx_tv ((a (10 * m + 2 * s + l)).testBit t = true) post) :
    wpY_has post (yA, yB, yF, yO, yS, yW, yP) (nI m) (nI s) (nI l) (nI t) := by
  have hi : 10 * m + 2 * s + l < 20 := by omega
  have hv := P.1 _ hi
  unfold wpY_has
  dsimp only
  rw [fy_ix, nI_clamp (by omega), h.1 _ hi]
  refine ⟨vp_in_nI hi (by omega), br_c (fun z => hp.1 ((fj_s1 (by omega) (by omega)).mp z)) (fun z => hp.2 (fun y => z ((fj_s1 (by omega) (by omega)).mpr y)))⟩
theorem fy_fl_A {yA' : Nat → Int32} (h : fk_A yA a) {i v : Nat} (hi : i < 20) (hv : v = a i ^^^ 2 ^ t) : fk_A (upd yA i (nI v)) (fk_fl a i t) := by
  intro j hj
  by_cases q : j = i
  · subst q; rw [pk_us, fk_fl_s, hv]
  · rw [pk_un q, fk_fl_n q]; exact h j hj
theorem fy_arrow {post : Int32 → SY → Prop} (P : fx_P a a' b e) (h : fy_S a b e yA yB yF) (hm : m < 2) (hs : s < 5) (hl : l < 2) (ht : t < 5)
    (h0 : (a (10 * m + 2 * s + l)).testBit t = true → post 0 (yA, yB, yF, yO, yS, yW, yP)) (h1 : ¬ (a (10 * m + 2 * s + l)).testBit t = true → ∀ yA' : Nat → Int32, fk_A yA' (fk_fl a (10 * m + 2 * s + l) t) → post 1 (yA', yB, yF, yO, yS, yW, yP)) : wpY_arrow post (yA, yB, yF, yO, yS, yW, yP) (nI m) (nI s) (nI l) (nI t) := by
  have hi : 10 * m + 2 * s + l < 20 := by omega
  have hv := P.1 _ hi
  unfold wpY_arrow
  dsimp only
  refine fy_fits_t hm hs hl ht (br_f fx_n1 (fy_has P h hm hs hl ht (fx_tv_c (fun g => h0 g) (fun g => ?_))))
  rw [fy_ix, nI_clamp (by omega), h.1 _ hi, fj_one (by omega), fj_or]
  exact ⟨vp_in_nI hi (by omega), vp_in_nI hi (by omega), nm_e (h1 g _ (fy_fl_A (yA' := yA) h.1 hi (fk_orx _ hv t ht ((fj_tf _ _).mp g))))⟩
theorem fy_cut {post : Int32 → SY → Prop} (P : fx_P a a' b e) (h : fy_S a b e yA yB yF) (hm : m < 2) (hs : s < 5) (hl : l < 2) (ht : t < 5)
    (h0 : ¬ (a (10 * m + 2 * s + l)).testBit t = true → post 0 (yA, yB, yF, yO, yS, yW, yP)) (h1 : (a (10 * m + 2 * s + l)).testBit t = true → ∀ yA' : Nat → Int32, fk_A yA' (fk_fl a (10 * m + 2 * s + l) t) → post 1 (yA', yB, yF, yO, yS, yW, yP)) : wpY_cut post (yA, yB, yF, yO, yS, yW, yP) (nI m) (nI s) (nI l) (nI t) := by
  have hi : 10 * m + 2 * s + l < 20 := by omega
  have hv := P.1 _ hi
  unfold wpY_cut
  dsimp only
  refine fy_fits_t hm hs hl ht (br_f fx_n1 (fy_has P h hm hs hl ht (fx_tv_c (fun g => ?_) (fun g => h0 g))))
  rw [fy_ix, nI_clamp (by omega), h.1 _ hi, fj_one (by omega), fk_negx _ hv t ht ((fj_tb _ _).mp g)]
  exact ⟨vp_in_nI hi (by omega), vp_in_nI hi (by omega), nm_e (h1 g _ (fy_fl_A (yA' := yA) h.1 hi rfl))⟩
theorem fy_step_go {post : Int32 → Prop} (P : fx_P a a' b e) (h : fy_S a b e yA yB yF) (hm : m < 2) {S : Nat} (hS : S < 32) (hl : l < 2) (hp : post (nI (ff_st a m S l))) : ∀ d c, c + d = 5 →
    wY_step_6 post (nI m) (nI S) (nI l) yA yB yF yO yS yW yP (d + 1) (nI (fb_uo (ff_r a m l) S c)) (nI c) := by
  intro d
  induction d with
  | zero =>
    intro c hc
    have : c = 5 := by omega
    subst this
    rw [ff_st_u a m S hl] at hp
    exact pk_le 5 5 (fun _ => hp) (fun q => absurd q (by omega))
  | succ d ih =>
    intro c hc
    have hi : 10 * m + 2 * c + l < 20 := by omega
    have := ih (c + 1) (by omega)
    refine pk_le 5 c (fun q => absurd q (by omega)) (fun _ => br_c (fun z => ?_) (fun z => ?_))
    · rw [fj_s1 (by omega) (by omega)] at z
      rw [fy_ix]
      refine ⟨vp_in_nI hi (by omega), nm_r (e' := nI (fb_uo (ff_r a m l) S (c + 1))) ?_ (nm_r (nI_1 c) this)⟩
      rw [nI_clamp (by omega), h.1 _ hi, fj_or, fb_uo, if_pos z]
      rfl
    · rw [fj_s1 (by omega) (by omega)] at z
      rw [fb_uo, if_neg z] at this
      exact nm_r (nI_1 c) this
theorem fy_step {post : Int32 → Prop} (P : fx_P a a' b e) (h : fy_S a b e yA yB yF) (hm : m < 2) {S : Nat} (hS : S < 32) (hl : l < 2) (hp : post (nI (ff_st a m S l))) : wpY_step post (yA, yB, yF, yO, yS, yW, yP) (nI m) (nI S) (nI l) :=
  ⟨_, fy_step_go P h hm hS hl hp 5 0 rfl⟩
theorem fy_good {post : Int32 → Prop} (h : fy_S a b e yA yB yF) (hm : m < 2) {S : Nat} (hS : S < 32) (hp : fx_tv (ff_g e m S) post) : wpY_good post (yA, yB, yF, yO, yS, yW, yP) (nI m) (nI S) := by
  refine ⟨vp_in_nI hm (by omega), ?_⟩
  rw [fx_vec h.2.2 hm]
  exact ⟨fun z => hp.2 ((fx_and0 _ _ hS).mp z), fun z => hp.1 (Classical.byContradiction fun c => z ((fx_and0 _ _ hS).mpr c))⟩
theorem fy_let_go {post : Int32 → Prop} {w : Nat} (h1 : 1 ≤ w) (h2 : w < 8192) (hp : post (nI (Nat.log2 w))) : ∀ d c, c + d = Nat.log2 w → wY_letters_2 post (nI w) yA yB yF yO yS yW yP (d + 1) (nI c) := by
  have hw0 : w ≠ 0 := by omega
  have hlog : Nat.log2 w < 13 := (Nat.log2_lt hw0).mpr h2
  intro d
  induction d with
  | zero =>
    intro c hc
    have e : nI w >>> (nI c &&& 31) = nI (w / 2 ^ c) := pk_shrN (by omega) _ c (s_l c (by omega))
    have hd : w / 2 ^ c < 2 ^ 31 := by have := fj_div_lt c h2; omega
    have hlt : w < 2 ^ (c + 1) := (Nat.log2_lt hw0).mp (by omega)
    have h3 : w / 2 ^ c < 2 := by
      apply Nat.div_lt_of_lt_mul
      rw [Nat.pow_succ] at hlt; exact hlt
    have hc' : c = Nat.log2 w := by omega
    show (nI w >>> (nI c &&& 31) ≤ 1 → post (nI c)) ∧ _
    rw [e]
    refine pk_le (w / 2 ^ c) 1 (fun _ => ?_) (fun q => absurd q (by omega)) rfl rfl hd (by omega)
    rw [hc']; exact hp
  | succ d ih =>
    intro c hc
    have e : nI w >>> (nI c &&& 31) = nI (w / 2 ^ c) := pk_shrN (by omega) _ c (s_l c (by omega))
    have hd : w / 2 ^ c < 2 ^ 31 := by have := fj_div_lt c h2; omega
    have hge : 2 ^ (c + 1) ≤ w := (Nat.le_log2 hw0).mp (by omega)
    have h3 : 2 ≤ w / 2 ^ c := by
      rw [Nat.le_div_iff_mul_le (Nat.two_pow_pos c), Nat.mul_comm, ← Nat.pow_succ]; exact hge
    show (nI w >>> (nI c &&& 31) ≤ 1 → post (nI c)) ∧ _
    rw [e]
    exact pk_le (w / 2 ^ c) 1 (fun q => absurd q (by omega)) (fun _ => nm_r (nI_1 c) (ih (c + 1) (by omega))) rfl rfl hd (by omega)
theorem fy_letters {post : Int32 → Prop} {w : Nat} (h1 : 1 ≤ w) (h2 : w < 8192) (hp : post (nI (Nat.log2 w))) : wpY_letters post (yA, yB, yF, yO, yS, yW, yP) (nI w) :=
  ⟨_, fy_let_go h1 h2 hp (Nat.log2 w) 0 (by omega)⟩
theorem fy_after_go {post : Int32 → Prop} (P : fx_P a a' b e) (h : fy_S a b e yA yB yF) (hm : m < 2) (w : Nat) (hw : w < 8192) : ∀ k S, k ≤ 13 → S < 32 → post (nI (fb_rn (ff_st a m) w k S)) →
    wY_reached_16 post (nI m) (nI w) yA yB yF yO yS yW yP (k + 1) (nI S) (nI k - 1) := by
  intro k
  induction k with
  | zero =>
    intro S _ _ hp
    exact br_t (by decide) hp
  | succ k ih =>
    intro S hk hS hp
    rw [nI_pred]
    refine br_f (nI_pos (by omega)) ?_
    rw [fj_sbit (by omega) (by omega)]
    have hl : w / 2 ^ k % 2 < 2 := Nat.mod_lt _ (by omega)
    exact fy_step P h hm hS hl (nm_r (fx_m1 (nI k)) (ih (ff_st a m S (w / 2 ^ k % 2)) (by omega) (ff_st_lt P.1 hm _ _) hp))
theorem fy_reached {post : Int32 → Prop} (P : fx_P a a' b e) (h : fy_S a b e yA yB yF) (hm : m < 2) {w : Nat} (h1 : 1 ≤ w) (hw : w < 8192) (hp : post (nI (fb_wd (ff_st a m) (b m) w))) : wpY_reached post (yA, yB, yF, yO, yS, yW, yP) (nI m) (nI w) := by
  have hlog : Nat.log2 w < 13 := (Nat.log2_lt (by omega)).mpr hw
  exact ⟨vp_in_nI hm (by omega), nm_r (fx_vec h.2.1 hm) (fy_letters h1 hw (nm_e ⟨_, fy_after_go P h hm w hw _ _ (by omega) (P.2.2.2.1 m hm) hp⟩))⟩
theorem fy_isWord_t {post : Int32 → Prop} {w : Nat} (h1 : 1 ≤ w) (h2 : w < 2048) (hp : post 1) : wpY_isWord post (yA, yB, yF, yO, yS, yW, yP) (nI w) :=
  br_f (nI_nlt (b := 1) h1 (by omega)) (pk_lt 2047 w (fun q => absurd q (by omega)) (fun _ => hp))
theorem fy_isWord_f {post : Int32 → Prop} {x : Int32} (h : x < 1 ∨ 2048 ≤ x) (hp : post 0) : wpY_isWord post (yA, yB, yF, yO, yS, yW, yP) x := by
  by_cases h0 : x < 1
  · exact br_t h0 hp
  · rcases h with h | h
    · exact absurd h h0
    · exact br_f h0 (br_t (Int32.lt_of_lt_of_le (by decide) h) hp)
theorem fy_rw {post : Int32 → Prop} (P : fx_P a a' b e) (h : fy_S a b e yA yB yF) (hm : m < 2) {w : Nat} (h1 : 1 ≤ w) (hw : w < 8192) (hp : fx_tv (fx_acc a b e m w) post) :
    wpY_reached (fun r => wpY_good post (yA, yB, yF, yO, yS, yW, yP) (nI m) r) (yA, yB, yF, yO, yS, yW, yP) (nI m) (nI w) :=
  fy_reached P h hm h1 hw (fy_good h hm (fx_wd_lt P hm w) hp)
theorem fy_count_go {post : Int32 → Prop} (P : fx_P a a' b e) (h : fy_S a b e yA yB yF) (hm : m < 2) {k : Nat} (hk : k ≤ 12) : ∀ n w c, 1 ≤ w → w + n = 2 * 2 ^ k → post (nI (c + fx_cnt a b e m w n)) →
    wY_count_27 post (nI m) (nI k) yA yB yF yO yS yW yP (n + 1) (nI c) (nI w) := by
  have hp2 : 2 ^ k ≤ 2 ^ 12 := Nat.pow_le_pow_right (by omega) hk
  have e2 : (2 : Int32) <<< (nI k &&& 31) = nI (2 * 2 ^ k) := pk_shlN (n := 2) (nI k &&& 31) k (s_l k (by omega)) (by omega)
  intro n
  induction n with
  | zero =>
    intro w c h1 hn hp
    show ((2 : Int32) <<< (nI k &&& 31) ≤ nI w → _) ∧ _
    rw [e2]
    exact pk_le (2 * 2 ^ k) w (fun _ => hp) (fun q => absurd q (by omega))
  | succ n ih =>
    intro w c h1 hn hp
    show ((2 : Int32) <<< (nI k &&& 31) ≤ nI w → _) ∧ _
    rw [e2]
    refine pk_le (2 * 2 ^ k) w (fun q => absurd q (by omega)) (fun _ => fy_rw P h hm h1 (by omega) (fx_tv_c (fun g => ?_) (fun g => ?_)))
    · rw [fx_cnt_t g] at hp
      refine nm_r (nI_1 c) (nm_r (nI_1 w) (ih (w + 1) (c + 1) (by omega) (by omega) ?_))
      rw [show c + 1 + fx_cnt a b e m (w + 1) n = c + (fx_cnt a b e m (w + 1) n + 1) by omega]
      exact hp
    · rw [fx_cnt_f g] at hp
      exact nm_r (nI_1 w) (ih (w + 1) c (by omega) (by omega) hp)
theorem fy_rank_go {post : Int32 → Prop} (P : fx_P a a' b e) (h : fy_S a b e yA yB yF) (hm : m < 2) {to : Nat} (hto : to ≤ 8192) : ∀ n w c, 1 ≤ w → w + n = to → post (nI (c + fx_cnt a b e m w n)) →
    wY_rank_23 post (nI m) (nI to) yA yB yF yO yS yW yP (n + 1) (nI c) (nI w) := by
  intro n
  induction n with
  | zero =>
    intro w c h1 hn hp
    exact pk_le to w (fun _ => hp) (fun q => absurd q (by omega))
  | succ n ih =>
    intro w c h1 hn hp
    refine pk_le to w (fun q => absurd q (by omega)) (fun _ => fy_rw P h hm h1 (by omega) (fx_tv_c (fun g => ?_) (fun g => ?_)))
    · rw [fx_cnt_t g] at hp
      refine nm_r (nI_1 c) (nm_r (nI_1 w) (ih (w + 1) (c + 1) (by omega) (by omega) ?_))
      rw [show c + 1 + fx_cnt a b e m (w + 1) n = c + (fx_cnt a b e m (w + 1) n + 1) by omega]
      exact hp
    · rw [fx_cnt_f g] at hp
      exact nm_r (nI_1 w) (ih (w + 1) c (by omega) (by omega) hp)
theorem fy_least_go {post : Int32 → Prop} (P : fx_P a a' b e) (h : fy_S a b e yA yB yF) (hm : m < 2) (h1 : ∀ w, 1 ≤ w → w < 64 → fx_acc a b e m w → (∀ v, 1 ≤ v → v < w → ¬ fx_acc a b e m v) → post (nI w))
    (h0 : (∀ w, 1 ≤ w → w < 64 → ¬ fx_acc a b e m w) → post (-2)) : ∀ d w, w + d = 64 → 1 ≤ w → (∀ v, 1 ≤ v → v < w → ¬ fx_acc a b e m v) → wY_least_12 post (nI m) yA yB yF yO yS yW yP (d + 1) (nI w) := by
  intro d
  induction d with
  | zero =>
    intro w hw _ hn
    have : w = 64 := by omega
    subst this
    exact pk_le 64 64 (fun _ => h0 hn) (fun q => absurd q (by omega))
  | succ d ih =>
    intro w hw hw1 hn
    refine pk_le 64 w (fun q => absurd q (by omega)) (fun _ => fy_rw P h hm hw1 (by omega) (fx_tv_c (fun g => ?_) (fun g => ?_)))
    · exact h1 w hw1 (by omega) g hn
    · refine nm_r (nI_1 w) (ih (w + 1) (by omega) (by omega) (fun v hv1 hv => ?_))
      by_cases q : v = w
      · subst q; exact g
      · exact hn v hv1 (by omega)
end
section
variable {a a' b e : Nat → Nat} {aO aB aS aE cC cF cS cA cG cL cM cN cP cW cT cQ : Nat → Int32} {m : Nat}
theorem fx_least_go {post : Int32 → Prop} (P : fx_P a a' b e) (h : fx_S a a' b e aO aB aS aE) (hm : m < 2) (h1 : ∀ w, 1 ≤ w → w < 32 → fx_acc a b e m w → (∀ v, 1 ≤ v → v < w → ¬ fx_acc a b e m v) → post (nI w))
    (h0 : (∀ w, 1 ≤ w → w < 32 → ¬ fx_acc a b e m w) → post (-2)) : ∀ d w, w + d = 32 → 1 ≤ w → (∀ v, 1 ≤ v → v < w → ¬ fx_acc a b e m v) → wX_least_12 post (nI m) aO aB aS aE cC cF cS cA cG cL cM cN cP cW cT cQ (d + 1) (nI w) := by
  intro d
  induction d with
  | zero =>
    intro w hw _ hn
    have : w = 32 := by omega
    subst this
    exact pk_le 32 32 (fun _ => h0 hn) (fun q => absurd q (by omega))
  | succ d ih =>
    intro w hw hw1 hn
    refine pk_le 32 w (fun q => absurd q (by omega)) (fun _ => fx_acceptsWord P h hm hw1 (by omega) (fx_tv_c (fun g => ?_) (fun g => ?_)))
    · exact h1 w hw1 (by omega) g hn
    · refine nm_r (nI_1 w) (ih (w + 1) (by omega) (by omega) (fun v hv1 hv => ?_))
      by_cases q : v = w
      · subst q; exact g
      · exact hn v hv1 (by omega)
end
end
section
/-! Y: turn, closure, live, endless -/
theorem fy_31 (n : Nat) : nI n &&& 31 = nI (n % 32) := by
  rw [pk_and (nI n) 5 (by decide)]
  have : (nI n).toBitVec.toNat = n % 4294967296 := rfl
  rw [this]
  exact congrArg nI (by omega)
section
variable {a a' b e : Nat → Nat} {yA yB yF yO yS yP : Nat → Int32} {yW : Nat → Int64} {m s l t : Nat}
theorem fy_turn2 {post : Int32 → SY → Prop} (P : fx_P a a' b e) (hm : m < 2) {A : Nat} (hA : fk_tn a m 50 A) (hV : fk_V yB b) (hE : fk_V yF e)
    (hp : ∀ yA' yB' yF' : Nat → Int32, fy_S (fk_sw a a' m) (fk_swv b e m) (fk_swv e b m) yA' yB' yF' → post 1 (yA', yB', yF', yO, yS, yW, yP)) : ∀ d c (yA : Nat → Int32), c + d = 10 → (∀ i, i < 20 → yA i = nI (if 10 * m ≤ i ∧ i < 10 * m + c then a' i else a i)) →
    wY_turn_88 post (nI m) (lN A) (d + 1) (nI c) yA yB yF yO yS yW yP := by
  have h50 := hA.1
  intro d
  induction d with
  | zero =>
    intro c yA hc hy
    have : c = 10 := by omega
    subst this
    have hin : vp_in (nI m) 2 := vp_in_nI hm (by omega)
    refine pk_le 10 10 (fun _ => ⟨hin, nm_r (fx_get (by omega)) ⟨hin, hin, nm_r (fx_put (by omega) (fx_get (by omega))) ⟨hin, nm_r (fx_put (by omega) rfl) ?_⟩⟩⟩) (fun q => absurd q (by omega))
    refine hp _ _ _ ⟨fun i hi => ?_, fx_swv hV hE hm, fx_swv hE hV hm⟩
    rw [hy i hi]
    unfold fk_sw
    by_cases q : i / 10 = m
    · rw [if_pos q, if_pos (by omega)]
    · rw [if_neg q, if_neg (by omega)]
  | succ d ih =>
    intro c yA hc hy
    have ei : (10 : Int32) * nI m + nI c = nI (10 * m + c) := by
      show nI 10 * nI m + nI c = _
      rw [pk_mul, nI_add]
    have e5 : (5 : Int32) * nI c = nI (5 * c) := by
      show nI 5 * nI c = _
      rw [pk_mul]
    have ev : ((lN A >>> ((5 * nI c).toInt64 &&& 63)).toInt32) &&& 31 = nI (a' (10 * m + c)) := by
      rw [e5, fj_lshr (by omega) (by omega), lN_i, fy_31, fk_tn_v hA hm P.2.2.1 P.2.1 c (by omega)]
    refine pk_le 10 c (fun q => absurd q (by omega)) (fun _ => ?_)
    rw [ei]
    refine ⟨vp_in_nI (by omega) (by omega), nm_r (fx_put (by omega) ev) (nm_r (nI_1 c) (ih (c + 1) _ (by omega) (fun i hi => ?_)))⟩
    by_cases q : i = 10 * m + c
    · subst q; rw [pk_us, if_pos (by omega)]
    · rw [pk_un q, hy i hi]
      by_cases g : 10 * m ≤ i ∧ i < 10 * m + c
      · rw [if_pos g, if_pos (by omega)]
      · rw [if_neg g, if_neg (by omega)]
theorem fy_turn1 {post : Int32 → SY → Prop} (P : fx_P a a' b e) (h : fy_S a b e yA yB yF) (hm : m < 2)
    (hp : ∀ yA' yB' yF' : Nat → Int32, fy_S (fk_sw a a' m) (fk_swv b e m) (fk_swv e b m) yA' yB' yF' → post 1 (yA', yB', yF', yO, yS, yW, yP)) : ∀ d c A, c + d = 50 → fk_tn a m c A →
    wY_turn_15 post (nI m) yA yB yF yO yS yW yP (d + 1) (lN A) (nI c) := by
  intro d
  induction d with
  | zero =>
    intro c A hc hA
    have : c = 50 := by omega
    subst this
    refine pk_le 50 50 (fun _ => ⟨_, fy_turn2 P hm hA h.2.1 h.2.2 hp 10 0 yA rfl (fun i hi => ?_)⟩) (fun q => absurd q (by omega))
    rw [if_neg (by omega)]; exact h.1 i hi
  | succ d ih =>
    intro c A hc hA
    have e10 : nI c / 10 = nI (c / 10) := pk_div (d := 10) (by omega) (by omega) (by omega)
    have e5 : nI c / 5 = nI (c / 5) := pk_div (d := 5) (by omega) (by omega) (by omega)
    have e52 : nI (c / 5) - nI (c / 5) / 2 * 2 = nI (c / 5 % 2) := pk_rem (d := 2) (by omega) (by omega) (by omega)
    have em : nI c - nI c / 5 * 5 = nI (c % 5) := pk_rem (d := 5) (by omega) (by omega) (by omega)
    have h50 := hA.1
    have hamt : 10 * (c % 5) + 5 * (c / 5 % 2) + c / 10 < 50 := by omega
    have es : (((10 : Int32) * nI (c % 5)) + (5 * nI (c / 5 % 2))) + nI (c / 10) = nI (10 * (c % 5) + 5 * (c / 5 % 2) + c / 10) := by
      show (nI 10 * nI (c % 5) + nI 5 * nI (c / 5 % 2)) + nI (c / 10) = _
      rw [pk_mul, pk_mul, nI_add, nI_add]
    refine pk_le 50 c (fun q => absurd q (by omega)) (fun _ => ⟨by decide, nm_r e10 ⟨by decide, by decide, nm_r (e5 ▸ e52) ⟨by decide, nm_r em ?_⟩⟩⟩)
    refine fy_has P h hm (by omega) (by omega) (by omega) (fx_tv_c (fun g => ?_) (fun g => ?_))
    · rw [es, fj_lone (by omega)]
      exact nm_r (wb_or (by omega) (Nat.pow_lt_pow_right (by omega) (by omega))) (nm_r (nI_1 c) (ih (c + 1) _ (by omega) (fk_tn_y hA (by omega) g)))
    · exact nm_r (nI_1 c) (ih (c + 1) _ (by omega) (fk_tn_n hA g))
theorem fy_turn {post : Int32 → SY → Prop} (P : fx_P a a' b e) (h : fy_S a b e yA yB yF) (hm : m < 2)
    (hp : ∀ yA' yB' yF' : Nat → Int32, fy_S (fk_sw a a' m) (fk_swv b e m) (fk_swv e b m) yA' yB' yF' → post 1 (yA', yB', yF', yO, yS, yW, yP)) : wpY_turn post (yA, yB, yF, yO, yS, yW, yP) (nI m) := by
  unfold wpY_turn
  dsimp only
  exact fy_machine_t hm (br_f fx_n1 ⟨_, fy_turn1 P h hm hp 50 0 0 rfl (fk_tn_0 a m)⟩)
theorem fy_cl_go {post : Int32 → Prop} (P : fx_P a a' b e) (h : fy_S a b e yA yB yF) (hm : m < 2) : ∀ d c S, c + d = 5 → S < 32 → post (nI (fb_cl (fb_j (ff_r a m 0) (ff_r a m 1)) d S)) → wY_closure_5 post (nI m) yA yB yF yO yS yW yP (d + 1) (nI S) (nI c) := by
  have B0 := ff_B P.1 hm (show 0 < 2 by omega)
  have B1 := ff_B P.1 hm (show 1 < 2 by omega)
  intro d
  induction d with
  | zero =>
    intro c S hc _ hp
    exact pk_le 5 c (fun _ => hp) (fun q => absurd q (by omega))
  | succ d ih =>
    intro c S hc hS hp
    refine pk_le 5 c (fun q => absurd q (by omega)) (fun _ => fy_step (l := 0) P h hm hS (by omega) (fy_step (l := 1) P h hm hS (by omega) (nm_r (e' := nI (S ||| fb_u (fb_j (ff_r a m 0) (ff_r a m 1)) S)) ?_ (nm_r (nI_1 c) ?_))))
    · rw [fj_or, fj_or, fb_u_j B0 B1, Nat.or_assoc]
      rfl
    · refine ih (c + 1) _ (by omega) (Nat.or_lt_two_pow (n := 5) hS (fb_u_lt (fb_j_B B0 B1) S)) ?_
      rw [← fb_cl_s]; exact hp
theorem fy_closure {post : Int32 → Prop} (P : fx_P a a' b e) (h : fy_S a b e yA yB yF) (hm : m < 2) {S : Nat} (hS : S < 32) (hp : post (nI (fb_cl (fb_j (ff_r a m 0) (ff_r a m 1)) 5 S))) : wpY_closure post (yA, yB, yF, yO, yS, yW, yP) (nI m) (nI S) :=
  ⟨_, fy_cl_go P h hm 5 0 S rfl hS hp⟩
theorem fy_lv_k (P : fx_P a a' b e) (hm : m < 2) : fm_k (fun s => (fx_lv a a' b e m).testBit s = true) 5 = fx_lv a a' b e m := by
  have hlt := fx_lv_lt P hm
  apply fe_ext32 (fm_k_lt _ 5 (by omega)) (by omega)
  intro t ht
  rw [fm_k_bit]
  exact ⟨fun z => z.2, fun z => ⟨fb_lt_bit hlt z, z⟩⟩
theorem fy_live_go {post : Int32 → Prop} (P : fx_P a a' b e) (h : fy_S a b e yA yB yF) (hm : m < 2) (hp : post (nI (fx_lv a a' b e m))) : ∀ d c, c + d = 5 →
    wY_live_27 post (nI m) (nI (fb_cl (fb_j (ff_r a m 0) (ff_r a m 1)) 5 (b m))) yA yB yF yO yS yW yP (d + 1) (nI (fm_k (fun s => (fx_lv a a' b e m).testBit s = true) c)) (nI c) := by
  have B := fb_j_B (ff_B P.1 hm (show 0 < 2 by omega)) (ff_B P.1 hm (show 1 < 2 by omega))
  have B' := fb_j_B (ff_B P.2.1 hm (show 0 < 2 by omega)) (ff_B P.2.1 hm (show 1 < 2 by omega))
  have cv := fb_cv_j (P.2.2.1 m 0 hm (by omega)) (P.2.2.1 m 1 hm (by omega))
  have hb := P.2.2.2.1 m hm
  have he := P.2.2.2.2 m hm
  have hK := fb_cl_lt B hb 5
  intro d
  induction d with
  | zero =>
    intro c hc
    have : c = 5 := by omega
    subst this
    rw [fy_lv_k P hm]
    exact pk_le 5 5 (fun _ => hp) (fun q => absurd q (by omega))
  | succ d ih =>
    intro c hc
    have lv := fb_live B B' cv hb he (show c < 5 by omega)
    have this := ih (c + 1) (by omega)
    have no : ¬ (fx_lv a a' b e m).testBit c = true → wY_live_64 post (wY_live_27 post (nI m) (nI (fb_cl (fb_j (ff_r a m 0) (ff_r a m 1)) 5 (b m))) yA yB yF yO yS yW yP (d + 1)) (nI m) (nI (fb_cl (fb_j (ff_r a m 0) (ff_r a m 1)) 5 (b m))) (nI (fm_k (fun s => (fx_lv a a' b e m).testBit s = true) c)) (nI c) yA yB yF yO yS yW yP := by
      intro g
      rw [fm_k_f g] at this
      exact br_t rfl (nm_r (nI_1 c) this)
    have yes : (fx_lv a a' b e m).testBit c = true → wY_live_65 post (wY_live_27 post (nI m) (nI (fb_cl (fb_j (ff_r a m 0) (ff_r a m 1)) 5 (b m))) yA yB yF yO yS yW yP (d + 1)) (nI m) (nI (fb_cl (fb_j (ff_r a m 0) (ff_r a m 1)) 5 (b m))) (nI (fm_k (fun s => (fx_lv a a' b e m).testBit s = true) c)) (nI c) 1 yA yB yF yO yS yW yP := by
      intro g
      rw [fm_k_t g] at this
      refine br_f fx_n1 (nm_r (e' := nI (fm_k (fun s => (fx_lv a a' b e m).testBit s = true) c ||| 2 ^ c)) ?_ (nm_r (nI_1 c) this))
      rw [fj_one (by omega), fj_or]
    refine pk_le 5 c (fun q => absurd q (by omega)) (fun _ => br_c (fun z => ?_) (fun z => ?_))
    · rw [fj_s1 (by omega) (by omega)] at z
      rw [fj_one (by omega)]
      refine fy_closure P h hm (fb_2lt (by omega)) (fy_good h hm (fb_cl_lt B (fb_2lt (by omega)) 5) (fx_tv_c (fun g => ?_) (fun g => ?_)))
      · exact yes (lv.mp ⟨z, g⟩)
      · exact no (fun w => g (lv.mpr w).2)
    · rw [fj_s1 (by omega) (by omega)] at z
      exact no (fun w => z (lv.mpr w).1)
theorem fy_live {post : Int32 → Prop} (P : fx_P a a' b e) (h : fy_S a b e yA yB yF) (hm : m < 2) (hp : post (nI (fx_lv a a' b e m))) : wpY_live post (yA, yB, yF, yO, yS, yW, yP) (nI m) := by
  unfold wpY_live
  dsimp only
  refine fy_machine_t hm (br_f fx_n1 ⟨vp_in_nI hm (by omega), ?_⟩)
  rw [fx_vec h.2.1 hm]
  exact fy_closure P h hm (P.2.2.2.1 m hm) ⟨_, fy_live_go P h hm hp 5 0 rfl⟩
/-- s comes back to itself within k steps -/
def fy_bk (a : Nat → Nat) (m s k : Nat) : Prop := ∃ n, n < k ∧ (fb_it (fb_j (ff_r a m 0) (ff_r a m 1)) (n + 1) (2 ^ s)).testBit s = true
def fy_is (p : Prop) (z : Int32) : Prop := z = 1 ∧ p ∨ z = 0 ∧ ¬ p
theorem fy_el_in {post : Int32 → Prop} {J : Int32 → Int32 → Prop} (P : fx_P a a' b e) (h : fy_S a b e yA yB yF) (hm : m < 2) (hs : s < 5) {z : Int32} {p : Prop} (hz : fy_is p z)
    (hJ : ∀ z', fy_is (p ∨ ((fx_lv a a' b e m).testBit s = true ∧ fx_rd a m s)) z' → J z' (nI (s + 1))) : ∀ d k (y : Int32), k + d = 5 → fy_is (fy_bk a m s k) y →
    wY_endless_28 post J (nI m) z (nI s) yA yB yF yO yS yW yP (d + 1) (nI (fb_it (fb_j (ff_r a m 0) (ff_r a m 1)) k (2 ^ s))) y (nI k) := by
  have B0 := ff_B P.1 hm (show 0 < 2 by omega)
  have B1 := ff_B P.1 hm (show 1 < 2 by omega)
  have hlt := fx_lv_lt P hm
  intro d
  induction d with
  | zero =>
    intro k y hk hy
    have : k = 5 := by omega
    subst this
    have rd : fx_rd a m s ↔ fy_bk a m s 5 := fb_round
    refine pk_le 5 5 (fun _ => ?_) (fun q => absurd q (by omega))
    rcases hz with ⟨rfl, hp⟩ | ⟨rfl, hp⟩
    · exact br_f fx_n1 (nm_r (nI_1 s) (hJ 1 (Or.inl ⟨rfl, Or.inl hp⟩)))
    · refine br_t rfl ?_
      rcases hy with ⟨rfl, hb⟩ | ⟨rfl, hb⟩
      · refine br_f fx_n1 (fy_live P h hm (br_c (fun w => ?_) (fun w => ?_)))
        · rw [fj_s1 (by omega) (by omega)] at w
          exact nm_r (nI_1 s) (hJ 1 (Or.inl ⟨rfl, Or.inr ⟨w, rd.mpr hb⟩⟩))
        · rw [fj_s1 (by omega) (by omega)] at w
          exact nm_r (nI_1 s) (hJ 0 (Or.inr ⟨rfl, fun q => q.elim hp (fun q => w q.1)⟩))
      · exact br_t rfl (nm_r (nI_1 s) (hJ 0 (Or.inr ⟨rfl, fun q => q.elim hp (fun q => hb (rd.mp q.2))⟩)))
  | succ d ih =>
    intro k y hk hy
    have hS := fb_it_lt (fb_j_B B0 B1) (fb_2lt hs) k
    have hS' := fb_it_lt (fb_j_B B0 B1) (fb_2lt hs) (k + 1)
    refine pk_le 5 k (fun q => absurd q (by omega)) (fun _ => fy_step (l := 0) P h hm hS (by omega) (fy_step (l := 1) P h hm hS (by omega) (nm_r (e' := nI (fb_it (fb_j (ff_r a m 0) (ff_r a m 1)) (k + 1) (2 ^ s))) ?_ ?_)))
    · rw [fj_or, fb_it, fb_u_j B0 B1]
      rfl
    · rcases hy with ⟨rfl, hb⟩ | ⟨rfl, hb⟩
      · refine br_f fx_n1 (nm_r (nI_1 k) (ih (k + 1) 1 (by omega) (Or.inl ⟨rfl, ?_⟩)))
        obtain ⟨n, hn, g⟩ := hb
        exact ⟨n, by omega, g⟩
      · refine br_t rfl (br_c (fun w => ?_) (fun w => ?_))
        · rw [fj_s1 (by omega) (by omega)] at w
          exact nm_r (nI_1 k) (ih (k + 1) 1 (by omega) (Or.inl ⟨rfl, k, by omega, w⟩))
        · rw [fj_s1 (by omega) (by omega)] at w
          refine nm_r (nI_1 k) (ih (k + 1) 0 (by omega) (Or.inr ⟨rfl, ?_⟩))
          rintro ⟨n, hn, g⟩
          by_cases q : n = k
          · subst q; exact w g
          · exact hb ⟨n, by omega, g⟩
theorem fy_endless_go {post : Int32 → Prop} (P : fx_P a a' b e) (h : fy_S a b e yA yB yF) (hm : m < 2) (hp : fx_tv (fx_el a a' b e m) post) : ∀ d s (z : Int32), s + d = 5 → fy_is (∃ t, t < s ∧ (fx_lv a a' b e m).testBit t = true ∧ fx_rd a m t) z →
    wY_endless_4 post (nI m) yA yB yF yO yS yW yP (d + 1) z (nI s) := by
  intro d
  induction d with
  | zero =>
    intro s z hs hz
    have : s = 5 := by omega
    subst this
    refine pk_le 5 5 (fun _ => ?_) (fun q => absurd q (by omega))
    rcases hz with ⟨rfl, g⟩ | ⟨rfl, g⟩
    · exact ⟨rfl, hp.1 g⟩
    · exact ⟨rfl, hp.2 g⟩
  | succ d ih =>
    intro s z hs hz
    refine pk_le 5 s (fun q => absurd q (by omega)) (fun _ => fy_machine_t hm (br_f fx_n1 (nm_r (fj_one (by omega)) ⟨6, ?_⟩)))
    refine fy_el_in P h hm (by omega) hz (fun z' hz' => ih (s + 1) z' (by omega) ?_) 5 0 0 rfl (Or.inr ⟨rfl, fun ⟨n, hn, _⟩ => absurd hn (Nat.not_lt_zero _)⟩)
    have eqv : (∃ t, t < s + 1 ∧ (fx_lv a a' b e m).testBit t = true ∧ fx_rd a m t) ↔ ((∃ t, t < s ∧ (fx_lv a a' b e m).testBit t = true ∧ fx_rd a m t) ∨ ((fx_lv a a' b e m).testBit s = true ∧ fx_rd a m s)) := by
      constructor
      · rintro ⟨t, ht, g⟩
        by_cases q : t = s
        · subst q; exact Or.inr g
        · exact Or.inl ⟨t, by omega, g⟩
      · rintro (⟨t, ht, g⟩ | g)
        · exact ⟨t, by omega, g⟩
        · exact ⟨s, by omega, g⟩
    rw [eqv]; exact hz'
theorem fy_endless_f {post : Int32 → Prop} {x : Int32} (hx : fx_bad x 2) (hp : post 0) : wpY_endless post (yA, yB, yF, yO, yS, yW, yP) x :=
  ⟨1, pk_le 5 0 (fun q => absurd q (by omega)) (fun _ => fy_machine_f hx (br_t rfl ⟨rfl, hp⟩))⟩
end
end
section
/-! Y: telling sets apart, reached sets, size -/
theorem fy_c32 (x y : Nat) : (32 : Int32) * nI x + nI y = nI (32 * x + y) := by
  show nI 32 * nI x + nI y = _
  rw [pk_mul, nI_add]
/-- reached sets, found in place -/
def fy_rs (d : Nat → Nat → Nat) (b r c K : Nat) : Prop :=
  K < 2 ^ 32 ∧ (∀ i, K.testBit i = true → fa_R d b i) ∧ (∀ s, fa_rk d b r s → K.testBit s = true) ∧ (∀ s, s < c → fa_rk d b r s → K.testBit (d s 0) = true ∧ K.testBit (d s 1) = true)
section
variable {d : Nat → Nat → Nat} {b r c K : Nat}
theorem fy_rs_0 (hb : b < 32) : fy_rs d b 0 0 (2 ^ b) :=
  ⟨(fe_rc_0 (d := d) hb).1, (fe_rc_0 (d := d) hb).2.1, (fe_rc_0 (d := d) hb).2.2, fun _ hs => absurd hs (Nat.not_lt_zero _)⟩
theorem fy_rs_n (h : fy_rs d b r c K) (hn : ¬ K.testBit c = true) : fy_rs d b r (c + 1) K :=
  ⟨h.1, h.2.1, h.2.2.1, fun s hs g => by
    by_cases q : s = c
    · subst q; exact absurd (h.2.2.1 s g) hn
    · exact h.2.2.2 s (by omega) g⟩
theorem fy_rs_y (h : fy_rs d b r c K) (hy : K.testBit c = true) (hc : d c 0 < 32 ∧ d c 1 < 32) : fy_rs d b r (c + 1) (K ||| 2 ^ d c 0 ||| 2 ^ d c 1) := by
  have hr : fa_R d b c := h.2.1 c hy
  refine ⟨Nat.or_lt_two_pow (Nat.or_lt_two_pow h.1 (fe_2p32 hc.1)) (fe_2p32 hc.2), fun i hi => ?_, fun s hs => fb_ol (fb_ol (h.2.2.1 s hs)), fun s hs g => ?_⟩
  · rcases fe_or_e hi with hi | hi
    · rcases fe_or_e hi with hi | hi
      · exact h.2.1 i hi
      · rw [fb_2p] at hi; exact hi ▸ fa_R_0 hr
    · rw [fb_2p] at hi; exact hi ▸ fa_R_1 hr
  · by_cases q : s = c
    · subst q
      exact ⟨fb_ol (fb_orr (fb_2p.mpr rfl)), fb_orr (fb_2p.mpr rfl)⟩
    · exact ⟨fb_ol (fb_ol (h.2.2.2 s (by omega) g).1), fb_ol (fb_ol (h.2.2.2 s (by omega) g).2)⟩
theorem fy_rs_r (h : fy_rs d b r 32 K) (hc : ∀ x, x < 32 → d x 0 < 32 ∧ d x 1 < 32) (hb : b < 32) : fy_rs d b (r + 1) 0 K := by
  refine ⟨h.1, h.2.1, fun s hs => ?_, fun _ hs => absurd hs (Nat.not_lt_zero _)⟩
  rcases hs with hs | ⟨t, ht, e⟩
  · exact h.2.2.1 s hs
  · have := h.2.2.2 t (fa_rk_lt hc hb r t ht) ht
    rcases e with e | e
    · rw [e]; exact this.1
    · rw [e]; exact this.2
theorem fy_rs_e (h : fy_rs d b r c K) (hr : 31 ≤ r) (hc : ∀ x, x < 32 → d x 0 < 32 ∧ d x 1 < 32) (hb : b < 32) : ∀ s, K.testBit s = true ↔ fa_R d b s :=
  fun s => ⟨h.2.1 s, fun hs => h.2.2.1 s (fa_R_big hc hb r (by omega) hs)⟩
end
section
variable {a a' b e : Nat → Nat} {yA yB yF yO yS yP : Nat → Int32} {yW : Nat → Int64} {m s l t : Nat}
theorem fy_sets_go {post : Int64 → Prop} (P : fx_P a a' b e) (h : fy_S a b e yA yB yF) (hm : m < 2) (hp : ∀ K, K < 2 ^ 32 → (∀ s, K.testBit s = true ↔ fa_R (ff_st a m) (b m) s) → post (lN K)) :
    ∀ d i K, i + d = 1024 → fy_rs (ff_st a m) (b m) (i / 32) (i % 32) K → wY_sets_12 post (nI m) yA yB yF yO yS yW yP (d + 1) (lN K) (nI i) := by
  have hb := P.2.2.2.1 m hm
  have hc := ff_st_c P.1 hm
  intro d
  induction d with
  | zero =>
    intro i K hi hK
    exact pk_le 1024 i (fun _ => hp K hK.1 (fy_rs_e hK (by omega) hc hb)) (fun q => absurd q (by omega))
  | succ d ih =>
    intro i K hi hK
    have hK1 := hK.1
    have nx : ∀ K', fy_rs (ff_st a m) (b m) (i / 32) (i % 32 + 1) K' → fy_rs (ff_st a m) (b m) ((i + 1) / 32) ((i + 1) % 32) K' := by
      intro K' h'
      by_cases q : i % 32 = 31
      · rw [q] at h'
        rw [show (i + 1) / 32 = i / 32 + 1 by omega, show (i + 1) % 32 = 0 by omega]
        exact fy_rs_r h' hc hb
      · rw [show (i + 1) / 32 = i / 32 by omega, show (i + 1) % 32 = i % 32 + 1 by omega]
        exact h'
    refine pk_le 1024 i (fun q => absurd q (by omega)) (fun _ => ⟨fx_32, nm_r (fx_r32 (by omega)) (br_c (fun z => ?_) (fun z => ?_))⟩)
    · rw [fj_l1 (by omega) (by omega)] at z
      have h0 := ff_st_lt P.1 hm (i % 32) 0
      have h1 := ff_st_lt P.1 hm (i % 32) 1
      refine fy_step (l := 0) P h hm (by omega) (by omega) (fy_step (l := 1) P h hm (by omega) (by omega) (nm_r (e' := lN (K ||| 2 ^ ff_st a m (i % 32) 0 ||| 2 ^ ff_st a m (i % 32) 1)) ?_ (nm_r (nI_1 i) (ih (i + 1) _ (by omega) (nx _ (fy_rs_y hK z ⟨h0, h1⟩))))))
      have p0 := fe_2p32 h0
      have p1 := fe_2p32 h1
      have p2 := Nat.or_lt_two_pow hK1 p0
      rw [fj_lone (by omega), fj_lone (by omega), wb_or (by omega) (by omega), wb_or (by omega) (by omega)]
    · rw [fj_l1 (by omega) (by omega)] at z
      exact nm_r (nI_1 i) (ih (i + 1) _ (by omega) (nx _ (fy_rs_n hK z)))
theorem fy_sets {post : Int64 → Prop} (P : fx_P a a' b e) (h : fy_S a b e yA yB yF) (hm : m < 2) (hp : ∀ K, K < 2 ^ 32 → (∀ s, K.testBit s = true ↔ fa_R (ff_st a m) (b m) s) → post (lN K)) : wpY_sets post (yA, yB, yF, yO, yS, yW, yP) (nI m) := by
  have hb := P.2.2.2.1 m hm
  refine ⟨vp_in_nI hm (by omega), ?_⟩
  rw [fx_vec h.2.1 hm]
  exact nm_r (fj_lone (by omega)) ⟨_, fy_sets_go P h hm hp 1024 0 _ rfl (fy_rs_0 hb)⟩
theorem fy_ta_in {post : SY → Prop} {J : Int32 → (Nat → Int32) → (Nat → Int32) → (Nat → Int32) → (Nat → Int32) → (Nat → Int32) → (Nat → Int64) → (Nat → Int32) → Prop} (P : fx_P a a' b e) (h : fy_S a b e yA yB yF) (hm : m < 2) {r : Nat}
    (hJ : ∀ yP' : Nat → Int32, fe_mk (ff_st a m) (ff_g e m) r 1024 (fx_Q yP') → J (nI (r + 1)) yA yB yF yO yS yW yP') : ∀ d c (yP : Nat → Int32), c + d = 1024 → fe_mk (ff_st a m) (ff_g e m) r c (fx_Q yP) →
    wY_tellApart_57 post J (nI m) (nI r) (d + 1) (nI c) yA yB yF yO yS yW yP := by
  intro d
  induction d with
  | zero =>
    intro c yP hc hq
    have : c = 1024 := by omega
    subst this
    exact pk_le 1024 1024 (fun _ => nm_r (nI_1 r) (hJ yP hq)) (fun q => absurd q (by omega))
  | succ d ih =>
    intro c yP hc hq
    have hx : c / 32 < 32 := by omega
    have hy : c % 32 < 32 := by omega
    have ec : 32 * (c / 32) + c % 32 = c := by omega
    have g0 := ff_st_lt P.1 hm (c / 32) 0
    have g1 := ff_st_lt P.1 hm (c / 32) 1
    have k0 := ff_st_lt P.1 hm (c % 32) 0
    have k1 := ff_st_lt P.1 hm (c % 32) 1
    have hin : vp_in (nI c) 1024 := vp_in_nI (by omega) (by omega)
    have nx : ∀ v : Int32, (v ≠ 0 ↔ fx_Q yP c ∨ fx_Q yP (32 * ff_st a m (c / 32) 0 + ff_st a m (c % 32) 0) ∨ fx_Q yP (32 * ff_st a m (c / 32) 1 + ff_st a m (c % 32) 1)) → fe_mk (ff_st a m) (ff_g e m) r (c + 1) (fx_Q (upd yP c v)) := by
      intro v hv
      have hq' := hq
      rw [← ec] at hq'
      have key := fe_mk_s (Q' := fx_Q (upd yP c v)) hq' hx hy (ff_st_c P.1 hm) (fun z _ hz => by
        unfold fx_Q; rw [pk_un (by omega)]) (by
        rw [ec]
        unfold fx_Q at hv ⊢
        rw [pk_us]; exact hv)
      rw [ec] at key
      exact key
    refine pk_le 1024 c (fun q => absurd q (by omega)) (fun _ => ⟨fx_32, ?_⟩)
    rw [fx_r32 (by omega), fx_d32 (by omega)]
    refine fy_step (l := 0) P h hm hx (by omega) ⟨fx_32, fy_step (l := 0) P h hm hy (by omega) (nm_r (fy_c32 _ _) ⟨fx_32, fy_step (l := 1) P h hm hx (by omega) ⟨fx_32, fy_step (l := 1) P h hm hy (by omega) (nm_r (fy_c32 _ _) ⟨hin, ?_⟩)⟩⟩)⟩
    rw [nI_clamp (by omega), nI_clamp (by omega), nI_clamp (by omega)]
    refine br_c (fun z0 => ⟨vp_in_nI (by omega) (by omega), br_c (fun z1 => ⟨vp_in_nI (by omega) (by omega), br_c (fun z2 => ?_) (fun z2 => ?_)⟩) (fun z1 => ?_)⟩) (fun z0 => ?_)
    · refine ⟨hin, nm_r (e' := upd yP c 0) rfl (nm_r (nI_1 c) (ih (c + 1) _ (by omega) (nx 0 ⟨fun w => absurd rfl w, fun w => ?_⟩)))⟩
      rcases w with w | w | w
      · exact absurd z0 w
      · exact absurd z1 w
      · exact absurd z2 w
    · exact ⟨hin, nm_r (e' := upd yP c 1) rfl (nm_r (nI_1 c) (ih (c + 1) _ (by omega) (nx 1 ⟨fun _ => Or.inr (Or.inr z2), fun _ => fx_n1⟩)))⟩
    · exact ⟨hin, nm_r (e' := upd yP c 1) rfl (nm_r (nI_1 c) (ih (c + 1) _ (by omega) (nx 1 ⟨fun _ => Or.inr (Or.inl z1), fun _ => fx_n1⟩)))⟩
    · exact ⟨hin, nm_r (e' := upd yP c 1) rfl (nm_r (nI_1 c) (ih (c + 1) _ (by omega) (nx 1 ⟨fun _ => Or.inl z0, fun _ => fx_n1⟩)))⟩
theorem fy_ta_go {post : SY → Prop} (P : fx_P a a' b e) (h : fy_S a b e yA yB yF) (hm : m < 2) (hp : ∀ yP' : Nat → Int32, (∀ x y, x < 32 → y < 32 → (fx_Q yP' (32 * x + y) ↔ ¬ fa_I (ff_st a m) (ff_g e m) x y)) → post (yA, yB, yF, yO, yS, yW, yP')) :
    ∀ d r (yP : Nat → Int32), r + d = 32 → fe_mk (ff_st a m) (ff_g e m) r 0 (fx_Q yP) → wY_tellApart_49 post (nI m) (d + 1) (nI r) yA yB yF yO yS yW yP := by
  intro d
  induction d with
  | zero =>
    intro r yP hr hq
    exact pk_le 32 r (fun _ => hp yP (fun x y hx hy => fe_mk_big hq (by omega) (ff_st_c P.1 hm) hx hy)) (fun q => absurd q (by omega))
  | succ d ih =>
    intro r yP hr hq
    refine pk_le 32 r (fun q => absurd q (by omega)) (fun _ => ⟨1025, fy_ta_in P h hm (fun yP' hq' => ih (r + 1) yP' (by omega) (fe_mk_r hq')) 1024 0 yP rfl hq⟩)
theorem fy_ta0 {post : SY → Prop} (P : fx_P a a' b e) (h : fy_S a b e yA yB yF) (hm : m < 2) (hp : ∀ yP' : Nat → Int32, (∀ x y, x < 32 → y < 32 → (fx_Q yP' (32 * x + y) ↔ ¬ fa_I (ff_st a m) (ff_g e m) x y)) → post (yA, yB, yF, yO, yS, yW, yP')) :
    ∀ d c (yP : Nat → Int32), c + d = 1024 → (∀ z, z < c → (fx_Q yP z ↔ ¬ (ff_g e m (z / 32) ↔ ff_g e m (z % 32)))) → wY_tellApart_2 post (nI m) (d + 1) (nI c) yA yB yF yO yS yW yP := by
  intro d
  induction d with
  | zero =>
    intro c yP hc hq
    have : c = 1024 := by omega
    subst this
    refine pk_le 1024 1024 (fun _ => ⟨_, fy_ta_go P h hm hp 32 0 yP rfl (fe_mk_0 (fun x y hx hy => ?_))⟩) (fun q => absurd q (by omega))
    rw [hq (32 * x + y) (by omega), show (32 * x + y) / 32 = x by omega, show (32 * x + y) % 32 = y by omega]
  | succ d ih =>
    intro c yP hc hq
    have hin : vp_in (nI c) 1024 := vp_in_nI (by omega) (by omega)
    have key : ∀ v : Int32, (v ≠ 0 ↔ ¬ (ff_g e m (c / 32) ↔ ff_g e m (c % 32))) → ∀ z, z < c + 1 → (fx_Q (upd yP c v) z ↔ ¬ (ff_g e m (z / 32) ↔ ff_g e m (z % 32))) := by
      intro v hv z hz
      by_cases g : z = c
      · subst g
        unfold fx_Q
        rw [pk_us]; exact hv
      · unfold fx_Q
        rw [pk_un g]; exact hq z (by omega)
    refine pk_le 1024 c (fun q => absurd q (by omega)) (fun _ => ⟨fx_32, ?_⟩)
    rw [fx_r32 (by omega), fx_d32 (by omega)]
    refine fy_good h hm (by omega) (fx_tv_m (fun gx => ⟨fx_32, fy_good h hm (by omega) (fx_tv_m (fun gy => ?_) (fun gy => ?_))⟩) (fun gx => ⟨fx_32, fy_good h hm (by omega) (fx_tv_m (fun gy => ?_) (fun gy => ?_))⟩))
    · exact br_t rfl ⟨hin, nm_r (fx_put (by omega) fx_nb0) (nm_r (nI_1 c) (ih (c + 1) _ (by omega) (key 0 ⟨fun z => absurd rfl z, fun z => absurd ⟨fun _ => gy, fun _ => gx⟩ z⟩)))⟩
    · exact br_f fx_n1 ⟨hin, nm_r (fx_put (by omega) fx_nb1) (nm_r (nI_1 c) (ih (c + 1) _ (by omega) (key 1 ⟨fun _ z => gy (z.mp gx), fun _ => fx_n1⟩)))⟩
    · exact br_f (fun z => fx_n1 z.symm) ⟨hin, nm_r (fx_put (by omega) fx_nb1) (nm_r (nI_1 c) (ih (c + 1) _ (by omega) (key 1 ⟨fun _ z => gx (z.mpr gy), fun _ => fx_n1⟩)))⟩
    · exact br_t rfl ⟨hin, nm_r (fx_put (by omega) fx_nb0) (nm_r (nI_1 c) (ih (c + 1) _ (by omega) (key 0 ⟨fun z => absurd rfl z, fun z => absurd ⟨fun q => absurd q gx, fun q => absurd q gy⟩ z⟩)))⟩
theorem fy_tellApart {post : SY → Prop} (P : fx_P a a' b e) (h : fy_S a b e yA yB yF) (hm : m < 2) (hp : ∀ yP' : Nat → Int32, (∀ x y, x < 32 → y < 32 → (fx_Q yP' (32 * x + y) ↔ ¬ fa_I (ff_st a m) (ff_g e m) x y)) → post (yA, yB, yF, yO, yS, yW, yP')) : wpY_tellApart post (yA, yB, yF, yO, yS, yW, yP) (nI m) :=
  ⟨_, fy_ta0 P h hm hp 1024 0 yP rfl (fun z hz => absurd hz (Nat.not_lt_zero _))⟩
theorem fy_sz_in {post : Int32 → SY → Prop} {J : Int32 → Int32 → Prop} {K n s : Nat} {R : Nat → Prop} (hK : K < 2 ^ 32) (hR : ∀ s, K.testBit s = true ↔ R s) (hs : s < 32)
    (hJ1 : fe_nb R (fun t s => ¬ fx_Q yP (32 * s + t)) s → J (nI (n + 1)) (nI (s + 1))) (hJ0 : ¬ fe_nb R (fun t s => ¬ fx_Q yP (32 * s + t)) s → J (nI n) (nI (s + 1))) :
    ∀ d o (y : Int32), o + d = s → fy_is (R s ∧ ∀ t, t < o → R t → fx_Q yP (32 * s + t)) y → wY_size_64 post J (lN K) (nI n) (nI s) yA yB yF yO yS yW yP (d + 1) y (nI o) := by
  intro d
  induction d with
  | zero =>
    intro o y ho hy
    have : o = s := by omega
    subst this
    refine pk_le o o (fun _ => ?_) (fun q => absurd q (by omega))
    rcases hy with ⟨rfl, g⟩ | ⟨rfl, g⟩
    · exact br_f fx_n1 (nm_r (nI_1 n) (nm_r (nI_1 o) (hJ1 ⟨g.1, fun t ht hr z => z (g.2 t ht hr)⟩)))
    · exact br_t rfl (nm_r (nI_1 o) (hJ0 (fun z => g ⟨z.1, fun t ht hr => Classical.byContradiction fun w => z.2 t ht hr w⟩)))
  | succ d ih =>
    intro o y ho hy
    refine pk_le s o (fun q => absurd q (by omega)) (fun _ => ?_)
    rcases hy with ⟨rfl, g⟩ | ⟨rfl, g⟩
    · refine br_f fx_n1 (br_c (fun z => ?_) (fun z => ?_))
      · rw [fj_l0 (by omega) (by omega), hR] at z
        refine nm_r (nI_1 o) (ih (o + 1) 1 (by omega) (Or.inl ⟨rfl, g.1, fun t ht hr => ?_⟩))
        by_cases q : t = o
        · subst q; exact absurd hr z
        · exact g.2 t (by omega) hr
      · rw [fj_l0 (by omega) (by omega), hR] at z
        have hr : R o := Classical.byContradiction z
        rw [fy_c32]
        refine ⟨vp_in_nI (by omega) (by omega), ?_⟩
        rw [nI_clamp (by omega)]
        refine br_c (fun w => ?_) (fun w => ?_)
        · exact nm_r (nI_1 o) (ih (o + 1) 0 (by omega) (Or.inr ⟨rfl, fun v => v.2 o (by omega) hr w⟩))
        · refine nm_r (nI_1 o) (ih (o + 1) 1 (by omega) (Or.inl ⟨rfl, g.1, fun t ht hr' => ?_⟩))
          by_cases q : t = o
          · subst q; exact w
          · exact g.2 t (by omega) hr'
    · exact br_t rfl (nm_r (nI_1 o) (ih (o + 1) 0 (by omega) (Or.inr ⟨rfl, fun v => g ⟨v.1, fun t ht hr => v.2 t (by omega) hr⟩⟩)))
theorem fy_sz_go {post : Int32 → SY → Prop} {K : Nat} {R : Nat → Prop} (hK : K < 2 ^ 32) (hR : ∀ s, K.testBit s = true ↔ R s) (hp : post (nI (fa_ct (fe_nb R (fun t s => ¬ fx_Q yP (32 * s + t))) 32)) (yA, yB, yF, yO, yS, yW, yP)) :
    ∀ d s n, s + d = 32 → n = fa_ct (fe_nb R (fun t s => ¬ fx_Q yP (32 * s + t))) s → wY_size_36 post (lN K) yA yB yF yO yS yW yP (d + 1) (nI n) (nI s) := by
  intro d
  induction d with
  | zero =>
    intro s n hs hn
    have : s = 32 := by omega
    subst this
    refine pk_le 32 32 (fun _ => ?_) (fun q => absurd q (by omega))
    rw [hn]; exact hp
  | succ d ih =>
    intro s n hs hn
    have go : ∀ y : Int32, fy_is (R s ∧ ∀ t, t < 0 → R t → fx_Q yP (32 * s + t)) y → wY_size_64 post (wY_size_36 post (lN K) yA yB yF yO yS yW yP (d + 1)) (lN K) (nI n) (nI s) yA yB yF yO yS yW yP (s + 1) y (nI 0) := by
      intro y hy
      refine fy_sz_in hK hR (by omega) (fun g => ih (s + 1) (n + 1) (by omega) ?_) (fun g => ih (s + 1) n (by omega) ?_) s 0 y (by omega) hy
      · rw [fa_ct_t g, hn]
      · rw [fa_ct_f g, hn]
    refine pk_le 32 s (fun q => absurd q (by omega)) (fun _ => br_c (fun z => ⟨s + 1, go 1 ?_⟩) (fun z => ⟨s + 1, go 0 ?_⟩))
    · rw [fj_l1 (by omega) (by omega), hR] at z
      exact Or.inl ⟨rfl, z, fun t ht => absurd ht (Nat.not_lt_zero _)⟩
    · rw [fj_l1 (by omega) (by omega), hR] at z
      exact Or.inr ⟨rfl, fun w => z w.1⟩
def fy_ans (a b e : Nat → Nat) (v : Int32) (post : Int32 → SY → Prop) : Prop := ∀ (yA yB yF yO yS : Nat → Int32) (yW : Nat → Int64) (yP : Nat → Int32), fy_S a b e yA yB yF → post v (yA, yB, yF, yO, yS, yW, yP)
theorem fy_engine_t {post : Int32 → Prop} {g : Nat} (k : Nat) (hg : g ≤ k) (hk : k < 2 ^ 31) (hp : post 1) : wpY_engine post (yA, yB, yF, yO, yS, yW, yP) (nI g) (nI k) :=
  br_f (nI_pos (by omega)) (pk_lt k g (fun q => absurd q (by omega)) (fun _ => hp))
theorem fy_engine_f {post : Int32 → Prop} {x : Int32} (k : Nat) (hk : k + 1 < 2 ^ 31) (h : fx_bad x (k + 1)) (hp : post 0) : wpY_engine post (yA, yB, yF, yO, yS, yW, yP) x (nI k) := by
  rcases h with h | h
  · exact br_t h hp
  · by_cases h0 : x < 0
    · exact br_t h0 hp
    · exact br_f h0 (br_t (Int32.lt_of_lt_of_le (nI_lt (by omega) hk) h) hp)
theorem fy_size {post : Int32 → SY → Prop} (P : fx_P a a' b e) (h : fy_S a b e yA yB yF) (hm : m < 2) {g : Nat} (hg : g < 4) (hp : fy_ans a b e (nI (ff_N a b e m)) post) : wpY_size post (yA, yB, yF, yO, yS, yW, yP) (nI g) (nI m) := by
  unfold wpY_size
  dsimp only
  refine fy_engine_t 3 (by omega) (by omega) (br_f fx_n1 (fy_machine_t hm (br_f fx_n1 ?_)))
  refine fy_tellApart P h hm (fun yP' hq => fy_sets P h hm (fun K hK hR => ⟨_, fy_sz_go hK hR ?_ 32 0 0 rfl rfl⟩))
  have : fa_ct (fe_nb (fa_R (ff_st a m) (b m)) (fun t s => ¬ fx_Q yP' (32 * s + t))) 32 = ff_N a b e m := by
    refine fe_nb_congr (fun _ _ => Iff.rfl) (fun s t hs ht _ _ => ?_)
    rw [hq t s ht hs]
    exact ⟨fun z => fa_I_sm (Classical.byContradiction z), fun z w => w (fa_I_sm z)⟩
  rw [this]
  exact hp _ _ _ _ _ _ _ h
end
end
section
/-! Y: the search over pairs -/
def fy_ps (yO yS : Nat → Int32) (yW : Nat → Int64) (s : fd_S) : Prop :=
  (∀ j, j < s.1 → yO j = nI (s.2.1 j) ∧ ∃ y, yW j = lN y ∧ fk_w y (s.2.2.1 j) (s.2.2.2 j)) ∧ (∀ q, q < 1024 → (yS q ≠ 0 ↔ fd_in q s))
section
variable {a a' b e : Nat → Nat} {yA yB yF yO yS yP : Nat → Int32} {yW : Nat → Int64} {m s l t : Nat}
theorem fy_ps_new {s : fd_S} {q w t y : Nat} (h : fy_ps yO yS yW s) (hq : q < 1024) (hn : ¬ fd_in q s) (hw : fk_w y w t) : fy_ps (upd yO s.1 (nI q)) (upd yS q 1) (vp_updL yW s.1 (lN y)) (fd_nt q w t s) := by
  refine ⟨fun j hj => ?_, fun x hx => ?_⟩
  · rw [fd_nt_f hn] at hj ⊢
    have hj' : j < s.1 + 1 := hj
    show upd yO s.1 (nI q) j = nI (fd_up s.2.1 s.1 q j) ∧ ∃ y', vp_updL yW s.1 (lN y) j = lN y' ∧ fk_w y' (fd_up s.2.2.1 s.1 w j) (fd_up s.2.2.2 s.1 t j)
    by_cases g : j = s.1
    · rw [g, pk_us, pk_uLs, fd_up_s, fd_up_s, fd_up_s]; exact ⟨rfl, y, rfl, hw⟩
    · rw [pk_un g, pk_uLn g, fd_up_n (by omega), fd_up_n (by omega), fd_up_n (by omega)]
      exact h.1 j (by omega)
  · rw [fd_in_nt_iff]
    by_cases g : x = q
    · subst g; rw [pk_us]; exact ⟨fun _ => Or.inr rfl, fun _ => fx_n1⟩
    · rw [pk_un g, h.2 x hx]
      exact ⟨fun z => Or.inl z, fun z => z.elim id (fun y => absurd y g)⟩
/-- one letter of the inner loop -/
theorem fy_one {C : Int32 → (Nat → Int32) → (Nat → Int32) → (Nat → Int64) → Prop} {s : fd_S} {q0 i l : Nat} (J0 : fd_J (fi_s a) q0 s) (hi : i < s.1) (hl : l < 2) (hs : fy_ps yO yS yW s) (hst : ∀ q l, fi_s a q l < 1024)
    (hn : (fd_nt (fi_s a (s.2.1 i) l) (2 * s.2.2.1 i + l) (s.2.2.2 i + 1) s).1 ≤ 1024)
    (hC : ∀ (yO' yS' : Nat → Int32) (yW' : Nat → Int64), fy_ps yO' yS' yW' (fd_nt (fi_s a (s.2.1 i) l) (2 * s.2.2.1 i + l) (s.2.2.2 i + 1) s) → C (nI (fd_nt (fi_s a (s.2.1 i) l) (2 * s.2.2.1 i + l) (s.2.2.2 i + 1) s).1) yO' yS' yW') :
    vp_in (nI (fi_s a (s.2.1 i) l)) 1024 ∧ ((yS (nI (fi_s a (s.2.1 i) l)).toNatClampNeg = 0 → (vp_in (nI (fi_s a (s.2.1 i) l)) 1024 ∧ ∀ yS', yS' = upd yS (nI (fi_s a (s.2.1 i) l)).toNatClampNeg (vp_nar .boolean 1) → (vp_in (nI s.1) 1024 ∧ ∀ yO', yO' = upd yO (nI s.1).toNatClampNeg (nI (fi_s a (s.2.1 i) l)) →
      (vp_in (nI i) 1024 ∧ ((yW (nI i).toNatClampNeg ≤ 1099511627776 → (vp_in (nI i) 1024 ∧ (vp_in (nI s.1) 1024 ∧ ∀ yW', yW' = vp_updL yW (nI s.1).toNatClampNeg ((2 * (yW (nI i).toNatClampNeg)) + (nI l).toInt64) → ∀ x, x = nI s.1 + 1 → C x yO' yS' yW'))) ∧
        (¬ yW (nI i).toNatClampNeg ≤ 1099511627776 → (vp_in (nI i) 1024 ∧ (vp_in (nI s.1) 1024 ∧ ∀ yW', yW' = vp_updL yW (nI s.1).toNatClampNeg (yW (nI i).toNatClampNeg) → ∀ x, x = nI s.1 + 1 → C x yO' yS' yW'))))))))
      ∧ (¬ yS (nI (fi_s a (s.2.1 i) l)).toNatClampNeg = 0 → C (nI s.1) yO yS yW)) := by
  have hq := hst (s.2.1 i) l
  have hin : vp_in (nI (fi_s a (s.2.1 i) l)) 1024 := vp_in_nI hq (by omega)
  have n0 := fd_J_n J0
  have hini : vp_in (nI i) 1024 := vp_in_nI (by omega) (by omega)
  refine ⟨hin, ?_⟩
  rw [nI_clamp (n := fi_s a (s.2.1 i) l) (by omega), nI_clamp (n := s.1) (by omega), nI_clamp (n := i) (by omega)]
  refine br_c (fun z => ?_) (fun z => ?_)
  · have hno : ¬ fd_in (fi_s a (s.2.1 i) l) s := fun y => (hs.2 _ hq).mpr y z
    have hb' : s.1 + 1 ≤ 1024 := by rw [fd_nt_f hno] at hn; exact hn
    have hins : vp_in (nI s.1) 1024 := vp_in_nI (by omega) (by omega)
    have e1 : nI s.1 + 1 = nI (fd_nt (fi_s a (s.2.1 i) l) (2 * s.2.2.1 i + l) (s.2.2.2 i + 1) s).1 := by rw [fd_nt_f hno, nI_1]
    obtain ⟨y, ey, hw⟩ := (hs.1 i hi).2
    obtain ⟨w1, w2, _⟩ := J0.2.2.2.1 i hi
    have hy := hw.2.2
    rw [ey]
    refine ⟨hin, nm_r (e' := upd yS (fi_s a (s.2.1 i) l) 1) rfl ⟨hins, nm_e ⟨hini, br_c (fun g => ⟨hini, hins, ?_⟩) (fun g => ⟨hini, hins, ?_⟩)⟩⟩⟩
    · have g' : ¬ 1099511627776 < y := by
        have := (pk_lLE (a := y) (b := 1099511627776) (by omega) (by omega)).mp g
        omega
      refine nm_r (e' := vp_updL yW s.1 (lN (2 * y + l))) ?_ (nm_r e1 ?_)
      · rw [nI_l (by omega)]
        show vp_updL yW s.1 (lN 2 * lN y + lN l) = _
        rw [lN_mul, lN_add]
      · exact hC _ _ _ (fy_ps_new hs hq hno (fk_w_f hw hl w1 g'))
    · have g' : 1099511627776 < y := by
        apply Classical.byContradiction
        intro w
        exact g ((pk_lLE (a := y) (b := 1099511627776) (by omega) (by omega)).mpr (by omega))
      exact nm_e (nm_r e1 (hC _ _ _ (fy_ps_new hs hq hno (fk_w_t hw w2 g'))))
  · have hi' : fd_in (fi_s a (s.2.1 i) l) s := (hs.2 _ hq).mp z
    have key := hC yO yS yW (by rw [fd_nt_t hi']; exact hs)
    rw [fd_nt_t hi'] at key
    exact key
theorem fy_in {post : Int32 → SY → Prop} {J : Int32 → Int32 → (Nat → Int32) → (Nat → Int32) → (Nat → Int32) → (Nat → Int32) → (Nat → Int32) → (Nat → Int64) → (Nat → Int32) → Prop} (P : fx_P a a' b e) (h : fy_S a b e yA yB yF) {q0 i : Nat} {s : fd_S} (κ : Int32) (J0 : fd_J (fi_s a) q0 s) (hi : i < s.1) (hs : fy_ps yO yS yW s)
    (hJ : ∀ (yO' yS' : Nat → Int32) (yW' : Nat → Int64), fy_ps yO' yS' yW' (fd_g1 (fi_s a) (fd_g0 (fi_s a) s i) i) → J (nI (fd_g1 (fi_s a) (fd_g0 (fi_s a) s i) i).1) (nI (i + 1)) yA yB yF yO' yS' yW' yP) :
    wY_search_159 post J κ (nI i) (nI (s.2.1 i / 32)) (nI (s.2.1 i % 32)) 3 (nI s.1) 0 yA yB yF yO yS yW yP := by
  have hst := fi_s_lt P.1
  have n0 := fd_J_n J0
  have J1 := fd_J_g0 J0 hst hi
  have n1 := fd_J_n J1
  have hi1 : i < (fd_g0 (fi_s a) s i).1 := Nat.lt_of_lt_of_le hi (fd_le_g0 (stp := fi_s a) s i).1
  have J2 := fd_J_g1 J1 hst hi1
  have n2 := fd_J_n J2
  have hq := J0.2.1 i hi
  have eP : (fd_g0 (fi_s a) s i).2.1 i = s.2.1 i := ((fd_le_g0 (stp := fi_s a) s i).2 i hi).1
  refine pk_le 2 0 (fun z => absurd z (by omega)) (fun _ => ?_)
  refine fy_step (m := 0) (l := 0) P h (by omega) (by omega) (by omega) (fy_step (m := 1) (l := 0) P h (by omega) (by omega) (by omega) (nm_r (e' := nI (fi_s a (s.2.1 i) 0)) (fy_c32 _ _) ?_))
  refine fy_one (C := fun x yO' yS' yW' => ∀ x8, x8 = (0 : Int32) + 1 → wY_search_159 post J κ (nI i) (nI (s.2.1 i / 32)) (nI (s.2.1 i % 32)) 2 x x8 yA yB yF yO' yS' yW' yP) (l := 0) J0 hi (by omega) hs hst n1 (fun yO1 yS1 yW1 hs1 => nm_r (e' := nI 1) (by decide) ?_)
  refine pk_le 2 1 (fun z => absurd z (by omega)) (fun _ => ?_)
  refine fy_step (m := 0) (l := 1) P h (by omega) (by omega) (by omega) (fy_step (m := 1) (l := 1) P h (by omega) (by omega) (by omega) (nm_r (e' := nI (fi_s a ((fd_g0 (fi_s a) s i).2.1 i) 1)) (by rw [eP]; exact fy_c32 _ _) ?_))
  refine fy_one (C := fun x yO' yS' yW' => ∀ x8, x8 = (nI 1 : Int32) + 1 → wY_search_159 post J κ (nI i) (nI (s.2.1 i / 32)) (nI (s.2.1 i % 32)) 1 x x8 yA yB yF yO' yS' yW' yP) (s := fd_g0 (fi_s a) s i) (l := 1) J1 hi1 (by omega) hs1 hst n2 (fun yO2 yS2 yW2 hs2 => nm_r (e' := nI 2) (by decide) ?_)
  refine pk_le 2 2 (fun _ => nm_r (nI_1 i) ?_) (fun z => absurd z (by omega))
  exact hJ yO2 yS2 yW2 hs2
theorem fy_before (P : fx_P a a' b e) {F i : Nat} (hF : fi_F a b F) (ho : fd_on (fi_s a) (fi_q b) i) (hi : i < (fd_bf (fi_s a) (fi_q b) i).1) : i < F := by
  apply Classical.byContradiction
  intro hn
  by_cases q : F = i
  · subst q
    have := hF.2.1
    omega
  · have := ho F (by omega)
    have := hF.2.1
    omega
theorem fy_go {post : Int32 → SY → Prop} (P : fx_P a a' b e) (h : fy_S a b e yA yB yF) {k F : Nat} (hk : k < 3) (hF : fi_F a b F)
    (h1 : ∀ j, j < F → fi_sp e k ((fd_bf (fi_s a) (fi_q b) F).2.1 j) → (∀ i, i < j → ¬ fi_sp e k ((fd_bf (fi_s a) (fi_q b) F).2.1 i)) → ∀ (yO' yS' : Nat → Int32) (yW' : Nat → Int64), (∃ y, yW' j = lN y ∧ fk_w y ((fd_bf (fi_s a) (fi_q b) F).2.2.1 j) ((fd_bf (fi_s a) (fi_q b) F).2.2.2 j)) → post (nI j) (yA, yB, yF, yO', yS', yW', yP))
    (h0 : ¬ fi_C a b e k → ∀ (yO' yS' : Nat → Int32) (yW' : Nat → Int64), post (-1) (yA, yB, yF, yO', yS', yW', yP)) :
    ∀ d i (yO yS : Nat → Int32) (yW : Nat → Int64), i + d = 1025 → fd_on (fi_s a) (fi_q b) i → fy_ps yO yS yW (fd_bf (fi_s a) (fi_q b) i) → (∀ j, j < i → ¬ fi_sp e k ((fd_bf (fi_s a) (fi_q b) F).2.1 j)) →
    wY_search_67 post (nI k) (d + 1) (nI (fd_bf (fi_s a) (fi_q b) i).1) (nI i) yA yB yF yO yS yW yP := by
  have hst := fi_s_lt P.1
  have hq := fx_q_lt P
  intro d
  induction d with
  | zero =>
    intro i yO yS yW hi ho hs _
    have h1 := fd_J_n (fd_J_bf hq hst i ho)
    have h2 := ho (i - 1) (by omega)
    have h3 := (fd_le_bf (stp := fi_s a) (q0 := fi_q b) (i - 1)).1
    rw [show i - 1 + 1 = i by omega] at h3
    omega
  | succ d ih =>
    intro i yO yS yW hi ho hs hno
    have J0 := fd_J_bf hq hst i ho
    have hn := fd_J_n J0
    refine pk_le (fd_bf (fi_s a) (fi_q b) i).1 i (fun z => ?_) (fun z => ?_)
    · have hge : i ≤ (fd_bf (fi_s a) (fi_q b) i).1 := by
        cases i with
        | zero => exact Nat.zero_le _
        | succ i =>
          have h2 := ho i (by omega)
          have h3 := (fd_le_bf (stp := fi_s a) (q0 := fi_q b) i).1
          omega
      have he : (fd_bf (fi_s a) (fi_q b) i).1 = i := Nat.le_antisymm z hge
      have : F = i := fi_F_un hF ⟨by omega, he, ho⟩
      subst this
      exact h0 (fi_C_n hF hno) _ _ _
    · have hiF := fy_before P hF ho z
      obtain ⟨u, hu⟩ : ∃ u, F = i + u := ⟨F - i, by omega⟩
      have L := fd_le_far (stp := fi_s a) (q0 := fi_q b) i u
      rw [← hu] at L
      obtain ⟨eP, eW, eL⟩ := L.2 i z
      have hp := J0.2.1 i z
      have hin : vp_in (nI i) 1024 := vp_in_nI (by omega) (by omega)
      refine ⟨hin, fx_32, ?_⟩
      rw [nI_clamp (by omega), (hs.1 i z).1]
      refine nm_r (fx_d32 (by omega)) ⟨hin, fx_32, nm_r (fx_r32 (by omega)) ?_⟩
      have on : ¬ fi_sp e k ((fd_bf (fi_s a) (fi_q b) i).2.1 i) → ∃ n159, wY_search_159 post (wY_search_67 post (nI k) (d + 1)) (nI k) (nI i) (nI ((fd_bf (fi_s a) (fi_q b) i).2.1 i / 32)) (nI ((fd_bf (fi_s a) (fi_q b) i).2.1 i % 32)) n159 (nI (fd_bf (fi_s a) (fi_q b) i).1) 0 yA yB yF yO yS yW yP := by
        intro g
        refine ⟨3, fy_in P h (nI k) J0 z hs (fun yO' yS' yW' hs' => ih (i + 1) yO' yS' yW' (by omega) (fun j hj => ?_) hs' (fun j hj => ?_))⟩
        · by_cases q : j = i
          · subst q; exact z
          · exact ho j (by omega)
        · by_cases q : j = i
          · subst q; rw [eP]; exact g
          · exact hno j (by omega)
      have stop : fi_sp e k ((fd_bf (fi_s a) (fi_q b) i).2.1 i) → post (nI i) (yA, yB, yF, yO, yS, yW, yP) := by
        intro g
        refine h1 i hiF (by rw [eP]; exact g) hno yO yS yW ?_
        rw [eW, eL]; exact (hs.1 i z).2
      have hk' : k = 0 ∨ k = 1 ∨ k = 2 := by omega
      refine fy_good (m := 0) h (by omega) (by omega) (fx_tv_m (fun gx => fy_good (m := 1) h (by omega) (by omega) (fx_tv_m (fun gy => ?_) (fun gy => ?_))) (fun gx => fy_good (m := 1) h (by omega) (by omega) (fx_tv_m (fun gy => ?_) (fun gy => ?_))))
      · have no : ¬ fi_sp e k ((fd_bf (fi_s a) (fi_q b) i).2.1 i) := by
          rcases hk' with rfl | rfl | rfl
          · exact fun w => w.2 gx
          · exact fun w => w.2 gy
          · exact fun w => w ⟨fun _ => gy, fun _ => gx⟩
        exact pk_eq k 2 (fun _ => br_t rfl (on no)) (fun _ => pk_eq k 0 (fun _ => br_f fx_n1 (br_f fx_n1 (on no))) (fun _ => br_f fx_n1 (br_f fx_n1 (on no))))
      · refine pk_eq k 2 (fun q => br_f fx_n1 (stop ?_)) (fun q2 => pk_eq k 0 (fun q => br_t rfl (on ?_)) (fun q => br_f fx_n1 (br_t rfl (stop ?_))))
        · subst q; exact fun w => gy (w.mp gx)
        · subst q; exact fun w => gy w.1
        · have : k = 1 := by omega
          subst this; exact ⟨gx, gy⟩
      · refine pk_eq k 2 (fun q => br_f (fun w => fx_n1 w.symm) (stop ?_)) (fun q2 => pk_eq k 0 (fun q => br_f fx_n1 (br_t rfl (stop ?_))) (fun q => br_t rfl (on ?_)))
        · subst q; exact fun w => gx (w.mpr gy)
        · subst q; exact ⟨gy, gx⟩
        · have : k = 1 := by omega
          subst this; exact fun w => gx w.1
      · have no : ¬ fi_sp e k ((fd_bf (fi_s a) (fi_q b) i).2.1 i) := by
          rcases hk' with rfl | rfl | rfl
          · exact fun w => gy w.1
          · exact fun w => gx w.1
          · exact fun w => w ⟨fun q => absurd q gx, fun q => absurd q gy⟩
        exact pk_eq k 2 (fun _ => br_t rfl (on no)) (fun _ => pk_eq k 0 (fun _ => br_t rfl (on no)) (fun _ => br_t rfl (on no)))
theorem fy_se0 {post : Int32 → SY → Prop} (P : fx_P a a' b e) (h : fy_S a b e yA yB yF) {k F : Nat} (hk : k < 3) (hF : fi_F a b F)
    (h1 : ∀ j, j < F → fi_sp e k ((fd_bf (fi_s a) (fi_q b) F).2.1 j) → (∀ i, i < j → ¬ fi_sp e k ((fd_bf (fi_s a) (fi_q b) F).2.1 i)) → ∀ (yO' yS' : Nat → Int32) (yW' : Nat → Int64), (∃ y, yW' j = lN y ∧ fk_w y ((fd_bf (fi_s a) (fi_q b) F).2.2.1 j) ((fd_bf (fi_s a) (fi_q b) F).2.2.2 j)) → post (nI j) (yA, yB, yF, yO', yS', yW', yP))
    (h0 : ¬ fi_C a b e k → ∀ (yO' yS' : Nat → Int32) (yW' : Nat → Int64), post (-1) (yA, yB, yF, yO', yS', yW', yP)) :
    ∀ d c (yS : Nat → Int32), c + d = 1024 → (∀ x, x < c → yS x = 0) → wY_search_2 post (nI k) (d + 1) (nI c) yA yB yF yO yS yW yP := by
  have hq := fx_q_lt P
  intro d
  induction d with
  | zero =>
    intro c yS hc hz
    have : c = 1024 := by omega
    subst this
    refine pk_le 1024 1024 (fun _ => ?_) (fun z => absurd z (by omega))
    have e0 : (32 : Int32) * yB 0 + yB 1 = nI (fi_q b) := by
      rw [h.2.1 0 (by omega), h.2.1 1 (by omega), fy_c32]; rfl
    rw [e0]
    have hin : vp_in (upd yO 0 (nI (fi_q b)) 0) 1024 := by rw [pk_us]; exact vp_in_nI hq (by omega)
    have ec : (upd yO 0 (nI (fi_q b)) 0).toNatClampNeg = fi_q b := by rw [pk_us]; exact nI_clamp (by omega)
    refine nm_e (nm_e ⟨hin, nm_r (e' := upd yS (fi_q b) 1) (by rw [ec]; rfl) ⟨1026, ?_⟩⟩)
    refine fy_go P h hk hF h1 h0 1025 0 _ _ _ rfl (fun j hj => absurd hj (Nat.not_lt_zero _)) ⟨fun j hj => ?_, fun x hx => ?_⟩ (fun j hj => absurd hj (Nat.not_lt_zero _))
    · have hj' : j < 1 := hj
      have : j = 0 := by omega
      subst this
      exact ⟨rfl, 1, rfl, fk_w_0⟩
    · by_cases g : x = fi_q b
      · subst g; rw [pk_us]; exact ⟨fun _ => ⟨0, Nat.one_pos, rfl⟩, fun _ => fx_n1⟩
      · rw [pk_un g, hz x hx]
        exact ⟨fun z => absurd rfl z, fun ⟨j, _, y⟩ => absurd y.symm g⟩
  | succ d ih =>
    intro c yS hc hz
    refine pk_le 1024 c (fun z => absurd z (by omega)) (fun _ => ⟨vp_in_nI (by omega) (by omega), nm_r (fx_put (by omega) fx_nb0) (nm_r (nI_1 c) (ih (c + 1) _ (by omega) (fun x hx => ?_)))⟩)
    by_cases g : x = c
    · subst g; exact pk_us
    · rw [pk_un g]; exact hz x (by omega)
theorem fy_search {post : Int32 → SY → Prop} (P : fx_P a a' b e) (h : fy_S a b e yA yB yF) {k : Nat} (hk : k < 3)
    (h1 : ∀ F j, fi_F a b F → j < F → fi_sp e k ((fd_bf (fi_s a) (fi_q b) F).2.1 j) → (∀ i, i < j → ¬ fi_sp e k ((fd_bf (fi_s a) (fi_q b) F).2.1 i)) → ∀ (yO' yS' : Nat → Int32) (yW' : Nat → Int64), (∃ y, yW' j = lN y ∧ fk_w y ((fd_bf (fi_s a) (fi_q b) F).2.2.1 j) ((fd_bf (fi_s a) (fi_q b) F).2.2.2 j)) → post (nI j) (yA, yB, yF, yO', yS', yW', yP))
    (h0 : ¬ fi_C a b e k → ∀ (yO' yS' : Nat → Int32) (yW' : Nat → Int64), post (-1) (yA, yB, yF, yO', yS', yW', yP)) : wpY_search post (yA, yB, yF, yO, yS, yW, yP) (nI k) := by
  obtain ⟨F, g1, g2, g3⟩ := fd_F (q0 := fi_q b) (stp := fi_s a) (fx_q_lt P) (fi_s_lt P.1)
  exact ⟨_, fy_se0 P h hk ⟨g1, g2, g3⟩ (fun j => h1 F j ⟨g1, g2, g3⟩) h0 1024 0 yS rfl (fun x hx => absurd hx (Nat.not_lt_zero _))⟩
end
end
section
/-! the relation, and the owed statements -/
def i_Rel (k : Nat) (u : SX) (v : SY) : Prop := ∃ a a' b e : Nat → Nat, fx_P a a' b e ∧ fx_S a a' b e u.1 u.2.1 u.2.2.1 u.2.2.2.1 ∧ fy_S a b e v.1 v.2.1 v.2.2.1
theorem i_up {k : Nat} {u : SX} {v : SY} (h : i_Rel k u v) : i_Rel (k + 5) u v := h
theorem fz_0 (S : Nat) : ∀ n, fb_uo (fun _ => 0) S n = 0 := by
  intro n
  induction n with
  | zero => rfl
  | succ n ih =>
    show (if S.testBit n = true then fb_uo (fun _ => 0) S n ||| 0 else fb_uo (fun _ => 0) S n) = 0
    rw [ih]
    split <;> rfl
theorem fz_st (m S l : Nat) (hl : l < 2) : ff_st (fun _ => 0) m S l = 0 := by
  rw [ff_st_u _ m S hl]
  exact fz_0 S 5
theorem fz_T0 : fk_T (fun _ => 0) (fun _ => 0) := by
  intro m S l _ _ hl
  rw [fz_st m S l hl]
  exact nI_0.symm
theorem fz_V0 : fk_V (fun _ => 0) (fun _ => 0) := fun _ _ => nI_0.symm
theorem fz_P0 : fx_P (fun _ => 0) (fun _ => 0) (fun _ => 0) (fun _ => 0) := by
  have z : (0 : Nat) < 32 := by decide
  refine ⟨fun _ _ => z, fun _ _ => z, fun m l _ _ s t _ _ => ?_, fun _ _ => z, fun _ _ => z⟩
  show (0 : Nat).testBit t = true ↔ (0 : Nat).testBit s = true
  rw [Nat.zero_testBit, Nat.zero_testBit]
theorem i_vc0 : wpX_init (fun u => wpY_init (fun v => i_Rel 0 u v)) :=
  ⟨fun _ => 0, fun _ => 0, fun _ => 0, fun _ => 0, fz_P0, ⟨fz_T0, fz_T0, fz_V0, fz_V0⟩, ⟨fun _ _ => nI_0.symm, fz_V0, fz_V0⟩⟩
section
variable {a a' b e : Nat → Nat} {aO aB aS aE cC cF cS cA cG cL cM cN cP cW cT cQ : Nat → Int32} {yA yB yF yO yS yP : Nat → Int32} {yW : Nat → Int64}
theorem fz_r {k : Nat} (P : fx_P a a' b e) (h : fx_S a a' b e aO aB aS aE) (g : fy_S a b e yA yB yF) : i_Rel k (aO, aB, aS, aE, cC, cF, cS, cA, cG, cL, cM, cN, cP, cW, cT, cQ) (yA, yB, yF, yO, yS, yW, yP) := ⟨a, a', b, e, P, h, g⟩
theorem fz_fl {k m s l t : Nat} (P : fx_P a a' b e) (h : fx_S a a' b e aO aB aS aE) (g : fy_S a b e yA yB yF) (hs : s < 5) (hl : l < 2) (ht : t < 5) {aO' aB' yA' : Nat → Int32} (hO : fk_T aO' (fk_fl a (10 * m + 2 * s + l) t)) (hB : fk_T aB' (fk_fl a' (10 * m + 2 * t + l) s)) (hA : fk_A yA' (fk_fl a (10 * m + 2 * s + l) t)) : i_Rel k (aO', aB', aS, aE, cC, cF, cS, cA, cG, cL, cM, cN, cP, cW, cT, cQ) (yA', yB, yF, yO, yS, yW, yP) :=
  ⟨_, _, b, e, fx_flip_P P hs hl ht, ⟨hO, hB, h.2.2.1, h.2.2.2⟩, ⟨hA, g.2.1, g.2.2⟩⟩
end
theorem i_vc_arrow {k : Nat} {u : SX} {v : SY} (I : i_Rel k u v) (hk : k + 5 ≤ 2560) (v1 : Int32) (v2 : Int32) (v3 : Int32) (v4 : Int32) : wpX_arrow (fun r u' => wpY_arrow (fun r' v' => r' = r ∧ i_Rel (k + 5) u' v') v v1 v2 v3 v4) u v1 v2 v3 v4 := by
  obtain ⟨aO, aB, aS, aE, cC, cF, cS, cA, cG, cL, cM, cN, cP, cW, cT, cQ⟩ := u
  obtain ⟨yA, yB, yF, yO, yS, yW, yP⟩ := v
  obtain ⟨a, a', b, e, P, h, g⟩ := I
  dsimp only at h g
  unfold wpX_arrow
  dsimp only
  rcases fx_four_x v1 v2 v3 v4 with bad | ⟨m, s, l, t, hm, hs, hl, ht, rfl, rfl, rfl, rfl⟩
  · refine fx_range_f bad (br_t rfl ?_)
    unfold wpY_arrow
    dsimp only
    exact fy_fits_f bad (br_t rfl ⟨rfl, fz_r P h g⟩)
  · refine fx_range_t hm hs hl ht (br_f fx_n1 (fx_hasArrow P h hm hs hl ht (fx_tv_c (fun q => ?_) (fun q => fx_flip P h hm hs hl ht (fun aO' aB' hO hB => ?_)))))
    · exact fy_arrow P g hm hs hl ht (fun _ => ⟨rfl, fz_r P h g⟩) (fun q' => absurd q q')
    · exact fy_arrow P g hm hs hl ht (fun q' => absurd q' q) (fun _ yA' hA => ⟨rfl, fz_fl P h g hs hl ht hO hB hA⟩)
theorem i_vc_cut {k : Nat} {u : SX} {v : SY} (I : i_Rel k u v) (hk : k + 5 ≤ 2560) (v1 : Int32) (v2 : Int32) (v3 : Int32) (v4 : Int32) : wpX_cut (fun r u' => wpY_cut (fun r' v' => r' = r ∧ i_Rel (k + 5) u' v') v v1 v2 v3 v4) u v1 v2 v3 v4 := by
  obtain ⟨aO, aB, aS, aE, cC, cF, cS, cA, cG, cL, cM, cN, cP, cW, cT, cQ⟩ := u
  obtain ⟨yA, yB, yF, yO, yS, yW, yP⟩ := v
  obtain ⟨a, a', b, e, P, h, g⟩ := I
  dsimp only at h g
  unfold wpX_cut
  dsimp only
  rcases fx_four_x v1 v2 v3 v4 with bad | ⟨m, s, l, t, hm, hs, hl, ht, rfl, rfl, rfl, rfl⟩
  · refine fx_range_f bad (br_t rfl ?_)
    unfold wpY_cut
    dsimp only
    exact fy_fits_f bad (br_t rfl ⟨rfl, fz_r P h g⟩)
  · refine fx_range_t hm hs hl ht (br_f fx_n1 (fx_hasArrow P h hm hs hl ht (fx_tv_c (fun q => fx_flip P h hm hs hl ht (fun aO' aB' hO hB => ?_)) (fun q => ?_))))
    · exact fy_cut P g hm hs hl ht (fun q' => absurd q q') (fun _ yA' hA => ⟨rfl, fz_fl P h g hs hl ht hO hB hA⟩)
    · exact fy_cut P g hm hs hl ht (fun _ => ⟨rfl, fz_r P h g⟩) (fun q' => absurd q' q)
def fd_up' (b : Nat → Nat) (m v : Nat) : Nat → Nat := fun j => if j = m then v else b j
theorem fz_up {t : Nat → Int32} {b : Nat → Nat} {m v : Nat} (h : fk_V t b) : fk_V (upd t m (nI v)) (fd_up' b m v) := by
  intro j hj
  unfold fd_up'
  by_cases q : j = m
  · subst q; rw [pk_us, if_pos rfl]
  · rw [pk_un q, if_neg q]; exact h j hj
theorem fz_upok {b : Nat → Nat} {m v : Nat} (h : fk_ok b) (hv : v < 32) : fk_ok (fd_up' b m v) := by
  intro j hj
  unfold fd_up'
  split
  · exact hv
  · exact h j hj
theorem i_vc_ends {k : Nat} {u : SX} {v : SY} (I : i_Rel k u v) (hk : k + 5 ≤ 2560) (v1 : Int32) (v2 : Int32) (v3 : Int32) : wpX_ends (fun r u' => wpY_ends (fun r' v' => r' = r ∧ i_Rel (k + 5) u' v') v v1 v2 v3) u v1 v2 v3 := by
  obtain ⟨aO, aB, aS, aE, cC, cF, cS, cA, cG, cL, cM, cN, cP, cW, cT, cQ⟩ := u
  obtain ⟨yA, yB, yF, yO, yS, yW, yP⟩ := v
  obtain ⟨a, a', b, e, P, h, g⟩ := I
  dsimp only at h g
  unfold wpX_ends wpY_ends
  dsimp only
  rcases fx_ix3 v1 (n := 2) (by omega) with bad | ⟨m, hm, rfl⟩
  · exact fx_bel_f (n := 2) bad (fy_machine_f bad (br_t rfl ⟨rfl, fz_r P h g⟩))
  refine fx_bel_t 2 hm (by omega) ?_
  rcases fx_ix3 v2 (n := 32) (by omega) with bad | ⟨x, hx, rfl⟩
  · refine fx_bel_f (n := 32) bad (fy_machine_t hm (br_f fx_n1 ?_))
    rcases bad with q | q
    · exact br_t q ⟨rfl, fz_r P h g⟩
    · by_cases q0 : v2 < 0
      · exact br_t q0 ⟨rfl, fz_r P h g⟩
      · exact br_f q0 (br_t (Int32.lt_of_lt_of_le (by decide : (31 : Int32) < nI 32) q) ⟨rfl, fz_r P h g⟩)
  refine fx_bel_t 32 hx (by omega) ?_
  rcases fx_ix3 v3 (n := 32) (by omega) with bad | ⟨y, hy, rfl⟩
  · refine fx_bel_f (n := 32) bad (fy_machine_t hm (br_f fx_n1 (br_f (nI_pos (by omega)) (pk_lt 31 x (fun q => absurd q (by omega)) (fun _ => ?_)))))
    rcases bad with q | q
    · exact br_t q ⟨rfl, fz_r P h g⟩
    · by_cases q0 : v3 < 0
      · exact br_t q0 ⟨rfl, fz_r P h g⟩
      · exact br_f q0 (br_f (fun w => Int32.not_le.mpr (Int32.lt_of_lt_of_le (by decide : (31 : Int32) < nI 32) q) w) ⟨rfl, fz_r P h g⟩)
  have hin : vp_in (nI m) 2 := vp_in_nI hm (by omega)
  refine fx_bel_t 32 hy (by omega) ⟨hin, nm_r (fx_put (by omega) rfl) ⟨hin, nm_r (fx_put (by omega) rfl) ?_⟩⟩
  refine fy_machine_t hm (br_f fx_n1 (br_f (nI_pos (by omega)) (pk_lt 31 x (fun q => absurd q (by omega)) (fun _ => br_f (nI_pos (by omega)) (pk_le y 31 (fun _ => ⟨hin, nm_r (fx_put (by omega) rfl) ⟨hin, nm_r (fx_put (by omega) rfl) ⟨rfl, ?_⟩⟩⟩) (fun q => absurd q (by omega)))))))
  exact fz_r (a := a) (a' := a') (b := fd_up' b m x) (e := fd_up' e m y) ⟨P.1, P.2.1, P.2.2.1, fz_upok P.2.2.2.1 hx, fz_upok P.2.2.2.2 hy⟩ ⟨h.1, h.2.1, fz_up h.2.2.1, fz_up h.2.2.2⟩ ⟨g.1, fz_up g.2.1, fz_up g.2.2⟩
theorem i_vc_turn {k : Nat} {u : SX} {v : SY} (I : i_Rel k u v) (hk : k + 5 ≤ 2560) (v1 : Int32) : wpX_turn (fun r u' => wpY_turn (fun r' v' => r' = r ∧ i_Rel (k + 5) u' v') v v1) u v1 := by
  obtain ⟨aO, aB, aS, aE, cC, cF, cS, cA, cG, cL, cM, cN, cP, cW, cT, cQ⟩ := u
  obtain ⟨yA, yB, yF, yO, yS, yW, yP⟩ := v
  obtain ⟨a, a', b, e, P, h, g⟩ := I
  dsimp only at h g
  rcases fx_ix3 v1 (n := 2) (by omega) with bad | ⟨m, hm, rfl⟩
  · unfold wpX_turn wpY_turn
    dsimp only
    exact fx_bel_f (n := 2) bad (fy_machine_f bad (br_t rfl ⟨rfl, fz_r P h g⟩))
  · exact fx_turn h hm (fun aO' aB' aS' aE' h' => fy_turn P g hm (fun yA' yB' yF' g' => ⟨rfl, fz_r (fx_turn_P P m) h' g'⟩))
end
section
/-! the owed statements, the questions -/
theorem i_vc_accepts {k : Nat} {u : SX} {v : SY} (I : i_Rel k u v) (hk : k + 5 ≤ 2560) (v1 : Int32) (v2 : Int32) : wpX_accepts (fun r => wpY_accepts (fun r' => r' = r ∧ i_Rel (k + 5) u v) v v1 v2) u v1 v2 := by
  obtain ⟨aO, aB, aS, aE, cC, cF, cS, cA, cG, cL, cM, cN, cP, cW, cT, cQ⟩ := u
  obtain ⟨yA, yB, yF, yO, yS, yW, yP⟩ := v
  have I' := i_up I
  obtain ⟨a, a', b, e, P, h, g⟩ := I
  dsimp only at h g
  unfold wpX_accepts wpY_accepts
  dsimp only
  rcases fx_ix3 v1 (n := 2) (by omega) with bad | ⟨m, hm, rfl⟩
  · exact fx_bel_f (n := 2) bad (fy_machine_f bad (br_t rfl ⟨rfl, I'⟩))
  refine fx_bel_t 2 hm (by omega) ?_
  rcases fx_wordx v2 with bad | ⟨w, h1, h2, rfl⟩
  · exact fx_isWord_f bad (br_t rfl (fy_machine_t hm (br_f fx_n1 (fy_isWord_f bad (br_t rfl ⟨rfl, I'⟩)))))
  refine fx_isWord_t h1 h2 (br_f fx_n1 (fx_acceptsWord P h hm h1 (by omega) (fx_tv_n (fx_tv_m (fun q => ?_) (fun q => ?_)))))
  · exact fy_machine_t hm (br_f fx_n1 (fy_isWord_t h1 h2 (br_f fx_n1 (fy_rw P g hm h1 (by omega) (fx_tv_c (fun _ => ⟨rfl, I'⟩) (fun q' => absurd q q'))))))
  · exact fy_machine_t hm (br_f fx_n1 (fy_isWord_t h1 h2 (br_f fx_n1 (fy_rw P g hm h1 (by omega) (fx_tv_c (fun q' => absurd q' q) (fun _ => ⟨rfl, I'⟩))))))
theorem i_vc_after {k : Nat} {u : SX} {v : SY} (I : i_Rel k u v) (hk : k + 5 ≤ 2560) (v1 : Int32) (v2 : Int32) : wpX_after (fun r => wpY_after (fun r' => r' = r ∧ i_Rel (k + 5) u v) v v1 v2) u v1 v2 := by
  obtain ⟨aO, aB, aS, aE, cC, cF, cS, cA, cG, cL, cM, cN, cP, cW, cT, cQ⟩ := u
  obtain ⟨yA, yB, yF, yO, yS, yW, yP⟩ := v
  have I' := i_up I
  obtain ⟨a, a', b, e, P, h, g⟩ := I
  dsimp only at h g
  unfold wpX_after wpY_after
  dsimp only
  rcases fx_ix3 v1 (n := 2) (by omega) with bad | ⟨m, hm, rfl⟩
  · exact fx_bel_f (n := 2) bad (fy_machine_f bad (br_t rfl ⟨rfl, I'⟩))
  refine fx_bel_t 2 hm (by omega) ?_
  rcases fx_wordx v2 with bad | ⟨w, h1, h2, rfl⟩
  · exact fx_isWord_f bad (br_t rfl (fy_machine_t hm (br_f fx_n1 (fy_isWord_f bad (br_t rfl ⟨rfl, I'⟩)))))
  exact fx_isWord_t h1 h2 (br_f fx_n1 (fx_statesAfter P h hm h1 (by omega) (fy_machine_t hm (br_f fx_n1 (fy_isWord_t h1 h2 (br_f fx_n1 (fy_reached P g hm h1 (by omega) ⟨rfl, I'⟩)))))))
theorem i_vc_size {k : Nat} {u : SX} {v : SY} (I : i_Rel k u v) (hk : k + 5 ≤ 2560) (v1 : Int32) (v2 : Int32) : wpX_size (fun r u' => wpY_size (fun r' v' => r' = r ∧ i_Rel (k + 5) u' v') v v1 v2) u v1 v2 := by
  obtain ⟨aO, aB, aS, aE, cC, cF, cS, cA, cG, cL, cM, cN, cP, cW, cT, cQ⟩ := u
  obtain ⟨yA, yB, yF, yO, yS, yW, yP⟩ := v
  obtain ⟨a, a', b, e, P, h, g⟩ := I
  dsimp only at h g
  unfold wpX_size
  dsimp only
  rcases fx_ix3 v1 (n := 4) (by omega) with bad | ⟨n, hn, rfl⟩
  · unfold wpY_size
    dsimp only
    exact fx_bel_f (n := 4) bad (fy_engine_f 3 (by omega) bad (br_t rfl ⟨rfl, fz_r P h g⟩))
  refine fx_bel_t 4 hn (by omega) ?_
  rcases fx_ix3 v2 (n := 2) (by omega) with bad | ⟨m, hm, rfl⟩
  · unfold wpY_size
    dsimp only
    exact fx_bel_f (n := 2) bad (fy_engine_t 3 (by omega) (by omega) (br_f fx_n1 (fy_machine_f bad (br_t rfl ⟨rfl, fz_r P h g⟩))))
  exact fx_bel_t 2 hm (by omega) (fx_found P h hm hn (fun _ _ _ _ _ _ _ _ _ _ _ _ _ _ _ _ h' => fy_size P g hm hn (fun _ _ _ _ _ _ _ g' => ⟨rfl, fz_r P h' g'⟩)))
theorem i_vc_agree {k : Nat} {u : SX} {v : SY} (I : i_Rel k u v) (hk : k + 5 ≤ 2560) (v1 : Int32) (v2 : Int32) : wpX_agree (fun r u' => wpY_agree (fun r' => r' = r ∧ i_Rel (k + 5) u' v) v v1 v2) u v1 v2 := by
  obtain ⟨aO, aB, aS, aE, cC, cF, cS, cA, cG, cL, cM, cN, cP, cW, cT, cQ⟩ := u
  obtain ⟨yA, yB, yF, yO, yS, yW, yP⟩ := v
  obtain ⟨a, a', b, e, P, h, g⟩ := I
  dsimp only at h g
  unfold wpX_agree wpY_agree
  dsimp only
  rcases fx_ix3 v1 (n := 4) (by omega) with bad | ⟨n, hn, rfl⟩
  · exact fx_bel_f (n := 4) bad (fy_engine_f 3 (by omega) bad (br_t rfl ⟨rfl, fz_r P h g⟩))
  refine fx_bel_t 4 hn (by omega) ?_
  rcases fx_ix3 v2 (n := 4) (by omega) with bad | ⟨n', hn', rfl⟩
  · exact fx_bel_f (n := 4) bad (fy_engine_t 3 (by omega) (by omega) (br_f fx_n1 (fy_engine_f 3 (by omega) bad (br_t rfl ⟨rfl, fz_r P h g⟩))))
  exact fx_bel_t 4 hn' (by omega) (fx_agree P h hn hn' (fun _ _ _ _ _ _ _ _ _ _ _ _ _ _ _ _ h' => fy_engine_t 3 (by omega) (by omega) (br_f fx_n1 (fy_engine_t 3 (by omega) (by omega) (br_f fx_n1 ⟨rfl, fz_r P h' g⟩)))))
theorem i_vc_equal {k : Nat} {u : SX} {v : SY} (I : i_Rel k u v) (hk : k + 5 ≤ 2560) (v1 : Int32) : wpX_equal (fun r u' => wpY_equal (fun r' v' => r' = r ∧ i_Rel (k + 5) u' v') v v1) u v1 := by
  obtain ⟨aO, aB, aS, aE, cC, cF, cS, cA, cG, cL, cM, cN, cP, cW, cT, cQ⟩ := u
  obtain ⟨yA, yB, yF, yO, yS, yW, yP⟩ := v
  obtain ⟨a, a', b, e, P, h, g⟩ := I
  dsimp only at h g
  have hb0 := P.2.2.2.1 0 (by omega)
  have hb1 := P.2.2.2.1 1 (by omega)
  rcases fx_ix3 v1 (n := 3) (by omega) with bad | ⟨n, hn, rfl⟩
  · unfold wpX_equal wpY_equal
    dsimp only
    exact fx_bel_f (n := 3) bad (fy_engine_f 2 (by omega) bad (br_t rfl ⟨rfl, fz_r P h g⟩))
  · unfold wpY_equal
    dsimp only
    refine fx_equal P h hn (fun q _ _ _ _ _ _ _ _ _ _ _ _ _ _ _ _ h' => ?_) (fun q _ _ _ _ _ _ _ _ _ _ _ _ _ _ _ _ h' => ?_)
    · refine fy_engine_t 2 (by omega) (by omega) (br_f fx_n1 (fy_search (k := 2) P g (by omega) (fun F j hF hj hs _ => ?_) (fun _ yO' yS' yW' => br_f (by decide) ⟨rfl, fz_r P h' g⟩)))
      exact absurd ⟨F, j, hF, hj, hs⟩ ((fi_C_2 P.1 hb0 hb1).mpr q)
    · refine fy_engine_t 2 (by omega) (by omega) (br_f fx_n1 (fy_search (k := 2) P g (by omega) (fun F j hF hj hs _ yO' yS' yW' _ => br_t (nI_pos' (by have := hF.1; omega)) ⟨rfl, fz_r P h' g⟩) (fun hn => ?_)))
      exact absurd ((fi_C_2 P.1 hb0 hb1).mp hn) q
theorem i_vc_covers {k : Nat} {u : SX} {v : SY} (I : i_Rel k u v) (hk : k + 5 ≤ 2560) (v1 : Int32) : wpX_covers (fun r u' => wpY_covers (fun r' v' => r' = r ∧ i_Rel (k + 5) u' v') v v1) u v1 := by
  obtain ⟨aO, aB, aS, aE, cC, cF, cS, cA, cG, cL, cM, cN, cP, cW, cT, cQ⟩ := u
  obtain ⟨yA, yB, yF, yO, yS, yW, yP⟩ := v
  obtain ⟨a, a', b, e, P, h, g⟩ := I
  dsimp only at h g
  rcases fx_ix3 v1 (n := 2) (by omega) with bad | ⟨m, hm, rfl⟩
  · unfold wpX_covers wpY_covers
    dsimp only
    exact fx_bel_f (n := 2) bad (fy_machine_f bad (br_t rfl ⟨rfl, fz_r P h g⟩))
  · unfold wpY_covers
    dsimp only
    refine fx_covers P h hm (fun q _ _ _ _ _ _ _ _ _ _ _ _ _ _ _ _ h' => ?_) (fun q _ _ _ _ _ _ _ _ _ _ _ _ _ _ _ _ h' => ?_)
    · refine fy_machine_t hm (br_f fx_n1 (fy_search P g (by omega) (fun F j hF hj hs _ => ?_) (fun _ yO' yS' yW' => br_f (by decide) ⟨rfl, fz_r P h' g⟩)))
      exact absurd ⟨F, j, hF, hj, hs⟩ q
    · refine fy_machine_t hm (br_f fx_n1 (fy_search P g (by omega) (fun F j hF hj hs _ yO' yS' yW' _ => br_t (nI_pos' (by have := hF.1; omega)) ⟨rfl, fz_r P h' g⟩) (fun hn => ?_)))
      exact absurd q hn
theorem i_vc_count {k : Nat} {u : SX} {v : SY} (I : i_Rel k u v) (hk : k + 5 ≤ 2560) (v1 : Int32) (v2 : Int32) : wpX_count (fun r => wpY_count (fun r' => r' = r ∧ i_Rel (k + 5) u v) v v1 v2) u v1 v2 := by
  obtain ⟨aO, aB, aS, aE, cC, cF, cS, cA, cG, cL, cM, cN, cP, cW, cT, cQ⟩ := u
  obtain ⟨yA, yB, yF, yO, yS, yW, yP⟩ := v
  have I' := i_up I
  obtain ⟨a, a', b, e, P, h, g⟩ := I
  dsimp only at h g
  unfold wpX_count wpY_count
  dsimp only
  rcases fx_ix3 v1 (n := 2) (by omega) with bad | ⟨m, hm, rfl⟩
  · exact fx_bel_f (n := 2) bad (fy_machine_f bad (br_t rfl ⟨rfl, I'⟩))
  refine fx_bel_t 2 hm (by omega) ?_
  rcases fx_ix3 v2 (n := 13) (by omega) with bad | ⟨n, hn, rfl⟩
  · refine fx_bel_f (n := 13) bad (fy_machine_t hm (br_f fx_n1 ?_))
    rcases bad with q | q
    · exact br_t q ⟨rfl, I'⟩
    · by_cases q0 : v2 < 0
      · exact br_t q0 ⟨rfl, I'⟩
      · exact br_f q0 (br_f (fun w => Int32.not_le.mpr (Int32.lt_of_lt_of_le (by decide : (12 : Int32) < nI 13) q) w) ⟨rfl, I'⟩)
  have hp2 : 2 ^ n ≤ 2 ^ 12 := Nat.pow_le_pow_right (by omega) (by omega)
  have hp1 : 1 ≤ 2 ^ n := Nat.two_pow_pos n
  have e2 : (2 : Int32) <<< (nI n &&& 31) = nI (2 * 2 ^ n) := pk_shlN (n := 2) (nI n &&& 31) n (s_l n (by omega)) (by omega)
  refine fx_bel_t 13 hn (by omega) ?_
  rw [fj_one (by omega), e2]
  refine fx_between P h hm (by omega) hp1 (by omega) ?_
  refine fy_machine_t hm (br_f fx_n1 (br_f (nI_pos (by omega)) (pk_le n 12 (fun _ => nm_e ⟨2 ^ n + 1, ?_⟩) (fun q => absurd q (by omega)))))
  refine fy_count_go P g hm (by omega) (2 ^ n) (2 ^ n) 0 hp1 (by omega) ?_
  rw [Nat.zero_add, show 2 * 2 ^ n - 2 ^ n = 2 ^ n by omega]
  exact ⟨rfl, I'⟩
theorem fz_least {a a' b e : Nat → Nat} {m : Nat} (P : fx_P a a' b e) (hm : m < 2) (hn : ∀ w, 1 ≤ w → w < 32 → ¬ fx_acc a b e m w) : ∀ w, 1 ≤ w → w < 64 → ¬ fx_acc a b e m w := by
  intro w h1 h2
  by_cases q : w < 32
  · exact hn w h1 q
  · exact fb_short (ff_B P.1 hm (by omega)) (ff_B P.1 hm (by omega)) (P.2.2.2.1 m hm) hn w (by omega) h2
theorem i_vc_least {k : Nat} {u : SX} {v : SY} (I : i_Rel k u v) (hk : k + 5 ≤ 2560) (v1 : Int32) : wpX_least (fun r => wpY_least (fun r' => r' = r ∧ i_Rel (k + 5) u v) v v1) u v1 := by
  obtain ⟨aO, aB, aS, aE, cC, cF, cS, cA, cG, cL, cM, cN, cP, cW, cT, cQ⟩ := u
  obtain ⟨yA, yB, yF, yO, yS, yW, yP⟩ := v
  have I' := i_up I
  obtain ⟨a, a', b, e, P, h, g⟩ := I
  dsimp only at h g
  unfold wpX_least wpY_least
  dsimp only
  rcases fx_ix3 v1 (n := 2) (by omega) with bad | ⟨m, hm, rfl⟩
  · exact fx_bel_f (n := 2) bad (fy_machine_f bad (br_t rfl ⟨rfl, I'⟩))
  refine fx_bel_t 2 hm (by omega) ⟨32, fx_least_go P h hm (fun w h1 h2 hacc hno => ?_) (fun hno => ?_) 31 1 rfl (Nat.le_refl _) (fun v hv1 hv => by omega)⟩
  · refine fy_machine_t hm (br_f fx_n1 ⟨64, fy_least_go P g hm (fun w' g1 g2 gacc gno => ⟨?_, I'⟩) (fun gno => absurd hacc (gno w h1 (by omega))) 63 1 rfl (Nat.le_refl _) (fun v hv1 hv => by omega)⟩)
    rcases Nat.lt_trichotomy w w' with q | q | q
    · exact absurd hacc (gno w h1 q)
    · rw [q]
    · exact absurd gacc (hno w' g1 q)
  · exact fy_machine_t hm (br_f fx_n1 ⟨64, fy_least_go P g hm (fun w' g1 g2 gacc gno => absurd gacc (fz_least P hm hno w' g1 g2)) (fun gno => ⟨rfl, I'⟩) 63 1 rfl (Nat.le_refl _) (fun v hv1 hv => by omega)⟩)
theorem i_vc_difference {k : Nat} {u : SX} {v : SY} (I : i_Rel k u v) (hk : k + 5 ≤ 2560) : wpX_difference (fun r u' => wpY_difference (fun r' v' => r' = r ∧ i_Rel (k + 5) u' v') v) u := by
  obtain ⟨aO, aB, aS, aE, cC, cF, cS, cA, cG, cL, cM, cN, cP, cW, cT, cQ⟩ := u
  obtain ⟨yA, yB, yF, yO, yS, yW, yP⟩ := v
  obtain ⟨a, a', b, e, P, h, g⟩ := I
  dsimp only at h g
  have hb0 := P.2.2.2.1 0 (by omega)
  have hb1 := P.2.2.2.1 1 (by omega)
  unfold wpY_difference
  dsimp only
  refine fx_diff P h (fun r hr _ _ _ _ _ _ _ _ _ _ _ _ _ _ _ _ h' => ?_)
  refine fy_search (k := 2) P g (by omega) (fun F j hF hj hs hn yO' yS' yW' hy => ?_) (fun hn yO' yS' yW' => br_f (by decide) ⟨?_, fz_r P h' g⟩)
  · obtain ⟨y, ey, hw⟩ := hy
    have hF1 := hF.1
    have J0 := fd_J_bf (fx_q_lt P) (fi_s_lt P.1) F hF.2.2
    have hj' : j < (fd_bf (fi_s a) (fi_q b) F).1 := by rw [hF.2.1]; exact hj
    obtain ⟨w1, w2, _⟩ := J0.2.2.2.1 j hj'
    have hne : (fd_bf (fi_s a) (fi_q b) F).2.2.1 j ≠ 2 ^ 30 := by
      intro z
      exact hs (fi_30 P.1 hb0 hb1 J0 hj' z (fun i hi => Classical.byContradiction fun w => hn i hi w))
    have hd := fk_w_d hw w1 w2 hne
    have hylt := hw.2.2
    have hin : vp_in (nI j) 1024 := vp_in_nI (by omega) (by omega)
    dsimp only
    refine br_t (nI_pos' (by omega)) ⟨hin, ?_⟩
    rw [nI_clamp (by omega), ey]
    refine br_c (fun z => ⟨hin, ?_⟩) (fun z => ⟨?_, fz_r P h' g⟩)
    · have z' : y ≤ 1073741824 := (pk_lLE (a := y) (b := 1073741824) (by omega) (by omega)).mp z
      have hL : (fd_bf (fi_s a) (fi_q b) F).2.2.2 j ≤ 29 := by
        apply Classical.byContradiction
        intro w
        have := hd.2 (by omega)
        omega
      refine ⟨?_, fz_r P h' g⟩
      rw [lN_i, (hd.1 hL).1]
      exact fi_D_un P.1 hb0 hb1 hr (Or.inr ⟨F, j, hF, hj, hs, hn, Or.inl ⟨hL, rfl⟩⟩)
    · have z' : 1073741824 < y := by
        apply Classical.byContradiction
        intro w
        exact z ((pk_lLE (a := y) (b := 1073741824) (by omega) (by omega)).mpr (by omega))
      have hL : 29 < (fd_bf (fi_s a) (fi_q b) F).2.2.2 j := by
        apply Classical.byContradiction
        intro w
        have := (hd.1 (by omega)).2
        omega
      exact fi_D_un P.1 hb0 hb1 hr (Or.inr ⟨F, j, hF, hj, hs, hn, Or.inr ⟨hL, rfl⟩⟩)
  · exact fi_D_un P.1 hb0 hb1 hr (Or.inl ⟨(fi_C_2 P.1 hb0 hb1).mp hn, rfl⟩)
theorem i_vc_rank {k : Nat} {u : SX} {v : SY} (I : i_Rel k u v) (hk : k + 5 ≤ 2560) (v1 : Int32) (v2 : Int32) : wpX_rank (fun r => wpY_rank (fun r' => r' = r ∧ i_Rel (k + 5) u v) v v1 v2) u v1 v2 := by
  obtain ⟨aO, aB, aS, aE, cC, cF, cS, cA, cG, cL, cM, cN, cP, cW, cT, cQ⟩ := u
  obtain ⟨yA, yB, yF, yO, yS, yW, yP⟩ := v
  have I' := i_up I
  obtain ⟨a, a', b, e, P, h, g⟩ := I
  dsimp only at h g
  unfold wpX_rank wpY_rank
  dsimp only
  rcases fx_ix3 v1 (n := 2) (by omega) with bad | ⟨m, hm, rfl⟩
  · exact fx_bel_f (n := 2) bad (fy_machine_f bad (br_t rfl ⟨rfl, I'⟩))
  refine fx_bel_t 2 hm (by omega) ?_
  rcases fx_wordx v2 with bad | ⟨w, h1, h2, rfl⟩
  · exact fx_isWord_f bad (br_t rfl (fy_machine_t hm (br_f fx_n1 (fy_isWord_f bad (br_t rfl ⟨rfl, I'⟩)))))
  refine fx_isWord_t h1 h2 (br_f fx_n1 (fx_between (w := 1) P h hm (by omega) (Nat.le_refl _) h1 ?_))
  refine fy_machine_t hm (br_f fx_n1 (fy_isWord_t h1 h2 (br_f fx_n1 ⟨w - 1 + 1, fy_rank_go P g hm (by omega) (w - 1) 1 0 (Nat.le_refl _) (by omega) ?_⟩)))
  rw [Nat.zero_add]
  exact ⟨rfl, I'⟩
theorem i_vc_endless {k : Nat} {u : SX} {v : SY} (I : i_Rel k u v) (hk : k + 5 ≤ 2560) (v1 : Int32) : wpX_endless (fun r => wpY_endless (fun r' => r' = r ∧ i_Rel (k + 5) u v) v v1) u v1 := by
  obtain ⟨aO, aB, aS, aE, cC, cF, cS, cA, cG, cL, cM, cN, cP, cW, cT, cQ⟩ := u
  obtain ⟨yA, yB, yF, yO, yS, yW, yP⟩ := v
  have I' := i_up I
  obtain ⟨a, a', b, e, P, h, g⟩ := I
  dsimp only at h g
  unfold wpX_endless
  dsimp only
  rcases fx_ix3 v1 (n := 2) (by omega) with bad | ⟨m, hm, rfl⟩
  · exact fx_bel_f (n := 2) bad (fy_endless_f bad ⟨rfl, I'⟩)
  refine fx_bel_t 2 hm (by omega) (fx_live P h hm ⟨6, fx_endless_go P h hm (fx_tv_m (fun q => ?_) (fun q => ?_)) 5 0 rfl (fun t ht => absurd ht (Nat.not_lt_zero _))⟩)
  · exact ⟨6, fy_endless_go P g hm (fx_tv_m (fun _ => ⟨rfl, I'⟩) (fun q' => absurd q q')) 5 0 0 rfl (Or.inr ⟨rfl, fun ⟨t, ht, _⟩ => absurd ht (Nat.not_lt_zero _)⟩)⟩
  · exact ⟨6, fy_endless_go P g hm (fx_tv_m (fun q' => absurd q' q) (fun _ => ⟨rfl, I'⟩)) 5 0 0 rfl (Or.inr ⟨rfl, fun ⟨t, ht, _⟩ => absurd ht (Nat.not_lt_zero _)⟩)⟩
theorem i_vc_live {k : Nat} {u : SX} {v : SY} (I : i_Rel k u v) (hk : k + 5 ≤ 2560) (v1 : Int32) : wpX_live (fun r => wpY_live (fun r' => r' = r ∧ i_Rel (k + 5) u v) v v1) u v1 := by
  obtain ⟨aO, aB, aS, aE, cC, cF, cS, cA, cG, cL, cM, cN, cP, cW, cT, cQ⟩ := u
  obtain ⟨yA, yB, yF, yO, yS, yW, yP⟩ := v
  have I' := i_up I
  obtain ⟨a, a', b, e, P, h, g⟩ := I
  dsimp only at h g
  unfold wpX_live
  dsimp only
  rcases fx_ix3 v1 (n := 2) (by omega) with bad | ⟨m, hm, rfl⟩
  · unfold wpY_live
    dsimp only
    exact fx_bel_f (n := 2) bad (fy_machine_f bad (br_t rfl ⟨rfl, I'⟩))
  exact fx_bel_t 2 hm (by omega) (fx_live P h hm (fy_live P g hm ⟨rfl, I'⟩))
end
