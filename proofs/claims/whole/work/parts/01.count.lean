/-! counting below a bound, chains that stand still, deterministic machines -/
noncomputable def fa_fl (p : Nat → Prop) : Nat → List Nat
  | 0 => []
  | n + 1 => @ite (List Nat) (p n) (Classical.propDecidable (p n)) (n :: fa_fl p n) (fa_fl p n)
noncomputable def fa_ct (p : Nat → Prop) (n : Nat) : Nat := (fa_fl p n).length
theorem fa_fl_t {p : Nat → Prop} {n : Nat} (h : p n) : fa_fl p (n + 1) = n :: fa_fl p n := by
  show @ite (List Nat) (p n) (Classical.propDecidable (p n)) _ _ = _
  exact if_pos h
theorem fa_fl_f {p : Nat → Prop} {n : Nat} (h : ¬ p n) : fa_fl p (n + 1) = fa_fl p n := by
  show @ite (List Nat) (p n) (Classical.propDecidable (p n)) _ _ = _
  exact if_neg h
theorem fa_fl_mem {p : Nat → Prop} : ∀ (n i : Nat), i ∈ fa_fl p n ↔ i < n ∧ p i := by
  intro n
  induction n with
  | zero => intro i; simp [fa_fl]
  | succ n ih =>
    intro i
    by_cases h : p n
    · rw [fa_fl_t h, List.mem_cons, ih]
      constructor
      · intro hi
        rcases hi with hi | hi
        · subst hi; exact ⟨Nat.lt_succ_self _, h⟩
        · exact ⟨Nat.lt_succ_of_lt hi.1, hi.2⟩
      · intro hi
        by_cases e : i = n
        · exact Or.inl e
        · exact Or.inr ⟨by omega, hi.2⟩
    · rw [fa_fl_f h, ih]
      constructor
      · intro hi; exact ⟨Nat.lt_succ_of_lt hi.1, hi.2⟩
      · intro hi
        have e : i ≠ n := fun e => h (e ▸ hi.2)
        exact ⟨by omega, hi.2⟩
theorem fa_fl_nd {p : Nat → Prop} : ∀ n : Nat, (fa_fl p n).Nodup := by
  intro n
  induction n with
  | zero => exact List.Pairwise.nil
  | succ n ih =>
    by_cases h : p n
    · rw [fa_fl_t h, List.nodup_cons]
      exact ⟨fun hm => Nat.lt_irrefl _ ((fa_fl_mem n n).mp hm).1, ih⟩
    · rw [fa_fl_f h]; exact ih
theorem fa_nd_map {α β : Type} (g : α → β) : ∀ l : List α, (∀ x, x ∈ l → ∀ y, y ∈ l → g x = g y → x = y) → l.Nodup → (l.map g).Nodup := by
  intro l
  induction l with
  | nil => intro _ _; exact List.Pairwise.nil
  | cons a l ih =>
    intro hi hn
    rw [List.nodup_cons] at hn
    rw [List.map_cons, List.nodup_cons]
    refine ⟨fun hm => ?_, ih (fun x hx y hy => hi x (List.mem_cons_of_mem _ hx) y (List.mem_cons_of_mem _ hy)) hn.2⟩
    obtain ⟨y, hy, e⟩ := List.mem_map.mp hm
    have := hi y (List.mem_cons_of_mem _ hy) a List.mem_cons_self e
    exact hn.1 (this ▸ hy)
theorem fa_ct_t {p : Nat → Prop} {n : Nat} (h : p n) : fa_ct p (n + 1) = fa_ct p n + 1 := by
  unfold fa_ct; rw [fa_fl_t h]; rfl
theorem fa_ct_f {p : Nat → Prop} {n : Nat} (h : ¬ p n) : fa_ct p (n + 1) = fa_ct p n := by
  unfold fa_ct; rw [fa_fl_f h]
theorem fa_ct_0 {p : Nat → Prop} : fa_ct p 0 = 0 := rfl
theorem fa_ct_bd {p : Nat → Prop} : ∀ n : Nat, fa_ct p n ≤ n := by
  intro n
  induction n with
  | zero => exact Nat.le_refl _
  | succ n ih =>
    by_cases h : p n
    · rw [fa_ct_t h]; omega
    · rw [fa_ct_f h]; omega
theorem fa_ct_le {p q : Nat → Prop} : ∀ n : Nat, (∀ i, i < n → p i → q i) → fa_ct p n ≤ fa_ct q n := by
  intro n
  induction n with
  | zero => intro _; exact Nat.le_refl _
  | succ n ih =>
    intro h
    have ih' := ih (fun i hi => h i (by omega))
    by_cases hp : p n
    · rw [fa_ct_t hp, fa_ct_t (h n (by omega) hp)]; omega
    · rw [fa_ct_f hp]
      by_cases hq : q n
      · rw [fa_ct_t hq]; omega
      · rw [fa_ct_f hq]; omega
theorem fa_ct_lt {p q : Nat → Prop} : ∀ n : Nat, (∀ i, i < n → p i → q i) → ∀ j, j < n → q j → ¬ p j → fa_ct p n < fa_ct q n := by
  intro n
  induction n with
  | zero => intro _ j hj; omega
  | succ n ih =>
    intro h j hj hq hp
    have le' := fa_ct_le (p := p) (q := q) n (fun i hi => h i (by omega))
    by_cases e : j = n
    · subst e
      rw [fa_ct_t hq, fa_ct_f hp]; omega
    · have ih' := ih (fun i hi => h i (by omega)) j (by omega) hq hp
      by_cases hp' : p n
      · rw [fa_ct_t hp', fa_ct_t (h n (by omega) hp')]; omega
      · rw [fa_ct_f hp']
        by_cases hq' : q n
        · rw [fa_ct_t hq']; omega
        · rw [fa_ct_f hq']; omega
theorem fa_ct_eq {p q : Nat → Prop} {n : Nat} (h : ∀ i, i < n → p i → q i) (e : fa_ct p n = fa_ct q n) : ∀ i, i < n → q i → p i := by
  intro i hi hq
  apply Classical.byContradiction
  intro hp
  have := fa_ct_lt n h i hi hq hp
  omega
theorem fa_ct_congr {p q : Nat → Prop} {n : Nat} (h : ∀ i, i < n → (p i ↔ q i)) : fa_ct p n = fa_ct q n :=
  Nat.le_antisymm (fa_ct_le n (fun i hi => (h i hi).mp)) (fa_ct_le n (fun i hi => (h i hi).mpr))
theorem fa_ct_pos {p : Nat → Prop} {n i : Nat} (hi : i < n) (h : p i) : 1 ≤ fa_ct p n := by
  have hm : i ∈ fa_fl p n := (fa_fl_mem n i).mpr ⟨hi, h⟩
  unfold fa_ct
  exact List.length_pos_of_mem hm
/-- a chain of growing sets below N, each given by the one ahead of it, stands still -/
theorem fa_chain {N c : Nat} (p : Nat → Nat → Prop) (mono : ∀ k i, i < N → p k i → p (k + 1) i)
    (st : ∀ k, (∀ i, i < N → p (k + 1) i → p k i) → (∀ i, i < N → p (k + 2) i → p (k + 1) i))
    (h0 : c ≤ fa_ct (p 0) N) : ∀ k, N ≤ c + k → ∀ i, i < N → p (k + 1) i → p k i := by
  have key : ∀ k, (∀ i, i < N → p (k + 1) i → p k i) ∨ c + k + 1 ≤ fa_ct (p (k + 1)) N := by
    intro k
    induction k with
    | zero =>
      by_cases h : ∀ i, i < N → p (0 + 1) i → p 0 i
      · exact Or.inl h
      · right
        have : ∃ i, i < N ∧ p (0 + 1) i ∧ ¬ p 0 i := by
          apply Classical.byContradiction
          intro hn
          exact h (fun i hi h1 => Classical.byContradiction fun h2 => hn ⟨i, hi, h1, h2⟩)
        obtain ⟨i, hi, h1, h2⟩ := this
        have := fa_ct_lt N (mono 0) i hi h1 h2
        omega
    | succ k ih =>
      rcases ih with ih | ih
      · exact Or.inl (st k ih)
      · by_cases h : ∀ i, i < N → p (k + 1 + 1) i → p (k + 1) i
        · exact Or.inl h
        · right
          have : ∃ i, i < N ∧ p (k + 1 + 1) i ∧ ¬ p (k + 1) i := by
            apply Classical.byContradiction
            intro hn
            exact h (fun i hi h1 => Classical.byContradiction fun h2 => hn ⟨i, hi, h1, h2⟩)
          obtain ⟨i, hi, h1, h2⟩ := this
          have := fa_ct_lt N (mono (k + 1)) i hi h1 h2
          omega
  intro k hk i hi h
  rcases key k with h1 | h1
  · exact h1 i hi h
  · have := fa_ct_bd (p := p (k + 1)) N
    omega
theorem fa_chain_far {N c : Nat} (p : Nat → Nat → Prop) (mono : ∀ k i, i < N → p k i → p (k + 1) i)
    (st : ∀ k, (∀ i, i < N → p (k + 1) i → p k i) → (∀ i, i < N → p (k + 2) i → p (k + 1) i))
    (h0 : c ≤ fa_ct (p 0) N) (k : Nat) (hk : N ≤ c + k) : ∀ j i, i < N → p (k + j) i → p k i := by
  intro j
  induction j with
  | zero => intro i _ h; exact h
  | succ j ih =>
    intro i hi h
    exact ih i hi (fa_chain p mono st h0 (k + j) (by omega) i hi h)
theorem fa_mono_far {N : Nat} (p : Nat → Nat → Prop) (mono : ∀ k i, i < N → p k i → p (k + 1) i) :
    ∀ j k i, i < N → p k i → p (k + j) i := by
  intro j
  induction j with
  | zero => intro k i _ h; exact h
  | succ j ih => intro k i hi h; exact mono (k + j) i hi (ih k i hi h)
theorem fa_least {P : Nat → Prop} {n : Nat} (h : P n) : ∃ k, k ≤ n ∧ P k ∧ ∀ j, j < k → ¬ P j := by
  induction n using Nat.strongRecOn with
  | _ n ih =>
    by_cases hx : ∃ j, j < n ∧ P j
    · obtain ⟨j, hj, hp⟩ := hx
      obtain ⟨k, hk, hr⟩ := ih j hj hp
      exact ⟨k, by omega, hr⟩
    · exact ⟨n, Nat.le_refl _, h, fun j hj hp => hx ⟨j, hj, hp⟩⟩
/-- like k: no word of at most k letters tells the two apart -/
def fa_E (d : Nat → Nat → Nat) (f : Nat → Prop) : Nat → Nat → Nat → Prop
  | 0, x, y => (f x ↔ f y)
  | k + 1, x, y => fa_E d f k x y ∧ fa_E d f k (d x 0) (d y 0) ∧ fa_E d f k (d x 1) (d y 1)
def fa_I (d : Nat → Nat → Nat) (f : Nat → Prop) (x y : Nat) : Prop := ∀ k, fa_E d f k x y
section
variable {d : Nat → Nat → Nat} {f : Nat → Prop}
theorem fa_E_rf : ∀ k x, fa_E d f k x x := by
  intro k
  induction k with
  | zero => intro x; exact Iff.rfl
  | succ k ih => intro x; exact ⟨ih _, ih _, ih _⟩
theorem fa_E_sm : ∀ k x y, fa_E d f k x y → fa_E d f k y x := by
  intro k
  induction k with
  | zero => intro x y h; exact Iff.symm h
  | succ k ih => intro x y h; exact ⟨ih _ _ h.1, ih _ _ h.2.1, ih _ _ h.2.2⟩
theorem fa_E_tr : ∀ k x y z, fa_E d f k x y → fa_E d f k y z → fa_E d f k x z := by
  intro k
  induction k with
  | zero => intro x y z h g; exact Iff.trans h g
  | succ k ih => intro x y z h g; exact ⟨ih _ _ _ h.1 g.1, ih _ _ _ h.2.1 g.2.1, ih _ _ _ h.2.2 g.2.2⟩
theorem fa_E_dn : ∀ j k x y, fa_E d f (k + j) x y → fa_E d f k x y := by
  intro j
  induction j with
  | zero => intro k x y h; exact h
  | succ j ih => intro k x y h; exact ih k x y h.1
theorem fa_I_rf (x : Nat) : fa_I d f x x := fun k => fa_E_rf k x
theorem fa_I_sm {x y : Nat} (h : fa_I d f x y) : fa_I d f y x := fun k => fa_E_sm k _ _ (h k)
theorem fa_I_tr {x y z : Nat} (h : fa_I d f x y) (g : fa_I d f y z) : fa_I d f x z := fun k => fa_E_tr k _ _ _ (h k) (g k)
theorem fa_I_s0 {x y : Nat} (h : fa_I d f x y) : fa_I d f (d x 0) (d y 0) := fun k => (h (k + 1)).2.1
theorem fa_I_s1 {x y : Nat} (h : fa_I d f x y) : fa_I d f (d x 1) (d y 1) := fun k => (h (k + 1)).2.2
theorem fa_I_f {x y : Nat} (h : fa_I d f x y) : f x ↔ f y := h 0
/-- a relation that agrees on f and is kept by both letters lies in fa_I -/
theorem fa_I_of (Q : Nat → Nat → Prop) (hf : ∀ x y, Q x y → (f x ↔ f y)) (h0 : ∀ x y, Q x y → Q (d x 0) (d y 0)) (h1 : ∀ x y, Q x y → Q (d x 1) (d y 1)) :
    ∀ x y, Q x y → fa_I d f x y := by
  intro x y h k
  induction k generalizing x y with
  | zero => exact hf x y h
  | succ k ih => exact ⟨ih x y h, ih _ _ (h0 x y h), ih _ _ (h1 x y h)⟩
/-- the first of its kind -/
def fa_rep (d : Nat → Nat → Nat) (f : Nat → Prop) (k n : Nat) : Prop := ∀ i, i < n → ¬ fa_E d f k i n
theorem fa_rep_up {k n : Nat} (h : fa_rep d f k n) : fa_rep d f (k + 1) n := fun i hi e => h i hi e.1
theorem fa_rep_ex (k x : Nat) : ∃ y, y ≤ x ∧ fa_E d f k y x ∧ fa_rep d f k y := by
  obtain ⟨y, hy, he, hl⟩ := fa_least (P := fun y => fa_E d f k y x) (n := x) (fa_E_rf k x)
  exact ⟨y, hy, he, fun i hi e => hl i hi (fa_E_tr k _ _ _ e he)⟩
theorem fa_rep_un {k x y : Nat} (hx : fa_rep d f k x) (hy : fa_rep d f k y) (e : fa_E d f k x y) : x = y := by
  rcases Nat.lt_trichotomy x y with h | h | h
  · exact absurd e (hy x h)
  · exact h
  · exact absurd (fa_E_sm k _ _ e) (hx y h)
theorem fa_rep_E {N k : Nat} (h : ∀ i, i < N → fa_rep d f (k + 1) i → fa_rep d f k i) : ∀ x y, x < N → y < N → fa_E d f k x y → fa_E d f (k + 1) x y := by
  intro x y hx hy e
  obtain ⟨x', lx, ex, rx⟩ := fa_rep_ex (d := d) (f := f) (k + 1) x
  obtain ⟨y', ly, ey, ry⟩ := fa_rep_ex (d := d) (f := f) (k + 1) y
  have e1 : fa_E d f k x' y' := fa_E_tr k _ _ _ ex.1 (fa_E_tr k _ _ _ e (fa_E_sm k _ _ ey.1))
  have := fa_rep_un (h x' (by omega) rx) (h y' (by omega) ry) e1
  subst this
  exact fa_E_tr _ _ _ _ (fa_E_sm _ _ _ ex) ey
theorem fa_E_st {N k : Nat} (hc : ∀ x, x < N → d x 0 < N ∧ d x 1 < N) (h : ∀ x y, x < N → y < N → fa_E d f k x y → fa_E d f (k + 1) x y) :
    ∀ x y, x < N → y < N → fa_E d f (k + 1) x y → fa_E d f (k + 2) x y := by
  intro x y hx hy e
  exact ⟨e, h _ _ (hc x hx).1 (hc y hy).1 e.2.1, h _ _ (hc x hx).2 (hc y hy).2 e.2.2⟩
theorem fa_E_st2 {N k : Nat} (hc : ∀ x, x < N → d x 0 < N ∧ d x 1 < N) (h : ∀ x y, x < N → y < N → fa_E d f k x y → fa_E d f (k + 1) x y) :
    ∀ j x y, x < N → y < N → fa_E d f (k + j) x y → fa_E d f (k + j + 1) x y := by
  intro j
  induction j with
  | zero => exact h
  | succ j ih => exact fa_E_st hc ih
theorem fa_E_I {N k : Nat} (hc : ∀ x, x < N → d x 0 < N ∧ d x 1 < N) (h : ∀ x y, x < N → y < N → fa_E d f k x y → fa_E d f (k + 1) x y) :
    ∀ x y, x < N → y < N → fa_E d f k x y → fa_I d f x y := by
  intro x y hx hy e j
  by_cases hj : j ≤ k
  · obtain ⟨t, rfl⟩ := Nat.exists_eq_add_of_le hj
    exact fa_E_dn t j x y e
  · obtain ⟨t, rfl⟩ := Nat.exists_eq_add_of_le (Nat.le_of_lt (Nat.lt_of_not_le hj))
    clear hj
    induction t with
    | zero => exact e
    | succ t ih => exact fa_E_st2 hc h t x y hx hy ih
/-- counts of kinds alike: nothing more is told apart -/
theorem fa_E_ct {N k : Nat} (hc : ∀ x, x < N → d x 0 < N ∧ d x 1 < N) (h : fa_ct (fa_rep d f k) N = fa_ct (fa_rep d f (k + 1)) N) :
    ∀ x y, x < N → y < N → fa_E d f k x y → fa_I d f x y :=
  fa_E_I hc (fa_rep_E (fa_ct_eq (fun _ _ => fa_rep_up) h))
theorem fa_E_big {N : Nat} (hN : 0 < N) (hc : ∀ x, x < N → d x 0 < N ∧ d x 1 < N) (k : Nat) (hk : N ≤ k + 1) :
    ∀ x y, x < N → y < N → fa_E d f k x y → fa_I d f x y := by
  refine fa_E_I hc (fa_rep_E (fa_chain (N := N) (c := 1) (fa_rep d f) (fun k i _ => fa_rep_up) ?_ ?_ k (by omega)))
  · intro k h i hi hr i' hi' e
    exact hr i' hi' (fa_E_st hc (fa_rep_E h) i' i (by omega) hi e)
  · exact fa_ct_pos hN (fun i hi => absurd hi (Nat.not_lt_zero _))
end
/-- reached by at most k letters -/
def fa_rk (d : Nat → Nat → Nat) (b : Nat) : Nat → Nat → Prop
  | 0, s => s = b
  | k + 1, s => fa_rk d b k s ∨ ∃ t, fa_rk d b k t ∧ (s = d t 0 ∨ s = d t 1)
def fa_R (d : Nat → Nat → Nat) (b s : Nat) : Prop := ∃ k, fa_rk d b k s
section
variable {d : Nat → Nat → Nat} {b N : Nat}
theorem fa_rk_lt (hc : ∀ x, x < N → d x 0 < N ∧ d x 1 < N) (hb : b < N) : ∀ k s, fa_rk d b k s → s < N := by
  intro k
  induction k with
  | zero => intro s h; exact h ▸ hb
  | succ k ih =>
    intro s h
    rcases h with h | ⟨t, ht, h | h⟩
    · exact ih s h
    · exact h ▸ (hc t (ih t ht)).1
    · exact h ▸ (hc t (ih t ht)).2
theorem fa_R_lt (hc : ∀ x, x < N → d x 0 < N ∧ d x 1 < N) (hb : b < N) {s : Nat} (h : fa_R d b s) : s < N := by
  obtain ⟨k, h⟩ := h
  exact fa_rk_lt hc hb k s h
theorem fa_R_b : fa_R d b b := ⟨0, rfl⟩
theorem fa_R_0 {s : Nat} (h : fa_R d b s) : fa_R d b (d s 0) := by
  obtain ⟨k, h⟩ := h
  exact ⟨k + 1, Or.inr ⟨s, h, Or.inl rfl⟩⟩
theorem fa_R_1 {s : Nat} (h : fa_R d b s) : fa_R d b (d s 1) := by
  obtain ⟨k, h⟩ := h
  exact ⟨k + 1, Or.inr ⟨s, h, Or.inr rfl⟩⟩
theorem fa_R_of (Q : Nat → Prop) (hb : Q b) (h0 : ∀ s, Q s → Q (d s 0)) (h1 : ∀ s, Q s → Q (d s 1)) : ∀ s, fa_R d b s → Q s := by
  intro s ⟨k, h⟩
  induction k generalizing s with
  | zero => exact h ▸ hb
  | succ k ih =>
    rcases h with h | ⟨t, ht, h | h⟩
    · exact ih s h
    · exact h ▸ h0 t (ih t ht)
    · exact h ▸ h1 t (ih t ht)
theorem fa_R_big (hc : ∀ x, x < N → d x 0 < N ∧ d x 1 < N) (hb : b < N) (k : Nat) (hk : N ≤ k + 1) {s : Nat} (h : fa_R d b s) : fa_rk d b k s := by
  have hs := fa_R_lt hc hb h
  obtain ⟨j, h⟩ := h
  have h2 : fa_rk d b (k + j) s := by
    have := fa_mono_far (N := N) (fa_rk d b) (fun _ _ _ h => Or.inl h) k j s hs h
    rw [Nat.add_comm] at this
    exact this
  refine fa_chain_far (N := N) (c := 1) (fa_rk d b) (fun _ _ _ h => Or.inl h) ?_ ?_ k (by omega) j s hs h2
  · intro k h i hi hr
    rcases hr with hr | ⟨t, ht, e⟩
    · exact hr
    · exact Or.inr ⟨t, h t (fa_rk_lt hc hb _ t ht) ht, e⟩
  · exact fa_ct_pos hb rfl
end
