/-! the walk through pairs, as both sides do it -/
def fd_up (f : Nat → Nat) (n q : Nat) : Nat → Nat := fun j => if j = n then q else f j
theorem fd_up_s (f : Nat → Nat) (n q : Nat) : fd_up f n q n = q := if_pos rfl
theorem fd_up_n {f : Nat → Nat} {n q j : Nat} (h : j < n) : fd_up f n q j = f j := if_neg (by omega)
abbrev fd_S : Type := Nat × (Nat → Nat) × (Nat → Nat) × (Nat → Nat)
def fd_in (q : Nat) (s : fd_S) : Prop := ∃ j, j < s.1 ∧ s.2.1 j = q
noncomputable def fd_nt (q w l : Nat) (s : fd_S) : fd_S :=
  @ite fd_S (fd_in q s) (Classical.propDecidable _) s (s.1 + 1, fd_up s.2.1 s.1 q, fd_up s.2.2.1 s.1 w, fd_up s.2.2.2 s.1 l)
theorem fd_nt_t {q w l : Nat} {s : fd_S} (h : fd_in q s) : fd_nt q w l s = s := by
  unfold fd_nt; exact if_pos h
theorem fd_nt_f {q w l : Nat} {s : fd_S} (h : ¬ fd_in q s) : fd_nt q w l s = (s.1 + 1, fd_up s.2.1 s.1 q, fd_up s.2.2.1 s.1 w, fd_up s.2.2.2 s.1 l) := by
  unfold fd_nt; exact if_neg h
noncomputable def fd_g0 (stp : Nat → Nat → Nat) (s : fd_S) (i : Nat) : fd_S := fd_nt (stp (s.2.1 i) 0) (2 * s.2.2.1 i) (s.2.2.2 i + 1) s
noncomputable def fd_g1 (stp : Nat → Nat → Nat) (s : fd_S) (i : Nat) : fd_S := fd_nt (stp (s.2.1 i) 1) (2 * s.2.2.1 i + 1) (s.2.2.2 i + 1) s
noncomputable def fd_bf (stp : Nat → Nat → Nat) (q0 : Nat) : Nat → fd_S
  | 0 => (1, fun _ => q0, fun _ => 1, fun _ => 0)
  | i + 1 => fd_g1 stp (fd_g0 stp (fd_bf stp q0 i) i) i
/-- the later state goes on from the earlier one -/
def fd_le (s t : fd_S) : Prop := s.1 ≤ t.1 ∧ (∀ j, j < s.1 → t.2.1 j = s.2.1 j ∧ t.2.2.1 j = s.2.2.1 j ∧ t.2.2.2 j = s.2.2.2 j)
theorem fd_le_rf (s : fd_S) : fd_le s s := ⟨Nat.le_refl _, fun _ _ => ⟨rfl, rfl, rfl⟩⟩
theorem fd_le_tr {s t u : fd_S} (h : fd_le s t) (g : fd_le t u) : fd_le s u :=
  ⟨Nat.le_trans h.1 g.1, fun j hj => ⟨((g.2 j (Nat.lt_of_lt_of_le hj h.1)).1).trans (h.2 j hj).1,
    ((g.2 j (Nat.lt_of_lt_of_le hj h.1)).2.1).trans (h.2 j hj).2.1, ((g.2 j (Nat.lt_of_lt_of_le hj h.1)).2.2).trans (h.2 j hj).2.2⟩⟩
theorem fd_le_nt (q w l : Nat) (s : fd_S) : fd_le s (fd_nt q w l s) := by
  by_cases h : fd_in q s
  · rw [fd_nt_t h]; exact fd_le_rf s
  · rw [fd_nt_f h]
    exact ⟨Nat.le_succ _, fun j hj => ⟨fd_up_n hj, fd_up_n hj, fd_up_n hj⟩⟩
theorem fd_in_le {s t : fd_S} (h : fd_le s t) {q : Nat} (hq : fd_in q s) : fd_in q t := by
  obtain ⟨j, hj, e⟩ := hq
  exact ⟨j, Nat.lt_of_lt_of_le hj h.1, ((h.2 j hj).1).trans e⟩
theorem fd_in_nt (q w l : Nat) (s : fd_S) : fd_in q (fd_nt q w l s) := by
  by_cases h : fd_in q s
  · rw [fd_nt_t h]; exact h
  · rw [fd_nt_f h]
    exact ⟨s.1, Nat.lt_succ_self _, fd_up_s _ _ _⟩
theorem fd_in_nt_iff (q w l : Nat) (s : fd_S) (x : Nat) : fd_in x (fd_nt q w l s) ↔ fd_in x s ∨ x = q := by
  constructor
  · intro hx
    by_cases h : fd_in q s
    · rw [fd_nt_t h] at hx; exact Or.inl hx
    · rw [fd_nt_f h] at hx
      obtain ⟨j, hj, e⟩ := hx
      have hj' : j < s.1 + 1 := hj
      by_cases hjn : j < s.1
      · have e' : fd_up s.2.1 s.1 q j = x := e
        rw [fd_up_n hjn] at e'
        exact Or.inl ⟨j, hjn, e'⟩
      · have : j = s.1 := by omega
        subst this
        have e' : fd_up s.2.1 s.1 q s.1 = x := e
        rw [fd_up_s] at e'
        exact Or.inr e'.symm
  · rintro (h | h)
    · exact fd_in_le (fd_le_nt q w l s) h
    · subst h; exact fd_in_nt x w l s
def fd_J (stp : Nat → Nat → Nat) (q0 : Nat) (s : fd_S) : Prop :=
  0 < s.1 ∧ (∀ j, j < s.1 → s.2.1 j < 1024) ∧ (∀ j k, j < s.1 → k < s.1 → s.2.1 j = s.2.1 k → j = k) ∧
  (∀ j, j < s.1 → 2 ^ s.2.2.2 j ≤ s.2.2.1 j ∧ s.2.2.1 j < 2 ^ (s.2.2.2 j + 1) ∧ s.2.2.2 j ≤ j) ∧
  (∀ j, j < s.1 → (j = 0 ∧ s.2.1 j = q0 ∧ s.2.2.1 j = 1) ∨ ∃ i l, i < j ∧ l < 2 ∧ s.2.1 j = stp (s.2.1 i) l ∧ s.2.2.1 j = 2 * s.2.2.1 i + l)
section
variable {stp : Nat → Nat → Nat} {q0 : Nat}
theorem fd_J_n {s : fd_S} (h : fd_J stp q0 s) : s.1 ≤ 1024 := by
  have nd : ((List.range s.1).map s.2.1).Nodup :=
    fa_nd_map _ _ (fun x hx y hy => h.2.2.1 x y (List.mem_range.mp hx) (List.mem_range.mp hy)) List.nodup_range
  have sb : (List.range s.1).map s.2.1 ⊆ List.range 1024 := by
    intro x hx
    obtain ⟨y, hy, e⟩ := List.mem_map.mp hx
    rw [List.mem_range, ← e]
    exact h.2.1 y (List.mem_range.mp hy)
  have := List.Nodup.length_le_of_subset nd sb
  simpa using this
theorem fd_J_0 (hq : q0 < 1024) : fd_J stp q0 (1, fun _ => q0, fun _ => 1, fun _ => 0) := by
  refine ⟨show 0 < 1 by decide, fun _ _ => hq, fun j k hj hk _ => ?_, fun j _ => ⟨show 2 ^ 0 ≤ 1 by decide, show 1 < 2 ^ (0 + 1) by decide, Nat.zero_le _⟩, fun j hj => Or.inl ⟨?_, rfl, rfl⟩⟩
  · have hj' : j < 1 := hj
    have hk' : k < 1 := hk
    omega
  · have hj' : j < 1 := hj
    omega
theorem fd_J_nt {s : fd_S} (h : fd_J stp q0 s) (hst : ∀ q l, stp q l < 1024) {i l : Nat} (hi : i < s.1) (hl : l < 2) :
    fd_J stp q0 (fd_nt (stp (s.2.1 i) l) (2 * s.2.2.1 i + l) (s.2.2.2 i + 1) s) := by
  by_cases hin : fd_in (stp (s.2.1 i) l) s
  · rw [fd_nt_t hin]; exact h
  · rw [fd_nt_f hin]
    obtain ⟨h0, h1, h2, h3, h4⟩ := h
    refine ⟨Nat.succ_pos _, fun j hj => ?_, fun j k hj hk e => ?_, fun j hj => ?_, fun j hj => ?_⟩
    · have hj' : j < s.1 + 1 := hj
      show fd_up s.2.1 s.1 _ j < 1024
      by_cases q : j < s.1
      · rw [fd_up_n q]; exact h1 j q
      · have : j = s.1 := by omega
        subst this
        rw [fd_up_s]; exact hst _ _
    · have hj' : j < s.1 + 1 := hj
      have hk' : k < s.1 + 1 := hk
      have e' : fd_up s.2.1 s.1 (stp (s.2.1 i) l) j = fd_up s.2.1 s.1 (stp (s.2.1 i) l) k := e
      by_cases q : j < s.1
      · rw [fd_up_n q] at e'
        by_cases q' : k < s.1
        · rw [fd_up_n q'] at e'
          exact h2 j k q q' e'
        · have : k = s.1 := by omega
          subst this
          rw [fd_up_s] at e'
          exact absurd ⟨j, q, e'⟩ hin
      · have : j = s.1 := by omega
        subst this
        rw [fd_up_s] at e'
        by_cases q' : k < s.1
        · rw [fd_up_n q'] at e'
          exact absurd ⟨k, q', e'.symm⟩ hin
        · omega
    · have hj' : j < s.1 + 1 := hj
      show 2 ^ fd_up s.2.2.2 s.1 _ j ≤ fd_up s.2.2.1 s.1 _ j ∧ fd_up s.2.2.1 s.1 _ j < 2 ^ (fd_up s.2.2.2 s.1 _ j + 1) ∧ fd_up s.2.2.2 s.1 _ j ≤ j
      by_cases q : j < s.1
      · rw [fd_up_n q, fd_up_n q]; exact h3 j q
      · have : j = s.1 := by omega
        subst this
        rw [fd_up_s, fd_up_s]
        obtain ⟨a, b, c⟩ := h3 i hi
        have p1 : 2 ^ (s.2.2.2 i + 1) = 2 * 2 ^ s.2.2.2 i := by rw [Nat.pow_succ]; omega
        have p2 : 2 ^ (s.2.2.2 i + 1 + 1) = 2 * 2 ^ (s.2.2.2 i + 1) := by rw [Nat.pow_succ]; omega
        refine ⟨by omega, by omega, by omega⟩
    · have hj' : j < s.1 + 1 := hj
      show (j = 0 ∧ fd_up s.2.1 s.1 _ j = q0 ∧ fd_up s.2.2.1 s.1 _ j = 1) ∨ ∃ i' l', i' < j ∧ l' < 2 ∧ fd_up s.2.1 s.1 _ j = stp (fd_up s.2.1 s.1 _ i') l' ∧ fd_up s.2.2.1 s.1 _ j = 2 * fd_up s.2.2.1 s.1 _ i' + l'
      by_cases q : j < s.1
      · rw [fd_up_n q, fd_up_n q]
        rcases h4 j q with g | ⟨i', l', g1, g2, g3, g4⟩
        · exact Or.inl g
        · refine Or.inr ⟨i', l', g1, g2, ?_, ?_⟩
          · rw [fd_up_n (by omega)]; exact g3
          · rw [fd_up_n (by omega)]; exact g4
      · have : j = s.1 := by omega
        subst this
        rw [fd_up_s, fd_up_s]
        refine Or.inr ⟨i, l, hi, hl, ?_, ?_⟩
        · rw [fd_up_n hi]
        · rw [fd_up_n hi]
theorem fd_J_g0 {s : fd_S} (h : fd_J stp q0 s) (hst : ∀ q l, stp q l < 1024) {i : Nat} (hi : i < s.1) : fd_J stp q0 (fd_g0 stp s i) :=
  fd_J_nt (l := 0) h hst hi (by omega)
theorem fd_J_g1 {s : fd_S} (h : fd_J stp q0 s) (hst : ∀ q l, stp q l < 1024) {i : Nat} (hi : i < s.1) : fd_J stp q0 (fd_g1 stp s i) :=
  fd_J_nt (l := 1) h hst hi (by omega)
theorem fd_le_g0 (s : fd_S) (i : Nat) : fd_le s (fd_g0 stp s i) := fd_le_nt _ _ _ _
theorem fd_le_g1 (s : fd_S) (i : Nat) : fd_le s (fd_g1 stp s i) := fd_le_nt _ _ _ _
theorem fd_le_bf (i : Nat) : fd_le (fd_bf stp q0 i) (fd_bf stp q0 (i + 1)) := fd_le_tr (fd_le_g0 _ i) (fd_le_g1 _ i)
theorem fd_le_far (i : Nat) : ∀ j, fd_le (fd_bf stp q0 i) (fd_bf stp q0 (i + j)) := by
  intro j
  induction j with
  | zero => exact fd_le_rf _
  | succ j ih => exact fd_le_tr ih (fd_le_bf (i + j))
/-- as long as there was something to work off -/
def fd_on (stp : Nat → Nat → Nat) (q0 i : Nat) : Prop := ∀ j, j < i → j < (fd_bf stp q0 j).1
theorem fd_J_bf (hq : q0 < 1024) (hst : ∀ q l, stp q l < 1024) : ∀ i, fd_on stp q0 i → fd_J stp q0 (fd_bf stp q0 i) := by
  intro i
  induction i with
  | zero => intro _; exact fd_J_0 hq
  | succ i ih =>
    intro ho
    have h := ih (fun j hj => ho j (by omega))
    have hi := ho i (by omega)
    exact fd_J_g1 (fd_J_g0 h hst hi) hst (Nat.lt_of_lt_of_le hi (fd_le_g0 (stp := stp) (fd_bf stp q0 i) i).1)
theorem fd_F (hq : q0 < 1024) (hst : ∀ q l, stp q l < 1024) : ∃ F, F ≤ 1024 ∧ (fd_bf stp q0 F).1 = F ∧ fd_on stp q0 F := by
  have ex : ∃ F, F ≤ 1024 ∧ (fd_bf stp q0 F).1 ≤ F ∧ fd_on stp q0 F := by
    by_cases h : fd_on stp q0 1024
    · exact ⟨1024, Nat.le_refl _, fd_J_n (fd_J_bf hq hst 1024 h), h⟩
    · have : ∃ j, j < 1024 ∧ ¬ j < (fd_bf stp q0 j).1 := by
        apply Classical.byContradiction
        intro hn
        exact h (fun j hj => Classical.byContradiction fun h2 => hn ⟨j, hj, h2⟩)
      obtain ⟨j, hj, hn⟩ := this
      obtain ⟨k, hk, hp, hl⟩ := fa_least (P := fun j => ¬ j < (fd_bf stp q0 j).1) hn
      exact ⟨k, by omega, by omega, fun i hi => Classical.byContradiction fun h2 => hl i hi h2⟩
  obtain ⟨F, h1, h2, h3⟩ := ex
  refine ⟨F, h1, Nat.le_antisymm h2 ?_, h3⟩
  cases F with
  | zero => exact Nat.zero_le _
  | succ F =>
    have a := h3 F (by omega)
    have b := (fd_le_bf (stp := stp) (q0 := q0) F).1
    omega
/-- all that is on the list at the end: closed by both letters -/
theorem fd_closed {F : Nat} (hF : (fd_bf stp q0 F).1 = F) {j : Nat} (hj : j < F) (ho : fd_on stp q0 F) (l : Nat) (hl : l < 2) :
    fd_in (stp ((fd_bf stp q0 F).2.1 j) l) (fd_bf stp q0 F) := by
  have hjn := ho j hj
  obtain ⟨t, ht⟩ : ∃ t, F = j + 1 + t := ⟨F - (j + 1), by omega⟩
  subst ht
  have L1 := fd_le_far (stp := stp) (q0 := q0) (j + 1) t
  have L0 := fd_le_bf (stp := stp) (q0 := q0) j
  have e := ((fd_le_tr L0 L1).2 j hjn).1
  rw [e]
  apply fd_in_le L1
  have g0 := fd_le_g0 (stp := stp) (fd_bf stp q0 j) j
  have g1 := fd_le_g1 (stp := stp) (fd_g0 stp (fd_bf stp q0 j) j) j
  have hl' : l = 0 ∨ l = 1 := by omega
  rcases hl' with rfl | rfl
  · exact fd_in_le g1 (fd_in_nt _ _ _ _)
  · have h2 : fd_in (stp ((fd_g0 stp (fd_bf stp q0 j) j).2.1 j) 1) (fd_g1 stp (fd_g0 stp (fd_bf stp q0 j) j) j) := fd_in_nt _ _ _ _
    have h3 : (fd_g0 stp (fd_bf stp q0 j) j).2.1 j = (fd_bf stp q0 j).2.1 j := (g0.2 j hjn).1
    rw [h3] at h2
    exact h2
/-- every pair of the list has what the first has and both letters keep -/
theorem fd_all {s : fd_S} (h : fd_J stp q0 s) (Q : Nat → Prop) (h0 : Q q0) (hs : ∀ q l, l < 2 → Q q → Q (stp q l)) : ∀ j, j < s.1 → Q (s.2.1 j) := by
  intro j
  induction j using Nat.strongRecOn with
  | _ j ih =>
    intro hj
    rcases h.2.2.2.2 j hj with ⟨_, e, _⟩ | ⟨i, l, hi, hl, e, _⟩
    · rw [e]; exact h0
    · rw [e]; exact hs _ l hl (ih i hi (by omega))
def fd_z (stp : Nat → Nat → Nat) (q0 : Nat) : Nat → Nat
  | 0 => q0
  | t + 1 => stp (fd_z stp q0 t) 0
theorem fd_zero {s : fd_S} (h : fd_J stp q0 s) : ∀ t j, j < s.1 → s.2.2.1 j = 2 ^ t → s.2.1 j = fd_z stp q0 t ∧ ∀ i, i < t → ∃ k, k < j ∧ s.2.1 k = fd_z stp q0 i := by
  intro t
  induction t with
  | zero =>
    intro j hj e
    refine ⟨?_, fun i hi => absurd hi (Nat.not_lt_zero _)⟩
    rcases h.2.2.2.2 j hj with ⟨_, e1, _⟩ | ⟨i, l, hi, hl, _, e2⟩
    · exact e1
    · have := (h.2.2.2.1 i (by omega)).1
      have p := Nat.two_pow_pos (s.2.2.2 i)
      rw [e2, Nat.pow_zero] at e
      omega
  | succ t ih =>
    intro j hj e
    rcases h.2.2.2.2 j hj with ⟨_, _, e1⟩ | ⟨i, l, hi, hl, e1, e2⟩
    · have p := Nat.two_pow_pos t
      rw [e1, Nat.pow_succ] at e
      omega
    · rw [e2, Nat.pow_succ] at e
      have hl0 : l = 0 := by omega
      have hw : s.2.2.1 i = 2 ^ t := by omega
      subst hl0
      obtain ⟨a, b⟩ := ih i (by omega) hw
      refine ⟨by rw [e1, a]; rfl, fun i' hi' => ?_⟩
      by_cases q : i' < t
      · obtain ⟨k, hk, ek⟩ := b i' q
        exact ⟨k, by omega, ek⟩
      · have : i' = t := by omega
        subst this
        exact ⟨i, hi, a⟩
end
