/-! X: the walk over pairs; equal by walking, covers, difference -/
def fx_ps (cP cW cT cQ : Nat → Int32) (s : fd_S) : Prop :=
  (∀ j, j < s.1 → cP j = nI (s.2.1 j) ∧ cW j = nI (s.2.2.1 j) ∧ cT j = nI (s.2.2.2 j)) ∧ (∀ q, q < 1024 → (cQ q ≠ 0 ↔ fd_in q s))
section
variable {a a' b e : Nat → Nat} {aO aB aS aE cC cF cS cA cG cL cM cN cP cW cT cQ : Nat → Int32} {m x l : Nat}
theorem fx_ps_new {s : fd_S} {q w t : Nat} (h : fx_ps cP cW cT cQ s) (hq : q < 1024) (hn : ¬ fd_in q s) : fx_ps (upd cP s.1 (nI q)) (upd cW s.1 (nI w)) (upd cT s.1 (nI t)) (upd cQ q 1) (fd_nt q w t s) := by
  refine ⟨fun j hj => ?_, fun x hx => ?_⟩
  · rw [fd_nt_f hn] at hj ⊢
    have hj' : j < s.1 + 1 := hj
    show upd cP s.1 (nI q) j = nI (fd_up s.2.1 s.1 q j) ∧ upd cW s.1 (nI w) j = nI (fd_up s.2.2.1 s.1 w j) ∧ upd cT s.1 (nI t) j = nI (fd_up s.2.2.2 s.1 t j)
    by_cases g : j = s.1
    · rw [g, pk_us, pk_us, pk_us, fd_up_s, fd_up_s, fd_up_s]; exact ⟨rfl, rfl, rfl⟩
    · rw [pk_un g, pk_un g, pk_un g, fd_up_n (by omega), fd_up_n (by omega), fd_up_n (by omega)]
      exact h.1 j (by omega)
  · rw [fd_in_nt_iff]
    by_cases g : x = q
    · subst g; rw [pk_us]; exact ⟨fun _ => Or.inr rfl, fun _ => fx_n1⟩
    · rw [pk_un g, h.2 x hx]
      exact ⟨fun z => Or.inl z, fun z => z.elim id (fun y => absurd y g)⟩
theorem fx_notePair {post : Int32 → SX → Prop} {s : fd_S} {q w t : Nat} (h : fx_ps cP cW cT cQ s) (hq : q < 1024) (hs : s.1 ≤ 1024) (hb : (fd_nt q w t s).1 ≤ 1024)
    (hp : ∀ cP' cW' cT' cQ' : Nat → Int32, fx_ps cP' cW' cT' cQ' (fd_nt q w t s) → post (nI (fd_nt q w t s).1) (aO, aB, aS, aE, cC, cF, cS, cA, cG, cL, cM, cN, cP', cW', cT', cQ')) : wpX_notePair post (aO, aB, aS, aE, cC, cF, cS, cA, cG, cL, cM, cN, cP, cW, cT, cQ) (nI q) (nI w) (nI t) (nI s.1) := by
  have hin : vp_in (nI q) 1024 := vp_in_nI hq (by omega)
  refine ⟨hin, ?_⟩
  rw [nI_clamp (by omega)]
  refine br_c (fun z => ?_) (fun z => ?_)
  · have hn : ¬ fd_in q s := fun y => (h.2 q hq).mpr y z
    have hb' : s.1 + 1 ≤ 1024 := by rw [fd_nt_f hn] at hb; exact hb
    have hin2 : vp_in (nI s.1) 1024 := vp_in_nI (by omega) (by omega)
    have e1 : (fd_nt q w t s).1 = s.1 + 1 := by rw [fd_nt_f hn]
    have key := hp _ _ _ _ (fx_ps_new (w := w) (t := t) h hq hn)
    rw [e1, ← nI_1] at key
    have hs2 : s.1 < 2 ^ 31 := by omega
    refine pk_lt s.1 1024 (fun _ => ⟨hin, nm_r (e' := upd cQ q 1) rfl ⟨hin2, nm_r (fx_put hs2 rfl) ⟨hin2, nm_r (fx_put hs2 rfl) ⟨hin2, nm_r (fx_put hs2 rfl) key⟩⟩⟩⟩) (fun y => absurd y (by omega))
  · have hi : fd_in q s := (h.2 q hq).mp z
    have key := hp cP cW cT cQ (by rw [fd_nt_t hi]; exact h)
    rw [fd_nt_t hi] at key
    exact key
theorem fx_pairAfter {post : Int32 → Prop} (P : fx_P a a' b e) (h : fx_S a a' b e aO aB aS aE) {q : Nat} (hq : q < 1024) (hl : l < 2) (hp : post (nI (fi_s a q l))) : wpX_pairAfter post (aO, aB, aS, aE, cC, cF, cS, cA, cG, cL, cM, cN, cP, cW, cT, cQ) (nI q) (nI l) := by
  have g0 := ff_st_lt P.1 (show 0 < 2 by omega) (q / 32) l
  have g1 := ff_st_lt P.1 (show 1 < 2 by omega) (q % 32) l
  unfold wpX_pairAfter
  dsimp only
  rw [fx_r32 (by omega), fx_d32 (by omega)]
  refine ⟨fx_32, fx_step (m := 0) ⟨vp_in_nI (by omega) (by omega), nm_r (fx_tab h.1 (by omega) (by omega) hl) ⟨fx_32, fx_step (m := 1) ⟨vp_in_nI (by omega) (by omega), nm_r (fx_tab h.1 (by omega) (by omega) hl) ?_⟩⟩⟩⟩
  rw [fx_ix2, Nat.mul_comm _ 32]
  exact hp
theorem fx_walk_in {post : Int32 → SX → Prop} {J : Int32 → Int32 → (Nat → Int32) → (Nat → Int32) → (Nat → Int32) → (Nat → Int32) → (Nat → Int32) → (Nat → Int32) → (Nat → Int32) → (Nat → Int32) → (Nat → Int32) → (Nat → Int32) → (Nat → Int32) → (Nat → Int32) → (Nat → Int32) → (Nat → Int32) → (Nat → Int32) → (Nat → Int32) → Prop}
    (P : fx_P a a' b e) (h : fx_S a a' b e aO aB aS aE) {q0 i : Nat} {s : fd_S} (J0 : fd_J (fi_s a) q0 s) (hi : i < s.1) (hs : fx_ps cP cW cT cQ s)
    (hJ : ∀ cP' cW' cT' cQ' : Nat → Int32, fx_ps cP' cW' cT' cQ' (fd_g1 (fi_s a) (fd_g0 (fi_s a) s i) i) → J (nI (fd_g1 (fi_s a) (fd_g0 (fi_s a) s i) i).1) (nI (i + 1)) aO aB aS aE cC cF cS cA cG cL cM cN cP' cW' cT' cQ') :
    wX_walkPairs_62 post J (nI i) 3 (nI s.1) 0 aO aB aS aE cC cF cS cA cG cL cM cN cP cW cT cQ := by
  have hst := fi_s_lt P.1
  have n0 := fd_J_n J0
  have J1 := fd_J_g0 J0 hst hi
  have n1 := fd_J_n J1
  have hi1 : i < (fd_g0 (fi_s a) s i).1 := Nat.lt_of_lt_of_le hi (fd_le_g0 (stp := fi_s a) s i).1
  have J2 := fd_J_g1 J1 hst hi1
  have n2 := fd_J_n J2
  have hin : vp_in (nI i) 1024 := vp_in_nI (by omega) (by omega)
  have q0 := J0.2.1 i hi
  have q1 := J1.2.1 i hi1
  refine pk_le 2 0 (fun z => absurd z (by omega)) (fun _ => ⟨hin, ?_⟩)
  rw [nI_clamp (by omega), (hs.1 i hi).1, (hs.1 i hi).2.1, (hs.1 i hi).2.2]
  refine fx_pairAfter (l := 0) P h q0 (by omega) ⟨hin, nm_r (e' := nI (2 * s.2.2.1 i)) ?_ ⟨hin, ?_⟩⟩
  · show nI (s.2.2.1 i) * nI 2 + nI 0 = _
    rw [pk_mul, nI_add, Nat.add_zero, Nat.mul_comm]
  rw [nI_1 (s.2.2.2 i)]
  refine fx_notePair hs (hst _ _) n0 n1 (fun cP1 cW1 cT1 cQ1 hs1 => nm_r (e' := nI 1) (by decide) ?_)
  refine pk_le 2 1 (fun z => absurd z (by omega)) (fun _ => ⟨hin, ?_⟩)
  dsimp only
  have hs1' : fx_ps cP1 cW1 cT1 cQ1 (fd_g0 (fi_s a) s i) := hs1
  rw [nI_clamp (by omega), (hs1'.1 i hi1).1, (hs1'.1 i hi1).2.1, (hs1'.1 i hi1).2.2]
  refine fx_pairAfter P h q1 (by omega) ⟨hin, nm_r (e' := nI (2 * (fd_g0 (fi_s a) s i).2.2.1 i + 1)) ?_ ⟨hin, ?_⟩⟩
  · show nI ((fd_g0 (fi_s a) s i).2.2.1 i) * nI 2 + nI 1 = _
    rw [pk_mul, nI_add, Nat.mul_comm]
  rw [nI_1 ((fd_g0 (fi_s a) s i).2.2.2 i)]
  refine fx_notePair (s := fd_g0 (fi_s a) s i) hs1' (hst _ _) n1 n2 (fun cP2 cW2 cT2 cQ2 hs2 => nm_r (e' := nI 2) (by decide) ?_)
  refine pk_le 2 2 (fun _ => nm_r (nI_1 i) ?_) (fun z => absurd z (by omega))
  exact hJ cP2 cW2 cT2 cQ2 hs2
/-- what the walk leaves -/
def fx_wk (a b : Nat → Nat) (F : Nat) (cP cW cT cQ : Nat → Int32) : Prop :=
  F ≤ 1024 ∧ (fd_bf (fi_s a) (fi_q b) F).1 = F ∧ fd_on (fi_s a) (fi_q b) F ∧ fx_ps cP cW cT cQ (fd_bf (fi_s a) (fi_q b) F)
theorem fx_q_lt (P : fx_P a a' b e) : fi_q b < 1024 := by
  have h0 := P.2.2.2.1 0 (by omega)
  have h1 := P.2.2.2.1 1 (by omega)
  unfold fi_q; omega
theorem fx_walk_go {post : Int32 → SX → Prop} (P : fx_P a a' b e) (h : fx_S a a' b e aO aB aS aE) (hp : ∀ F (cP' cW' cT' cQ' : Nat → Int32), fx_wk a b F cP' cW' cT' cQ' → post (nI F) (aO, aB, aS, aE, cC, cF, cS, cA, cG, cL, cM, cN, cP', cW', cT', cQ')) :
    ∀ d i (cP cW cT cQ : Nat → Int32), i + d = 1025 → fd_on (fi_s a) (fi_q b) i → fx_ps cP cW cT cQ (fd_bf (fi_s a) (fi_q b) i) → wX_walkPairs_48 post (d + 1) (nI (fd_bf (fi_s a) (fi_q b) i).1) (nI i) aO aB aS aE cC cF cS cA cG cL cM cN cP cW cT cQ := by
  have hst := fi_s_lt P.1
  have hq := fx_q_lt P
  intro d
  induction d with
  | zero =>
    intro i cP cW cT cQ hi ho hs
    have h1 := fd_J_n (fd_J_bf hq hst i ho)
    have h2 := ho (i - 1) (by omega)
    have h3 := (fd_le_bf (stp := fi_s a) (q0 := fi_q b) (i - 1)).1
    rw [show i - 1 + 1 = i by omega] at h3
    omega
  | succ d ih =>
    intro i cP cW cT cQ hi ho hs
    have J0 := fd_J_bf hq hst i ho
    have hn := fd_J_n J0
    refine pk_le (fd_bf (fi_s a) (fi_q b) i).1 i (fun z => ?_) (fun z => pk_le 1024 i (fun y => absurd y (by omega)) (fun _ => ⟨3, ?_⟩))
    · have hge : i ≤ (fd_bf (fi_s a) (fi_q b) i).1 := by
        cases i with
        | zero => exact Nat.zero_le _
        | succ i =>
          have h2 := ho i (by omega)
          have h3 := (fd_le_bf (stp := fi_s a) (q0 := fi_q b) i).1
          omega
      have he : (fd_bf (fi_s a) (fi_q b) i).1 = i := Nat.le_antisymm z hge
      have key := hp i cP cW cT cQ ⟨by omega, he, ho, hs⟩
      rw [he]; exact key
    · refine fx_walk_in P h J0 z hs (fun cP' cW' cT' cQ' hs' => ?_)
      refine ih (i + 1) cP' cW' cT' cQ' (by omega) (fun j hj => ?_) hs'
      by_cases g : j = i
      · subst g; exact z
      · exact ho j (by omega)
theorem fx_walk0 {post : Int32 → SX → Prop} (P : fx_P a a' b e) (h : fx_S a a' b e aO aB aS aE) (hp : ∀ F (cP' cW' cT' cQ' : Nat → Int32), fx_wk a b F cP' cW' cT' cQ' → post (nI F) (aO, aB, aS, aE, cC, cF, cS, cA, cG, cL, cM, cN, cP', cW', cT', cQ')) :
    ∀ d c (cQ : Nat → Int32), c + d = 1024 → (∀ x, x < c → cQ x = 0) → wX_walkPairs_2 post (d + 1) (nI c) aO aB aS aE cC cF cS cA cG cL cM cN cP cW cT cQ := by
  have hq := fx_q_lt P
  intro d
  induction d with
  | zero =>
    intro c cQ hc hz
    have : c = 1024 := by omega
    subst this
    refine pk_le 1024 1024 (fun _ => ?_) (fun z => absurd z (by omega))
    have e0 : aS 0 * 32 + aS 1 = nI (fi_q b) := by
      rw [h.2.2.1 0 (by omega), h.2.2.1 1 (by omega), fx_ix2, Nat.mul_comm]; rfl
    rw [e0]
    have hin : vp_in (nI (fi_q b)) 1024 := vp_in_nI hq (by omega)
    have hi0 : vp_in (0 : Int32) 1024 := vp_in_nI (n := 0) (by omega) (by omega)
    refine ⟨hin, br_t ((fx_get (by omega)).trans (hz _ hq)) (br_t (by decide) ⟨hin, nm_r (fx_put (by omega) fx_nb1) ⟨hi0, nm_e ⟨hi0, nm_e ⟨hi0, nm_e ⟨1026, ?_⟩⟩⟩⟩⟩)⟩
    refine fx_walk_go P h hp 1025 0 _ _ _ _ rfl (fun j hj => absurd hj (Nat.not_lt_zero _)) ⟨fun j hj => ?_, fun x hx => ?_⟩
    · have hj' : j < 1 := hj
      have : j = 0 := by omega
      subst this
      exact ⟨rfl, rfl, rfl⟩
    · by_cases g : x = fi_q b
      · subst g; rw [pk_us]; exact ⟨fun _ => ⟨0, Nat.one_pos, rfl⟩, fun _ => fx_n1⟩
      · rw [pk_un g, hz x hx]
        exact ⟨fun z => absurd rfl z, fun ⟨j, _, y⟩ => absurd y.symm g⟩
  | succ d ih =>
    intro c cQ hc hz
    refine pk_le 1024 c (fun z => absurd z (by omega)) (fun _ => ⟨vp_in_nI (by omega) (by omega), nm_r (fx_put (by omega) fx_nb0) (nm_r (nI_1 c) (ih (c + 1) _ (by omega) (fun x hx => ?_)))⟩)
    by_cases g : x = c
    · subst g; exact pk_us
    · rw [pk_un g]; exact hz x (by omega)
theorem fx_walk {post : Int32 → SX → Prop} (P : fx_P a a' b e) (h : fx_S a a' b e aO aB aS aE) (hp : ∀ F (cP' cW' cT' cQ' : Nat → Int32), fx_wk a b F cP' cW' cT' cQ' → post (nI F) (aO, aB, aS, aE, cC, cF, cS, cA, cG, cL, cM, cN, cP', cW', cT', cQ')) : wpX_walkPairs post (aO, aB, aS, aE, cC, cF, cS, cA, cG, cL, cM, cN, cP, cW, cT, cQ) :=
  ⟨_, fx_walk0 P h hp 1024 0 cQ rfl (fun x hx => absurd hx (Nat.not_lt_zero _))⟩
theorem fx_pa0 {post : Int32 → Prop} (h : fx_S a a' b e aO aB aS aE) {q : Nat} (hq : q < 1024) (hp : fx_tv (fi_x e q) post) : wpX_pairAccepts post (aO, aB, aS, aE, cC, cF, cS, cA, cG, cL, cM, cN, cP, cW, cT, cQ) 0 (nI q) := by
  refine br_t rfl ⟨fx_32, ?_⟩
  rw [fx_d32 (by omega)]
  exact fx_ending (m := 0) h (by omega) (by omega) (fx_tv_n hp)
theorem fx_pa1 {post : Int32 → Prop} (h : fx_S a a' b e aO aB aS aE) {q : Nat} (hq : q < 1024) (hp : fx_tv (fi_y e q) post) : wpX_pairAccepts post (aO, aB, aS, aE, cC, cF, cS, cA, cG, cL, cM, cN, cP, cW, cT, cQ) 1 (nI q) := by
  refine br_f fx_n1 ⟨fx_32, ?_⟩
  rw [fx_r32 (by omega)]
  exact fx_ending (m := 1) h (by omega) (by omega) (fx_tv_n hp)
theorem fx_fsp_go {post : Int32 → Prop} (h : fx_S a a' b e aO aB aS aE) {F : Nat} {p : Nat → Nat} (hF : F ≤ 1024) (hP : ∀ j, j < F → cP j = nI (p j) ∧ p j < 1024)
    (h1 : ∀ j, j < F → ¬ (fi_x e (p j) ↔ fi_y e (p j)) → (∀ i, i < j → (fi_x e (p i) ↔ fi_y e (p i))) → post (nI j)) (h0 : (∀ j, j < F → (fi_x e (p j) ↔ fi_y e (p j))) → post (-2)) :
    ∀ d c, c + d = F → (∀ i, i < c → (fi_x e (p i) ↔ fi_y e (p i))) → wX_firstSplitPair_2 post (nI F) aO aB aS aE cC cF cS cA cG cL cM cN cP cW cT cQ (d + 1) (nI c) := by
  intro d
  induction d with
  | zero =>
    intro c hc hn
    have : c = F := by omega
    subst this
    exact pk_le c c (fun _ => h0 hn) (fun z => absurd z (by omega))
  | succ d ih =>
    intro c hc hn
    have hcF : c < F := by omega
    have hin : vp_in (nI c) 1024 := vp_in_nI (by omega) (by omega)
    refine pk_le F c (fun z => absurd z (by omega)) (fun _ => pk_le 1024 c (fun z => absurd z (by omega)) (fun _ => ⟨hin, ?_⟩))
    rw [nI_clamp (by omega), (hP c hcF).1]
    have nx : (fi_x e (p c) ↔ fi_y e (p c)) → wX_firstSplitPair_2 post (nI F) aO aB aS aE cC cF cS cA cG cL cM cN cP cW cT cQ (d + 1) (nI (c + 1)) := by
      intro g
      refine ih (c + 1) (by omega) (fun i hi => ?_)
      by_cases q : i = c
      · subst q; exact g
      · exact hn i (by omega)
    refine fx_pa0 h (hP c hcF).2 (fx_tv_m (fun gx => ⟨hin, fx_pa1 h (hP c hcF).2 (fx_tv_m (fun gy => ?_) (fun gy => ?_))⟩) (fun gx => ⟨hin, fx_pa1 h (hP c hcF).2 (fx_tv_m (fun gy => ?_) (fun gy => ?_))⟩))
    · exact br_t rfl (nm_r (nI_1 c) (nx ⟨fun _ => gy, fun _ => gx⟩))
    · exact br_f fx_n1 (h1 c hcF (fun z => gy (z.mp gx)) hn)
    · exact br_f (fun z => fx_n1 z.symm) (h1 c hcF (fun z => gx (z.mpr gy)) hn)
    · exact br_t rfl (nm_r (nI_1 c) (nx ⟨fun z => absurd z gx, fun z => absurd z gy⟩))
theorem fx_fsp {post : Int32 → Prop} (h : fx_S a a' b e aO aB aS aE) {F : Nat} {p : Nat → Nat} (hF : F ≤ 1024) (hP : ∀ j, j < F → cP j = nI (p j) ∧ p j < 1024)
    (h1 : ∀ j, j < F → ¬ (fi_x e (p j) ↔ fi_y e (p j)) → (∀ i, i < j → (fi_x e (p i) ↔ fi_y e (p i))) → post (nI j)) (h0 : (∀ j, j < F → (fi_x e (p j) ↔ fi_y e (p j))) → post (-2)) : wpX_firstSplitPair post (aO, aB, aS, aE, cC, cF, cS, cA, cG, cL, cM, cN, cP, cW, cT, cQ) (nI F) :=
  ⟨_, fx_fsp_go h hF hP h1 h0 F 0 (by omega) (fun i hi => absurd hi (Nat.not_lt_zero _))⟩
theorem fx_nm2 {j : Nat} (h : j < 2 ^ 31) : ¬ nI j = -2 := by
  intro z
  have := nI_pos h
  rw [z] at this
  exact this (by decide)
theorem fx_wk_P (P : fx_P a a' b e) {F : Nat} (w : fx_wk a b F cP cW cT cQ) : ∀ j, j < F → cP j = nI ((fd_bf (fi_s a) (fi_q b) F).2.1 j) ∧ (fd_bf (fi_s a) (fi_q b) F).2.1 j < 1024 := by
  intro j hj
  have J0 := fd_J_bf (fx_q_lt P) (fi_s_lt P.1) F w.2.2.1
  have hj' : j < (fd_bf (fi_s a) (fi_q b) F).1 := by rw [w.2.1]; exact hj
  exact ⟨(w.2.2.2.1 j hj').1, J0.2.1 j hj'⟩
theorem fx_byWalk {post : Int32 → SX → Prop} (P : fx_P a a' b e) (h : fx_S a a' b e aO aB aS aE)
    (h1 : fi_EQ a b e → fx_ans a a' b e 1 post) (h0 : ¬ fi_EQ a b e → fx_ans a a' b e 0 post) : wpX_isEqualByWalk post (aO, aB, aS, aE, cC, cF, cS, cA, cG, cL, cM, cN, cP, cW, cT, cQ) := by
  have hb0 := P.2.2.2.1 0 (by omega)
  have hb1 := P.2.2.2.1 1 (by omega)
  unfold wpX_isEqualByWalk
  dsimp only
  refine fx_walk P h (fun F cP' cW' cT' cQ' w => ?_)
  have iff := fi_none (e := e) P.1 hb0 hb1 w.2.1 w.2.2.1
  have hF := w.1
  refine fx_fsp h hF (fx_wk_P P w) (fun j hj hs _ => br_f (fx_nm2 (by omega)) ?_) (fun hn => br_t rfl ?_)
  · exact h0 (fun z => hs (iff.mpr z j hj)) _ _ _ _ _ _ _ _ _ _ _ _ _ _ _ _ h
  · exact h1 (iff.mp hn) _ _ _ _ _ _ _ _ _ _ _ _ _ _ _ _ h
end
