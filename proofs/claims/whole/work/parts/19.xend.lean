/-! X: covers and difference -/
/-- where the walk ends -/
def fi_F (a b : Nat → Nat) (F : Nat) : Prop := F ≤ 1024 ∧ (fd_bf (fi_s a) (fi_q b) F).1 = F ∧ fd_on (fi_s a) (fi_q b) F
theorem fi_F_un {a b : Nat → Nat} {F G : Nat} (h : fi_F a b F) (g : fi_F a b G) : F = G := by
  rcases Nat.lt_trichotomy F G with q | q | q
  · have := g.2.2 F q
    have := h.2.1
    omega
  · exact q
  · have := h.2.2 G q
    have := g.2.1
    omega
/-- a pair that decides a search of this kind -/
def fi_sp (e : Nat → Nat) (k q : Nat) : Prop := if k = 2 then ¬ (fi_x e q ↔ fi_y e q) else if k = 0 then fi_y e q ∧ ¬ fi_x e q else fi_x e q ∧ ¬ fi_y e q
theorem fi_sp_2 (e : Nat → Nat) (q : Nat) : fi_sp e 2 q ↔ ¬ (fi_x e q ↔ fi_y e q) := Iff.rfl
theorem fi_sp_0 (e : Nat → Nat) (q : Nat) : fi_sp e 0 q ↔ fi_y e q ∧ ¬ fi_x e q := Iff.rfl
theorem fi_sp_1 (e : Nat → Nat) (q : Nat) : fi_sp e 1 q ↔ fi_x e q ∧ ¬ fi_y e q := Iff.rfl
/-- some pair decides it -/
def fi_C (a b e : Nat → Nat) (k : Nat) : Prop := ∃ F j, fi_F a b F ∧ j < F ∧ fi_sp e k ((fd_bf (fi_s a) (fi_q b) F).2.1 j)
theorem fi_C_n {a b e : Nat → Nat} {k F : Nat} (h : fi_F a b F) (hn : ∀ j, j < F → ¬ fi_sp e k ((fd_bf (fi_s a) (fi_q b) F).2.1 j)) : ¬ fi_C a b e k := by
  rintro ⟨G, j, hG, hj, hs⟩
  have := fi_F_un h hG
  subst this
  exact hn j hj hs
theorem fi_C_2 {a b e : Nat → Nat} (ha : ff_ok a) (hb0 : b 0 < 32) (hb1 : b 1 < 32) : ¬ fi_C a b e 2 ↔ fi_EQ a b e := by
  constructor
  · intro h
    obtain ⟨F, h1, h2, h3⟩ := fd_F (q0 := fi_q b) (stp := fi_s a) (by unfold fi_q; omega) (fi_s_lt ha)
    refine (fi_none ha hb0 hb1 h2 h3).mp (fun j hj => ?_)
    apply Classical.byContradiction
    intro hs
    exact h ⟨F, j, ⟨h1, h2, h3⟩, hj, hs⟩
  · rintro h ⟨F, j, hF, hj, hs⟩
    exact hs ((fi_none ha hb0 hb1 hF.2.1 hF.2.2).mpr h j hj)
/-- what difference has to answer -/
def fi_D (a b e : Nat → Nat) (r : Int32) : Prop := (fi_EQ a b e ∧ r = -2) ∨ ∃ F j, fi_F a b F ∧ j < F ∧ fi_sp e 2 ((fd_bf (fi_s a) (fi_q b) F).2.1 j) ∧ (∀ i, i < j → ¬ fi_sp e 2 ((fd_bf (fi_s a) (fi_q b) F).2.1 i)) ∧
  (((fd_bf (fi_s a) (fi_q b) F).2.2.2 j ≤ 29 ∧ r = nI ((fd_bf (fi_s a) (fi_q b) F).2.2.1 j)) ∨ (29 < (fd_bf (fi_s a) (fi_q b) F).2.2.2 j ∧ r = -1))
theorem fi_D_un {a b e : Nat → Nat} (ha : ff_ok a) (hb0 : b 0 < 32) (hb1 : b 1 < 32) {r r' : Int32} (h : fi_D a b e r) (h' : fi_D a b e r') : r' = r := by
  rcases h with ⟨hE, hr⟩ | ⟨F, j, hF, hj, hs, hn, hv⟩
  · rcases h' with ⟨_, hr'⟩ | ⟨F, j, hF, hj, hs, _⟩
    · rw [hr, hr']
    · exact absurd ⟨F, j, hF, hj, hs⟩ ((fi_C_2 ha hb0 hb1).mpr hE)
  · rcases h' with ⟨hE, _⟩ | ⟨F', j', hF', hj', hs', hn', hv'⟩
    · exact absurd ⟨F, j, hF, hj, hs⟩ ((fi_C_2 ha hb0 hb1).mpr hE)
    · have := fi_F_un hF hF'
      subst this
      have ej : j = j' := by
        rcases Nat.lt_trichotomy j j' with q | q | q
        · exact absurd hs (hn' j q)
        · exact q
        · exact absurd hs' (hn j' q)
      subst ej
      rcases hv with ⟨v1, v2⟩ | ⟨v1, v2⟩
      · rcases hv' with ⟨w1, w2⟩ | ⟨w1, w2⟩
        · rw [v2, w2]
        · omega
      · rcases hv' with ⟨w1, w2⟩ | ⟨w1, w2⟩
        · omega
        · rw [v2, w2]
section
variable {a a' b e : Nat → Nat} {aO aB aS aE cC cF cS cA cG cL cM cN cP cW cT cQ : Nat → Int32} {m x l : Nat}
theorem fx_diff {post : Int32 → SX → Prop} (P : fx_P a a' b e) (h : fx_S a a' b e aO aB aS aE) (hp : ∀ r, fi_D a b e r → fx_ans a a' b e r post) : wpX_difference post (aO, aB, aS, aE, cC, cF, cS, cA, cG, cL, cM, cN, cP, cW, cT, cQ) := by
  have hb0 := P.2.2.2.1 0 (by omega)
  have hb1 := P.2.2.2.1 1 (by omega)
  unfold wpX_difference
  dsimp only
  refine fx_walk P h (fun F cP' cW' cT' cQ' w => ?_)
  have hF := w.1
  have J0 := fd_J_bf (fx_q_lt P) (fi_s_lt P.1) F w.2.2.1
  have hF' : fi_F a b F := ⟨w.1, w.2.1, w.2.2.1⟩
  refine fx_fsp h hF (fx_wk_P P w) (fun j hj hs hn => br_f (fx_nm2 (by omega)) ⟨vp_in_nI (by omega) (by omega), ?_⟩) (fun hn => br_t rfl ?_)
  · dsimp only
    have hj' : j < (fd_bf (fi_s a) (fi_q b) F).1 := by rw [w.2.1]; exact hj
    have hL := (J0.2.2.2.1 j hj').2.2
    rw [nI_clamp (by omega), (w.2.2.2.1 j hj').2.1, (w.2.2.2.1 j hj').2.2]
    have hn' : ∀ i, i < j → ¬ fi_sp e 2 ((fd_bf (fi_s a) (fi_q b) F).2.1 i) := fun i hi z => z (hn i hi)
    refine pk_le ((fd_bf (fi_s a) (fi_q b) F).2.2.2 j) 29 (fun z => ⟨vp_in_nI (by omega) (by omega), ?_⟩) (fun z => ?_)
    · exact hp _ (Or.inr ⟨F, j, hF', hj, hs, hn', Or.inl ⟨z, rfl⟩⟩) _ _ _ _ _ _ _ _ _ _ _ _ _ _ _ _ h
    · exact hp _ (Or.inr ⟨F, j, hF', hj, hs, hn', Or.inr ⟨z, rfl⟩⟩) _ _ _ _ _ _ _ _ _ _ _ _ _ _ _ _ h
  · exact hp _ (Or.inl ⟨(fi_none P.1 hb0 hb1 w.2.1 w.2.2.1).mp hn, rfl⟩) _ _ _ _ _ _ _ _ _ _ _ _ _ _ _ _ h
theorem fx_cov_go {post : Int32 → SX → Prop} (h : fx_S a a' b e aO aB aS aE) (hm : m < 2) {F : Nat} {p : Nat → Nat} (hF : F ≤ 1024) (hP : ∀ j, j < F → cP j = nI (p j) ∧ p j < 1024)
    (h0 : ∀ j, j < F → fi_sp e m (p j) → post 0 (aO, aB, aS, aE, cC, cF, cS, cA, cG, cL, cM, cN, cP, cW, cT, cQ)) (h1 : (∀ j, j < F → ¬ fi_sp e m (p j)) → post 1 (aO, aB, aS, aE, cC, cF, cS, cA, cG, cL, cM, cN, cP, cW, cT, cQ)) :
    ∀ d c, c + d = F → (∀ i, i < c → ¬ fi_sp e m (p i)) → wX_covers_17 post (nI m) (nI F) aO aB aS aE cC cF cS cA cG cL cM cN cP cW cT cQ (d + 1) (nI c) := by
  intro d
  induction d with
  | zero =>
    intro c hc hn
    have : c = F := by omega
    subst this
    exact pk_le c c (fun _ => h1 hn) (fun z => absurd z (by omega))
  | succ d ih =>
    intro c hc hn
    have hcF : c < F := by omega
    have hin : vp_in (nI c) 1024 := vp_in_nI (by omega) (by omega)
    refine pk_le F c (fun z => absurd z (by omega)) (fun _ => pk_le 1024 c (fun z => absurd z (by omega)) (fun _ => ⟨hin, ?_⟩))
    rw [nI_clamp (by omega), (hP c hcF).1]
    have nx : ¬ fi_sp e m (p c) → ∀ y, y = nI c + 1 → wX_covers_17 post (nI m) (nI F) aO aB aS aE cC cF cS cA cG cL cM cN cP cW cT cQ (d + 1) y := by
      intro g
      refine nm_r (nI_1 c) (ih (c + 1) (by omega) (fun i hi => ?_))
      by_cases q : i = c
      · subst q; exact g
      · exact hn i (by omega)
    have hm' : m = 0 ∨ m = 1 := by omega
    rcases hm' with rfl | rfl
    · rw [show (1 : Int32) - nI 0 = 1 by decide]
      refine fx_pa1 h (hP c hcF).2 (fx_tv_c (fun gy => ⟨hin, fx_pa0 h (hP c hcF).2 (fx_tv_c (fun gx => ?_) (fun gx => ?_))⟩) (fun gy => ?_))
      · exact nx (fun z => z.2 gx)
      · exact h0 c hcF ⟨gy, gx⟩
      · exact nx (fun z => gy z.1)
    · rw [show (1 : Int32) - nI 1 = 0 by decide]
      refine fx_pa0 h (hP c hcF).2 (fx_tv_c (fun gy => ⟨hin, fx_pa1 h (hP c hcF).2 (fx_tv_c (fun gx => ?_) (fun gx => ?_))⟩) (fun gy => ?_))
      · exact nx (fun z => z.2 gx)
      · exact h0 c hcF ⟨gy, gx⟩
      · exact nx (fun z => gy z.1)
theorem fx_covers {post : Int32 → SX → Prop} (P : fx_P a a' b e) (h : fx_S a a' b e aO aB aS aE) (hm : m < 2) (h1 : ¬ fi_C a b e m → fx_ans a a' b e 1 post) (h0 : fi_C a b e m → fx_ans a a' b e 0 post) : wpX_covers post (aO, aB, aS, aE, cC, cF, cS, cA, cG, cL, cM, cN, cP, cW, cT, cQ) (nI m) := by
  unfold wpX_covers
  dsimp only
  refine fx_bel_t 2 hm (by omega) ?_
  refine fx_walk P h (fun F cP' cW' cT' cQ' w => ?_)
  have hF' : fi_F a b F := ⟨w.1, w.2.1, w.2.2.1⟩
  refine ⟨_, fx_cov_go h hm w.1 (fx_wk_P P w) (fun j hj hs => ?_) (fun hn => ?_) F 0 (by omega) (fun i hi => absurd hi (Nat.not_lt_zero _))⟩
  · exact h0 ⟨F, j, hF', hj, hs⟩ _ _ _ _ _ _ _ _ _ _ _ _ _ _ _ _ h
  · exact h1 (fi_C_n hF' hn) _ _ _ _ _ _ _ _ _ _ _ _ _ _ _ _ h
end
