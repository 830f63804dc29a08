/-! X: the four engines for size -/
section
variable {a a' b e : Nat → Nat} {aO aB aS aE cC cF cS cA cG cL cM cN cP cW cT cQ : Nat → Int32} {m x l : Nat}
/-- what every engine leaves: the answer, in any state with the same machines -/
def fx_ans (a a' b e : Nat → Nat) (v : Int32) (post : Int32 → SX → Prop) : Prop := ∀ aO aB aS aE cC cF cS cA cG cL cM cN cP cW cT cQ : Nat → Int32, fx_S a a' b e aO aB aS aE → post v (aO, aB, aS, aE, cC, cF, cS, cA, cG, cL, cM, cN, cP, cW, cT, cQ)
theorem fx_s0_go {post : Int32 → SX → Prop} {K : Nat} {cl : Nat → Nat} {R : Nat → Prop} (hm : m < 2) (hC : fx_ar cC cl 64) (hcl : ∀ x, x < 64 → cl x < 64) (hK : K < 2 ^ 32) (hR : ∀ s, K.testBit s = true ↔ R s)
    (hp : post (nI (fa_ct (fe_nb R (fun s t => cl (m * 32 + s) = cl (m * 32 + t))) 32)) (aO, aB, aS, aE, cC, cF, cS, cA, cG, cL, cM, cN, cP, cW, cT, cQ)) : ∀ d c A n, c + d = 32 → A < 2 ^ 64 → (∀ q, A.testBit q = true ↔ ∃ s, s < c ∧ R s ∧ cl (m * 32 + s) = q) → n = fa_ct (fe_nb R (fun s t => cl (m * 32 + s) = cl (m * 32 + t))) c →
    wX_sizeByClasses_27 post (nI m) (nI K) aO aB aS aE cC cF cS cA cG cL cM cN cP cW cT cQ (d + 1) (lN A) (nI n) (nI c) := by
  intro d
  induction d with
  | zero =>
    intro c A n hc _ _ hn
    have : c = 32 := by omega
    subst this
    refine pk_le 32 32 (fun _ => ?_) (fun q => absurd q (by omega))
    rw [hn]; exact hp
  | succ d ih =>
    intro c A n hc hA hq hn
    refine pk_le 32 c (fun q => absurd q (by omega)) (fun _ => ?_)
    rw [fx_ix2]
    have hx : m * 32 + c < 64 := by omega
    have hlt := hcl _ hx
    refine ⟨vp_in_nI hx (by omega), nm_r ((fx_get (by omega)).trans (hC _ hx)) (fx_hb hK (by omega) (fx_tv_c (fun g => ?_) (fun g => ?_)))⟩
    · have hr := (hR c).mp g
      refine br_c (fun z => ?_) (fun z => ?_)
      · rw [fj_lu0 hA hlt] at z
        rw [fj_lone hlt]
        refine nm_r (wb_or hA (Nat.pow_lt_pow_right (by omega) hlt)) (nm_r (nI_1 n) (nm_r (nI_1 c) ?_))
        refine ih (c + 1) _ (n + 1) (by omega) (Nat.or_lt_two_pow hA (Nat.pow_lt_pow_right (by omega) hlt)) (fun q => ?_) ?_
        · constructor
          · intro t
            rcases fe_or_e t with t | t
            · obtain ⟨s, h1, h2, h3⟩ := (hq q).mp t
              exact ⟨s, by omega, h2, h3⟩
            · rw [fb_2p] at t
              exact ⟨c, by omega, hr, t⟩
          · rintro ⟨s, h1, h2, h3⟩
            by_cases u : s = c
            · subst u; exact fb_orr (fb_2p.mpr h3)
            · exact fb_ol ((hq q).mpr ⟨s, by omega, h2, h3⟩)
        · rw [fa_ct_t ⟨hr, fun t ht hrt het => z ((hq _).mpr ⟨t, ht, hrt, het⟩)⟩, hn]
      · rw [fj_lu0 hA hlt] at z
        have z' : A.testBit (cl (m * 32 + c)) = true := Classical.byContradiction z
        obtain ⟨s, h1, h2, h3⟩ := (hq _).mp z'
        refine nm_r (nI_1 c) (ih (c + 1) A n (by omega) hA (fun q => ?_) ?_)
        · constructor
          · intro t
            obtain ⟨s, h1, h2, h3⟩ := (hq q).mp t
            exact ⟨s, by omega, h2, h3⟩
          · rintro ⟨s', g1, g2, g3⟩
            by_cases u : s' = c
            · subst u; rw [← g3]; exact z'
            · exact (hq q).mpr ⟨s', by omega, g2, g3⟩
        · rw [fa_ct_f (fun y => y.2 s h1 h2 h3), hn]
    · have hr : ¬ R c := fun y => g ((hR c).mpr y)
      refine nm_r (nI_1 c) (ih (c + 1) A n (by omega) hA (fun q => ?_) ?_)
      · constructor
        · intro t
          obtain ⟨s, h1, h2, h3⟩ := (hq q).mp t
          exact ⟨s, by omega, h2, h3⟩
        · rintro ⟨s', g1, g2, g3⟩
          by_cases u : s' = c
          · subst u; exact absurd g2 hr
          · exact (hq q).mpr ⟨s', by omega, g2, g3⟩
      · rw [fa_ct_f (fun y => hr y.1), hn]
theorem fx_N_lt (a b e : Nat → Nat) (m : Nat) : ff_N a b e m ≤ 32 := fa_ct_bd 32
theorem fx_size0 {post : Int32 → SX → Prop} (P : fx_P a a' b e) (h : fx_S a a' b e aO aB aS aE) (hm : m < 2) (hp : fx_ans a a' b e (nI (ff_N a b e m)) post) : wpX_sizeByClasses post (aO, aB, aS, aE, cC, cF, cS, cA, cG, cL, cM, cN, cP, cW, cT, cQ) (nI m) := by
  have hb := P.2.2.2.1 m hm
  unfold wpX_sizeByClasses
  dsimp only
  refine fx_sort P h (fun cC' cF' cS' cl hC hcl => ⟨vp_in_nI hm (by omega), ?_⟩)
  dsimp only
  rw [fx_vec h.2.2.1 hm]
  refine fx_st_o P h hm hb (fun K hK hR => ⟨_, fx_s0_go hm hC hcl.1 hK hR ?_ 32 0 0 0 rfl (by decide) (fun q => ?_) rfl⟩)
  · have : fa_ct (fe_nb (fa_R (ff_st a m) (b m)) (fun s t => cl (m * 32 + s) = cl (m * 32 + t))) 32 = ff_N a b e m := by
      refine fe_nb_congr (fun _ _ => Iff.rfl) (fun s t hs ht _ _ => ?_)
      rw [hcl.2 _ _ (by omega) (by omega), Nat.mul_comm m 32]
      exact ff_I P.1 hm hs ht
    rw [this]
    exact hp _ _ _ _ _ _ _ _ _ _ _ _ _ _ _ _ h
  · rw [Nat.zero_testBit]
    exact ⟨fun z => Bool.noConfusion z, fun ⟨s, hs, _⟩ => absurd hs (Nat.not_lt_zero _)⟩
/-! engine 1 -/
def fx_Q (t : Nat → Int32) (z : Nat) : Prop := t z ≠ 0
theorem fx_mea_in {post : SX → Prop} {J : Int32 → (Nat → Int32) → (Nat → Int32) → (Nat → Int32) → (Nat → Int32) → (Nat → Int32) → (Nat → Int32) → (Nat → Int32) → (Nat → Int32) → (Nat → Int32) → (Nat → Int32) → (Nat → Int32) → (Nat → Int32) → (Nat → Int32) → (Nat → Int32) → (Nat → Int32) → (Nat → Int32) → Prop}
    (h : fx_S a a' b e aO aB aS aE) (hm : m < 2) {x : Nat} (hx : x < 32) (hJ : ∀ cA' : Nat → Int32, (∀ z, z < 32 * x + 32 → (fx_Q cA' z ↔ ¬ (ff_g e m (z / 32) ↔ ff_g e m (z % 32)))) → J (nI (x + 1)) aO aB aS aE cC cF cS cA' cG cL cM cN cP cW cT cQ) :
    ∀ d y (cA : Nat → Int32), y + d = 32 → (∀ z, z < 32 * x + y → (fx_Q cA z ↔ ¬ (ff_g e m (z / 32) ↔ ff_g e m (z % 32)))) → wX_markEndingApart_10 post J (nI m) (nI x) (d + 1) (nI y) aO aB aS aE cC cF cS cA cG cL cM cN cP cW cT cQ := by
  intro d
  induction d with
  | zero =>
    intro y cA hy hq
    have : y = 32 := by omega
    subst this
    exact pk_le 32 32 (fun _ => nm_r (nI_1 x) (hJ cA hq)) (fun q => absurd q (by omega))
  | succ d ih =>
    intro y cA hy hq
    refine pk_le 32 y (fun q => absurd q (by omega)) (fun _ => ?_)
    have key : ∀ v : Int32, (v ≠ 0 ↔ ¬ (ff_g e m x ↔ ff_g e m y)) → ∀ z, z < 32 * x + (y + 1) → (fx_Q (upd cA (x * 32 + y) v) z ↔ ¬ (ff_g e m (z / 32) ↔ ff_g e m (z % 32))) := by
      intro v hv z hz
      by_cases g : z = x * 32 + y
      · subst g
        unfold fx_Q
        rw [pk_us, hv, show (x * 32 + y) / 32 = x by omega, show (x * 32 + y) % 32 = y by omega]
      · unfold fx_Q
        rw [pk_un g]; exact hq z (by omega)
    rw [fx_ix2]
    refine fx_ending h hm hx (fx_tv_m (fun gx => fx_ending h hm (by omega) (fx_tv_m (fun gy => ?_) (fun gy => ?_))) (fun gx => fx_ending h hm (by omega) (fx_tv_m (fun gy => ?_) (fun gy => ?_))))
    · exact br_t rfl ⟨vp_in_nI (by omega) (by omega), nm_r (fx_put (by omega) fx_nb0) (nm_r (nI_1 y) (ih (y + 1) _ (by omega) (key 0 ⟨fun z => absurd rfl z, fun z => absurd ⟨fun _ => gy, fun _ => gx⟩ z⟩)))⟩
    · exact br_f fx_n1 ⟨vp_in_nI (by omega) (by omega), nm_r (fx_put (by omega) fx_nb1) (nm_r (nI_1 y) (ih (y + 1) _ (by omega) (key 1 ⟨fun _ z => gy (z.mp gx), fun _ => fx_n1⟩)))⟩
    · exact br_f (fun z => fx_n1 z.symm) ⟨vp_in_nI (by omega) (by omega), nm_r (fx_put (by omega) fx_nb1) (nm_r (nI_1 y) (ih (y + 1) _ (by omega) (key 1 ⟨fun _ z => gx (z.mpr gy), fun _ => fx_n1⟩)))⟩
    · exact br_t rfl ⟨vp_in_nI (by omega) (by omega), nm_r (fx_put (by omega) fx_nb0) (nm_r (nI_1 y) (ih (y + 1) _ (by omega) (key 0 ⟨fun z => absurd rfl z, fun z => absurd ⟨fun q => absurd q gx, fun q => absurd q gy⟩ z⟩)))⟩
theorem fx_mea_go {post : SX → Prop} (h : fx_S a a' b e aO aB aS aE) (hm : m < 2) (hp : ∀ cA' : Nat → Int32, (∀ z, z < 1024 → (fx_Q cA' z ↔ ¬ (ff_g e m (z / 32) ↔ ff_g e m (z % 32)))) → post (aO, aB, aS, aE, cC, cF, cS, cA', cG, cL, cM, cN, cP, cW, cT, cQ)) :
    ∀ d x (cA : Nat → Int32), x + d = 32 → (∀ z, z < 32 * x → (fx_Q cA z ↔ ¬ (ff_g e m (z / 32) ↔ ff_g e m (z % 32)))) → wX_markEndingApart_2 post (nI m) (d + 1) (nI x) aO aB aS aE cC cF cS cA cG cL cM cN cP cW cT cQ := by
  intro d
  induction d with
  | zero =>
    intro x cA hx hq
    have : x = 32 := by omega
    subst this
    exact pk_le 32 32 (fun _ => hp cA hq) (fun q => absurd q (by omega))
  | succ d ih =>
    intro x cA hx hq
    refine pk_le 32 x (fun q => absurd q (by omega)) (fun _ => ⟨_, fx_mea_in h hm (by omega) (fun cA' hq' => ?_) 32 0 cA rfl hq⟩)
    exact ih (x + 1) cA' (by omega) hq'
theorem fx_mea {post : SX → Prop} (h : fx_S a a' b e aO aB aS aE) (hm : m < 2) (hp : ∀ cA' : Nat → Int32, (∀ z, z < 1024 → (fx_Q cA' z ↔ ¬ (ff_g e m (z / 32) ↔ ff_g e m (z % 32)))) → post (aO, aB, aS, aE, cC, cF, cS, cA', cG, cL, cM, cN, cP, cW, cT, cQ)) : wpX_markEndingApart post (aO, aB, aS, aE, cC, cF, cS, cA, cG, cL, cM, cN, cP, cW, cT, cQ) (nI m) :=
  ⟨_, fx_mea_go h hm hp 32 0 cA rfl (fun z hz => absurd hz (Nat.not_lt_zero _))⟩
theorem fx_aal {post : Int32 → Prop} (P : fx_P a a' b e) (h : fx_S a a' b e aO aB aS aE) (hm : m < 2) {x y : Nat} (hx : x < 32) (hy : y < 32)
    (hp : fx_tv (fx_Q cA (32 * ff_st a m x 0 + ff_st a m y 0) ∨ fx_Q cA (32 * ff_st a m x 1 + ff_st a m y 1)) post) : wpX_isApartAfterLetter post (aO, aB, aS, aE, cC, cF, cS, cA, cG, cL, cM, cN, cP, cW, cT, cQ) (nI m) (nI x) (nI y) := by
  have gx0 := ff_st_lt P.1 hm x 0
  have gx1 := ff_st_lt P.1 hm x 1
  have gy0 := ff_st_lt P.1 hm y 0
  have gy1 := ff_st_lt P.1 hm y 1
  refine ⟨3, ?_⟩
  refine pk_le 2 0 (fun q => absurd q (by omega)) (fun _ => ?_) rfl rfl
  refine fx_step (l := 0) ⟨vp_in_nI (by omega) (by omega), nm_r (fx_tab h.1 hm hx (by omega)) (fx_step (l := 0) ⟨vp_in_nI (by omega) (by omega), nm_r (fx_tab h.1 hm hy (by omega)) ?_⟩)⟩
  rw [fx_ix2, Nat.mul_comm _ 32]
  refine ⟨vp_in_nI (by omega) (by omega), ?_⟩
  rw [nI_clamp (by omega)]
  refine br_c (fun z0 => ?_) (fun z0 => hp.1 (Or.inl z0))
  refine nm_r (e' := nI 1) (by decide) ?_
  refine pk_le 2 1 (fun q => absurd q (by omega)) (fun _ => ?_)
  refine fx_step ⟨vp_in_nI (by omega) (by omega), nm_r (fx_tab h.1 hm hx (by omega)) (fx_step ⟨vp_in_nI (by omega) (by omega), nm_r (fx_tab h.1 hm hy (by omega)) ?_⟩)⟩
  rw [fx_ix2, Nat.mul_comm _ 32]
  refine ⟨vp_in_nI (by omega) (by omega), ?_⟩
  rw [nI_clamp (by omega)]
  refine br_c (fun z1 => ?_) (fun z1 => hp.1 (Or.inr z1))
  refine nm_r (e' := nI 2) (by decide) ?_
  refine pk_le 2 2 (fun _ => hp.2 ?_) (fun q => absurd q (by omega))
  rintro (z | z)
  · exact z z0
  · exact z z1
end
