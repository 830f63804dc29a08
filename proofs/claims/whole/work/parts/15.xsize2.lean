/-! X: engine 1 for size, its rounds and its count; engines 2 and 3 -/
section
variable {a a' b e : Nat → Nat} {aO aB aS aE cC cF cS cA cG cL cM cN cP cW cT cQ : Nat → Int32} {m x l : Nat}
def fx_c1 (a : Nat → Nat) (m : Nat) (cA : Nat → Int32) (c : Nat) : Prop :=
  ∀ x y, x < 32 → y < 32 → 32 * x + y < c → ¬ fx_Q cA (32 * x + y) → ¬ fx_Q cA (32 * ff_st a m x 0 + ff_st a m y 0) ∧ ¬ fx_Q cA (32 * ff_st a m x 1 + ff_st a m y 1)
def fx_mi (a e : Nat → Nat) (m r c : Nat) (k : Int32) (cA : Nat → Int32) : Prop :=
  fe_mk (ff_st a m) (ff_g e m) r c (fx_Q cA) ∧ (k = 1 ∨ k = 0 ∧ fx_c1 a m cA c)
theorem fx_mma_in {post : Int32 → SX → Prop} {J : Int32 → Int32 → (Nat → Int32) → (Nat → Int32) → (Nat → Int32) → (Nat → Int32) → (Nat → Int32) → (Nat → Int32) → (Nat → Int32) → (Nat → Int32) → (Nat → Int32) → (Nat → Int32) → (Nat → Int32) → (Nat → Int32) → (Nat → Int32) → (Nat → Int32) → (Nat → Int32) → (Nat → Int32) → Prop}
    (P : fx_P a a' b e) (h : fx_S a a' b e aO aB aS aE) (hm : m < 2) {r x : Nat} (hx : x < 32) (hJ : ∀ (k : Int32) (cA' : Nat → Int32), fx_mi a e m r (32 * x + 32) k cA' → J k (nI (x + 1)) aO aB aS aE cC cF cS cA' cG cL cM cN cP cW cT cQ) :
    ∀ d y (k : Int32) (cA : Nat → Int32), y + d = 32 → fx_mi a e m r (32 * x + y) k cA → wX_markMoreApart_13 post J (nI m) (nI x) (d + 1) k (nI y) aO aB aS aE cC cF cS cA cG cL cM cN cP cW cT cQ := by
  intro d
  induction d with
  | zero =>
    intro y k cA hy hq
    have : y = 32 := by omega
    subst this
    exact pk_le 32 32 (fun _ => nm_r (nI_1 x) (hJ k cA hq)) (fun q => absurd q (by omega))
  | succ d ih =>
    intro y k cA hy hq
    refine pk_le 32 y (fun q => absurd q (by omega)) (fun _ => ?_)
    have hy' : y < 32 := by omega
    rw [fx_ix2]
    have hin : vp_in (nI (x * 32 + y)) 1024 := vp_in_nI (by omega) (by omega)
    refine ⟨hin, ?_⟩
    rw [nI_clamp (by omega)]
    have ec : x * 32 + y = 32 * x + y := by omega
    rw [ec]
    refine br_c (fun z => ?_) (fun z => ?_)
    · refine fx_aal P h hm hx hy' (fx_tv_c (fun g => ?_) (fun g => ?_))
      · refine ⟨vp_in_nI (n := 32 * x + y) (by omega) (by omega), nm_r (e' := upd cA (32 * x + y) 1) rfl (nm_r (nI_1 y) (ih (y + 1) 1 _ (by omega) ⟨?_, Or.inl rfl⟩))⟩
        refine fe_mk_s hq.1 hx hy' (ff_st_c P.1 hm) (fun w _ hw => ?_) ?_
        · unfold fx_Q; rw [pk_un hw]
        · refine ⟨fun _ => Or.inr g, fun _ => ?_⟩
          unfold fx_Q; rw [pk_us]; exact fx_n1
      · refine nm_r (nI_1 y) (ih (y + 1) k cA (by omega) ⟨?_, ?_⟩)
        · refine fe_mk_s hq.1 hx hy' (ff_st_c P.1 hm) (fun w _ _ => Iff.rfl) ⟨fun t => Or.inl t, fun t => ?_⟩
          rcases t with t | t
          · exact t
          · exact absurd t g
        · rcases hq.2 with t | ⟨t, u⟩
          · exact Or.inl t
          · refine Or.inr ⟨t, fun x' y' hx' hy2 hlt hn => ?_⟩
            by_cases v : 32 * x' + y' = 32 * x + y
            · have : x' = x := by omega
              have : y' = y := by omega
              subst x'; subst y'
              exact ⟨fun w => g (Or.inl w), fun w => g (Or.inr w)⟩
            · exact u x' y' hx' hy2 (by omega) hn
    · refine nm_r (nI_1 y) (ih (y + 1) k cA (by omega) ⟨?_, ?_⟩)
      · exact fe_mk_s hq.1 hx hy' (ff_st_c P.1 hm) (fun w _ _ => Iff.rfl) ⟨fun t => Or.inl t, fun _ => z⟩
      · rcases hq.2 with t | ⟨t, u⟩
        · exact Or.inl t
        · refine Or.inr ⟨t, fun x' y' hx' hy2 hlt hn => ?_⟩
          by_cases v : 32 * x' + y' = 32 * x + y
          · rw [v] at hn; exact absurd z hn
          · exact u x' y' hx' hy2 (by omega) hn
theorem fx_mma_go {post : Int32 → SX → Prop} (P : fx_P a a' b e) (h : fx_S a a' b e aO aB aS aE) (hm : m < 2) {r : Nat} (hp : ∀ (k : Int32) (cA' : Nat → Int32), fx_mi a e m r 1024 k cA' → post k (aO, aB, aS, aE, cC, cF, cS, cA', cG, cL, cM, cN, cP, cW, cT, cQ)) :
    ∀ d x (k : Int32) (cA : Nat → Int32), x + d = 32 → fx_mi a e m r (32 * x) k cA → wX_markMoreApart_4 post (nI m) (d + 1) k (nI x) aO aB aS aE cC cF cS cA cG cL cM cN cP cW cT cQ := by
  intro d
  induction d with
  | zero =>
    intro x k cA hx hq
    have : x = 32 := by omega
    subst this
    refine pk_le 32 32 (fun _ => ⟨?_, hp k cA hq⟩) (fun q => absurd q (by omega))
    rcases hq.2 with t | ⟨t, _⟩
    · rw [t]; rfl
    · rw [t]; rfl
  | succ d ih =>
    intro x k cA hx hq
    refine pk_le 32 x (fun q => absurd q (by omega)) (fun _ => ⟨_, fx_mma_in P h hm (by omega) (fun k' cA' hq' => ?_) 32 0 k cA rfl hq⟩)
    exact ih (x + 1) k' cA' (by omega) hq'
theorem fx_mma {post : Int32 → SX → Prop} (P : fx_P a a' b e) (h : fx_S a a' b e aO aB aS aE) (hm : m < 2) {r : Nat} (hq : fe_mk (ff_st a m) (ff_g e m) r 0 (fx_Q cA))
    (hp : ∀ (k : Int32) (cA' : Nat → Int32), fx_mi a e m r 1024 k cA' → post k (aO, aB, aS, aE, cC, cF, cS, cA', cG, cL, cM, cN, cP, cW, cT, cQ)) : wpX_markMoreApart post (aO, aB, aS, aE, cC, cF, cS, cA, cG, cL, cM, cN, cP, cW, cT, cQ) (nI m) :=
  ⟨_, fx_mma_go P h hm hp 32 0 0 cA rfl ⟨hq, Or.inr ⟨rfl, fun _ _ _ _ hz => absurd hz (Nat.not_lt_zero _)⟩⟩⟩
theorem fx_like1_go {post : Int32 → Prop} {K s : Nat} (hK : K < 2 ^ 32) (hs : s < 32) (hp : fx_tv (∃ t, t < s ∧ K.testBit t = true ∧ ¬ fx_Q cA (32 * t + s)) post) :
    ∀ d c, c + d = s → (∀ t, t < c → ¬ (K.testBit t = true ∧ ¬ fx_Q cA (32 * t + s))) → wX_isLikeEarlier_2 post (nI s) (nI K) aO aB aS aE cC cF cS cA cG cL cM cN cP cW cT cQ (d + 1) (nI c) := by
  intro d
  induction d with
  | zero =>
    intro c hc hn
    have : c = s := by omega
    subst this
    refine pk_le c c (fun _ => hp.2 ?_) (fun q => absurd q (by omega))
    rintro ⟨t, ht, g⟩
    exact hn t ht g
  | succ d ih =>
    intro c hc hn
    refine pk_le s c (fun q => absurd q (by omega)) (fun _ => fx_hb hK (by omega) (fx_tv_c (fun g => ?_) (fun g => ?_)))
    · rw [fx_ix2, Nat.mul_comm c 32]
      refine ⟨vp_in_nI (by omega) (by omega), ?_⟩
      rw [nI_clamp (by omega)]
      refine br_c (fun z => hp.1 ⟨c, by omega, g, fun w => w z⟩) (fun z => nm_r (nI_1 c) (ih (c + 1) (by omega) (fun t ht => ?_)))
      by_cases q : t = c
      · subst q; exact fun w => w.2 z
      · exact hn t (by omega)
    · refine nm_r (nI_1 c) (ih (c + 1) (by omega) (fun t ht => ?_))
      by_cases q : t = c
      · subst q; exact fun w => g w.1
      · exact hn t (by omega)
theorem fx_s1_go {post : Int32 → SX → Prop} {K : Nat} {R : Nat → Prop} (hK : K < 2 ^ 32) (hR : ∀ s, K.testBit s = true ↔ R s)
    (hp : post (nI (fa_ct (fe_nb R (fun s t => ¬ fx_Q cA (32 * s + t))) 32)) (aO, aB, aS, aE, cC, cF, cS, cA, cG, cL, cM, cN, cP, cW, cT, cQ)) : ∀ d c n, c + d = 32 → n = fa_ct (fe_nb R (fun s t => ¬ fx_Q cA (32 * s + t))) c → wX_sizeByMarks_51 post (nI K) aO aB aS aE cC cF cS cA cG cL cM cN cP cW cT cQ (d + 1) (nI n) (nI c) := by
  intro d
  induction d with
  | zero =>
    intro c n hc hn
    have : c = 32 := by omega
    subst this
    refine pk_le 32 32 (fun _ => ?_) (fun q => absurd q (by omega))
    rw [hn]; exact hp
  | succ d ih =>
    intro c n hc hn
    refine pk_le 32 c (fun q => absurd q (by omega)) (fun _ => fx_hb hK (by omega) (fx_tv_c (fun g => ?_) (fun g => ?_)))
    · refine ⟨_, fx_like1_go hK (by omega) (fx_tv_c (fun z => ?_) (fun z => ?_)) c 0 (by omega) (fun t ht => absurd ht (Nat.not_lt_zero _))⟩
      · obtain ⟨t, ht, h1, h2⟩ := z
        refine nm_r (nI_1 c) (ih (c + 1) n (by omega) ?_)
        rw [fa_ct_f (fun y => y.2 t ht ((hR t).mp h1) h2), hn]
      · refine nm_r (nI_1 n) (nm_r (nI_1 c) (ih (c + 1) (n + 1) (by omega) ?_))
        rw [fa_ct_t ⟨(hR c).mp g, fun t ht hr he => z ⟨t, ht, (hR t).mpr hr, he⟩⟩, hn]
    · refine nm_r (nI_1 c) (ih (c + 1) n (by omega) ?_)
      rw [fa_ct_f (fun y => g ((hR c).mpr y.1)), hn]
theorem fx_s1_end {post : Int32 → SX → Prop} (P : fx_P a a' b e) (h : fx_S a a' b e aO aB aS aE) (hm : m < 2) (hq : ∀ x y, x < 32 → y < 32 → (fx_Q cA (32 * x + y) ↔ ¬ fa_I (ff_st a m) (ff_g e m) x y))
    (hp : fx_ans a a' b e (nI (ff_N a b e m)) post) : wX_sizeByMarks_31 post (nI m) aO aB aS aE cC cF cS cA cG cL cM cN cP cW cT cQ := by
  have hb := P.2.2.2.1 m hm
  refine ⟨vp_in_nI hm (by omega), ?_⟩
  rw [fx_vec h.2.2.1 hm]
  refine fx_st_o P h hm hb (fun K hK hR => ⟨_, fx_s1_go hK hR ?_ 32 0 0 rfl rfl⟩)
  have : fa_ct (fe_nb (fa_R (ff_st a m) (b m)) (fun s t => ¬ fx_Q cA (32 * s + t))) 32 = ff_N a b e m := by
    refine fe_nb_congr (fun _ _ => Iff.rfl) (fun s t hs ht _ _ => ?_)
    rw [hq s t hs ht]
    exact ⟨fun z => Classical.byContradiction z, fun z w => w z⟩
  rw [this]
  exact hp _ _ _ _ _ _ _ _ _ _ _ _ _ _ _ _ h
theorem fx_s1_rounds {post : Int32 → SX → Prop} (P : fx_P a a' b e) (h : fx_S a a' b e aO aB aS aE) (hm : m < 2) (hp : fx_ans a a' b e (nI (ff_N a b e m)) post) :
    ∀ d r (cA : Nat → Int32), r + d = 1024 → fe_mk (ff_st a m) (ff_g e m) r 0 (fx_Q cA) → wX_sizeByMarks_7 post (nI m) (d + 1) (nI r) aO aB aS aE cC cF cS cA cG cL cM cN cP cW cT cQ := by
  intro d
  induction d with
  | zero =>
    intro r cA hr hq
    exact pk_le 1024 r (fun _ => fx_s1_end P h hm (fun x y hx hy => fe_mk_big hq (by omega) (ff_st_c P.1 hm) hx hy) hp) (fun q => absurd q (by omega))
  | succ d ih =>
    intro r cA hr hq
    refine pk_le 1024 r (fun q => absurd q (by omega)) (fun _ => fx_mma P h hm hq (fun k cA' hk => ?_))
    rcases hk.2 with t | ⟨t, u⟩
    · subst t
      exact br_f fx_n1 (nm_r (nI_1 r) (ih (r + 1) cA' (by omega) (fe_mk_r hk.1)))
    · subst t
      refine br_t rfl (fx_s1_end P h hm (fun x y hx hy => fe_mk_cl (fe_mk_r hk.1) (ff_st_c P.1 hm) (fun x y hx hy hn => u x y hx hy (by omega) hn) hx hy) hp)
theorem fx_size1 {post : Int32 → SX → Prop} (P : fx_P a a' b e) (h : fx_S a a' b e aO aB aS aE) (hm : m < 2) (hp : fx_ans a a' b e (nI (ff_N a b e m)) post) : wpX_sizeByMarks post (aO, aB, aS, aE, cC, cF, cS, cA, cG, cL, cM, cN, cP, cW, cT, cQ) (nI m) := by
  unfold wpX_sizeByMarks
  dsimp only
  refine fx_mea h hm (fun cA' hq => ⟨_, fx_s1_rounds P h hm hp 1024 0 cA' rfl (fe_mk_0 (fun x y hx hy => ?_))⟩)
  rw [hq (32 * x + y) (by omega), show (32 * x + y) / 32 = x by omega, show (32 * x + y) % 32 = y by omega]
/-! engines 2 and 3 -/
theorem fx_meet_go {post : Int32 → Prop} {K S : Nat} (hK : K < 2 ^ 32) (hS : S < 32) (hp : post (nI (fm_M K S))) : ∀ d c, c + d = 32 → wX_setsMeeting_4 post (nI K) (nI S) (d + 1) (nI (fm_k (fm_p K S) c)) (nI c) := by
  intro d
  induction d with
  | zero =>
    intro c hc
    have : c = 32 := by omega
    subst this
    exact pk_le 32 32 (fun _ => hp) (fun q => absurd q (by omega))
  | succ d ih =>
    intro c hc
    refine pk_le 32 c (fun q => absurd q (by omega)) (fun _ => fx_hb hK (by omega) (fx_tv_c (fun g => ?_) (fun g => ?_)))
    · refine br_c (fun z => ?_) (fun z => ?_)
      · rw [fx_and0 _ _ (by omega)] at z
        have := ih (c + 1) (by omega)
        rw [fm_k_f (fun y => z y.2)] at this
        exact nm_r (nI_1 c) this
      · rw [fx_and0 _ _ (by omega)] at z
        have := ih (c + 1) (by omega)
        rw [fm_k_t ⟨g, Classical.byContradiction z⟩] at this
        rw [fj_one (by omega)]
        exact nm_r (fj_or _ _) (nm_r (nI_1 c) this)
    · have := ih (c + 1) (by omega)
      rw [fm_k_f (fun y => g y.1)] at this
      exact nm_r (nI_1 c) this
theorem fx_meet {post : Int32 → Prop} {K S : Nat} (hK : K < 2 ^ 32) (hS : S < 32) (hp : post (nI (fm_M K S))) : wpX_setsMeeting post (nI K) (nI S) :=
  ⟨_, fx_meet_go hK hS hp 32 0 rfl⟩
theorem fx_group_go {post : Int32 → Prop} (P : fx_P a a' b e) (h : fx_S a a' b e aO aB aS aE) (hm : m < 2) {K G l : Nat} (hK : K < 2 ^ 32) (hG : G < 2 ^ 32) (hl : l < 2) (hp : post (nI (fm_k (fm_q (ff_st a' m) K G l) 32))) :
    ∀ d c, c + d = 32 → wX_groupAfter_6 post (nI m) (nI K) (nI G) (nI l) aO aB aS aE cC cF cS cA cG cL cM cN cP cW cT cQ (d + 1) (nI (fm_k (fm_q (ff_st a' m) K G l) c)) (nI c) := by
  intro d
  induction d with
  | zero =>
    intro c hc
    have : c = 32 := by omega
    subst this
    exact pk_le 32 32 (fun _ => hp) (fun q => absurd q (by omega))
  | succ d ih =>
    intro c hc
    have hlt := ff_st_lt P.2.1 hm c l
    refine pk_le 32 c (fun q => absurd q (by omega)) (fun _ => fx_step ⟨vp_in_nI (by omega) (by omega), nm_r (fx_tab h.2.1 hm (by omega) hl) (fx_hb hK (by omega) (fx_tv_c (fun g => ?_) (fun g => ?_)))⟩)
    · refine fx_hb hG hlt (fx_tv_c (fun g' => ?_) (fun g' => ?_))
      · have := ih (c + 1) (by omega)
        rw [fm_k_t ⟨g, g'⟩] at this
        rw [fj_one (by omega)]
        exact nm_r (fj_or _ _) (nm_r (nI_1 c) this)
      · have := ih (c + 1) (by omega)
        rw [fm_k_f (fun y => g' y.2)] at this
        exact nm_r (nI_1 c) this
    · have := ih (c + 1) (by omega)
      rw [fm_k_f (fun y => g y.1)] at this
      exact nm_r (nI_1 c) this
theorem fx_group {post : Int32 → Prop} (P : fx_P a a' b e) (h : fx_S a a' b e aO aB aS aE) (hm : m < 2) {K G l : Nat} (hK : K < 2 ^ 32) (hG : G < 2 ^ 32) (hl : l < 2) (hp : post (nI (fm_k (fm_q (ff_st a' m) K G l) 32))) :
    wpX_groupAfter post (aO, aB, aS, aE, cC, cF, cS, cA, cG, cL, cM, cN, cP, cW, cT, cQ) (nI m) (nI K) (nI G) (nI l) := ⟨_, fx_group_go P h hm hK hG hl hp 32 0 rfl⟩
theorem fx_note_go {post : Int32 → SX → Prop} {n : Nat} {g : Int32} (hn : n ≤ 32) (h1 : ∀ k, k < n → cG k = g → post (nI n) (aO, aB, aS, aE, cC, cF, cS, cA, cG, cL, cM, cN, cP, cW, cT, cQ)) (h0 : (∀ k, k < n → cG k ≠ g) → n < 32 → post (nI (n + 1)) (aO, aB, aS, aE, cC, cF, cS, cA, (upd cG n g), cL, cM, cN, cP, cW, cT, cQ)) (hb : (∀ k, k < n → cG k ≠ g) → n < 32) :
    ∀ d c, c + d = n → (∀ k, k < c → cG k ≠ g) → wX_noteGroup_2 post g (nI n) aO aB aS aE cC cF cS cA cG cL cM cN cP cW cT cQ (d + 1) (nI c) := by
  intro d
  induction d with
  | zero =>
    intro c hc hk
    have : c = n := by omega
    subst this
    refine pk_le c c (fun _ => ?_) (fun q => absurd q (by omega))
    have hlt := hb hk
    refine pk_lt c 32 (fun _ => ⟨vp_in_nI hlt (by omega), nm_r (fx_put (by omega) rfl) ?_⟩) (fun q => absurd q (by omega))
    rw [nI_1]; exact h0 hk hlt
  | succ d ih =>
    intro c hc hk
    refine pk_le n c (fun q => absurd q (by omega)) (fun _ => pk_le 32 c (fun q => absurd q (by omega)) (fun _ => ⟨vp_in_nI (by omega) (by omega), ?_⟩))
    rw [nI_clamp (by omega)]
    refine br_c (fun z => h1 c (by omega) z) (fun z => nm_r (nI_1 c) (ih (c + 1) (by omega) (fun k hk' => ?_)))
    by_cases q : k = c
    · subst q; exact z
    · exact hk k (by omega)
/-- a longer list that begins as the shorter one -/
def fx_xt (n : Nat) (G : Nat → Int32) (n' : Nat) (G' : Nat → Int32) : Prop := n ≤ n' ∧ ∀ k, k < n → G' k = G k
theorem fx_note {post : Int32 → SX → Prop} {R : Nat → Prop} {M : Nat → Nat} {n s : Nat} (hG : fm_G R M n cG) (hs : s < 32) (hr : R s)
    (hp : ∀ n' (cG' : Nat → Int32), fm_G R M n' cG' → fx_xt n cG n' cG' → (∃ k, k < n' ∧ cG' k = nI (M s)) → post (nI n') (aO, aB, aS, aE, cC, cF, cS, cA, cG', cL, cM, cN, cP, cW, cT, cQ)) : wpX_noteGroup post (aO, aB, aS, aE, cC, cF, cS, cA, cG, cL, cM, cN, cP, cW, cT, cQ) (nI (M s)) (nI n) := by
  refine ⟨_, fx_note_go (fm_G_32 hG) (fun k hk e => hp n cG hG ⟨Nat.le_refl _, fun _ _ => rfl⟩ ⟨k, hk, e⟩) (fun hne _ => ?_) (fun hne => ?_) n 0 (by omega) (fun k hk => absurd hk (Nat.not_lt_zero _))⟩
  · exact hp (n + 1) _ (fm_G_new hG hs hr hne) ⟨by omega, fun k hk => pk_un (by omega)⟩ ⟨n, by omega, pk_us⟩
  · have := fm_G_32 (fm_G_new hG hs hr hne)
    omega
theorem fx_s3_go {post : Int32 → SX → Prop} {R : Nat → Prop} {K L : Nat} (hK : K < 2 ^ 32) (hL : L < 2 ^ 32) (hR : ∀ s, K.testBit s = true ↔ R s)
    (hp : ∀ n (cG' : Nat → Int32), fm_G R (fm_M L) n cG' → (∀ s, s < 32 → R s → ∃ k, k < n ∧ cG' k = nI (fm_M L s)) → post (nI n) (aO, aB, aS, aE, cC, cF, cS, cA, cG', cL, cM, cN, cP, cW, cT, cQ)) :
    ∀ d c n (cG : Nat → Int32), c + d = 32 → fm_G R (fm_M L) n cG → (∀ s, s < c → R s → ∃ k, k < n ∧ cG k = nI (fm_M L s)) → wX_sizeByRows_36 post (nI K) (nI L) (d + 1) (nI n) (nI c) aO aB aS aE cC cF cS cA cG cL cM cN cP cW cT cQ := by
  intro d
  induction d with
  | zero =>
    intro c n cG hc hG hall
    have : c = 32 := by omega
    subst this
    exact pk_le 32 32 (fun _ => hp n cG hG hall) (fun q => absurd q (by omega))
  | succ d ih =>
    intro c n cG hc hG hall
    refine pk_le 32 c (fun q => absurd q (by omega)) (fun _ => fx_hb hK (by omega) (fx_tv_c (fun g => ?_) (fun g => ?_)))
    · refine fx_meet hL (by omega) (fx_note hG (show c < 32 by omega) ((hR c).mp g) (fun n' cG' hG' hx hk => ?_))
      refine nm_r (nI_1 c) (ih (c + 1) n' cG' (by omega) hG' (fun s hs hr => ?_))
      by_cases q : s = c
      · subst q; exact hk
      · obtain ⟨k, h1, h2⟩ := hall s (by omega) hr
        exact ⟨k, Nat.lt_of_lt_of_le h1 hx.1, (hx.2 k h1).trans h2⟩
    · refine nm_r (nI_1 c) (ih (c + 1) n cG (by omega) hG (fun s hs hr => ?_))
      by_cases q : s = c
      · subst q; exact absurd ((hR s).mpr hr) g
      · exact hall s (by omega) hr
theorem fx_N_M (P : fx_P a a' b e) (hm : m < 2) {L : Nat} (hL : ∀ s, L.testBit s = true ↔ fa_R (ff_st a' m) (e m) s) : fa_ct (fe_nb (fa_R (ff_st a m) (b m)) (fun s t => fm_M L s = fm_M L t)) 32 = ff_N a b e m :=
  fe_nb_congr (fun _ _ => Iff.rfl) (fun _ _ hs ht _ _ => fm_M_I P.1 P.2.1 P.2.2.1 hm (P.2.2.2.2 m hm) hL hs ht)
theorem fx_size3 {post : Int32 → SX → Prop} (P : fx_P a a' b e) (h : fx_S a a' b e aO aB aS aE) (hm : m < 2) (hp : fx_ans a a' b e (nI (ff_N a b e m)) post) : wpX_sizeByRows post (aO, aB, aS, aE, cC, cF, cS, cA, cG, cL, cM, cN, cP, cW, cT, cQ) (nI m) := by
  have hb := P.2.2.2.1 m hm
  have he := P.2.2.2.2 m hm
  refine ⟨vp_in_nI hm (by omega), ?_⟩
  rw [fx_vec h.2.2.1 hm]
  refine fx_st_o P h hm hb (fun K hK hR => ⟨vp_in_nI hm (by omega), ?_⟩)
  rw [fx_vec h.2.2.2 hm]
  refine fx_st_b P h hm he (fun L hL hT => ⟨_, fx_s3_go hK hL hR (fun n cG' hG hall => ?_) 32 0 0 cG rfl ⟨fun i j hi => absurd hi (Nat.not_lt_zero _), fun i hi => absurd hi (Nat.not_lt_zero _)⟩ (fun s hs => absurd hs (Nat.not_lt_zero _))⟩)
  rw [fm_G_end (fm_M_lt L) hG hall, fx_N_M P hm hT]
  exact hp _ _ _ _ _ _ _ _ _ _ _ _ _ _ _ _ h
theorem fx_s2_end {n : Nat} {R : Nat → Prop} {d : Nat → Nat → Nat} {M : Nat → Nat} {b0 : Nat} (hR : ∀ s, R s ↔ fa_R d b0 s) (hc : ∀ x, x < 32 → d x 0 < 32 ∧ d x 1 < 32) (hb : b0 < 32) (h0 : ∃ k, k < n ∧ cG k = nI (M b0)) (hW : fm_W d M n n cG) :
    ∀ s, s < 32 → R s → ∃ k, k < n ∧ cG k = nI (M s) := by
  intro s _ hr
  have := fa_R_of (d := d) (b := b0) (fun s => s < 32 ∧ ∃ k, k < n ∧ cG k = nI (M s)) ⟨hb, h0⟩ (fun s hs => ?_) (fun s hs => ?_) s ((hR s).mp hr)
  · exact this.2
  · obtain ⟨hs, k, hk, e⟩ := hs
    exact ⟨(hc s hs).1, (hW k s hk hs e).1⟩
  · obtain ⟨hs, k, hk, e⟩ := hs
    exact ⟨(hc s hs).2, (hW k s hk hs e).2⟩
end
