/-! X: states and sets reached, live, endless -/
section
variable {a a' b e : Nat → Nat} {aO aB aS aE cC cF cS cA cG cL cM cN cP cW cT cQ : Nat → Int32} {m S : Nat}
theorem fx_sr_o_go {post : Int32 → Prop} (P : fx_P a a' b e) (h : fx_S a a' b e aO aB aS aE) (hm : m < 2) : ∀ d c S, c + d = 5 → S < 32 → post (nI (fb_cl (fb_j (ff_r a m 0) (ff_r a m 1)) d S)) →
    wX_statesReached__onward_5 post (nI m) aO aB aS aE cC cF cS cA cG cL cM cN cP cW cT cQ (d + 1) (nI S) (nI c) := by
  have B0 := ff_B P.1 hm (show 0 < 2 by omega)
  have B1 := ff_B P.1 hm (show 1 < 2 by omega)
  intro d
  induction d with
  | zero =>
    intro c S hc _ hp
    exact pk_le 5 c (fun _ => hp) (fun q => absurd q (by omega))
  | succ d ih =>
    intro c S hc hS hp
    refine pk_le 5 c (fun q => absurd q (by omega)) (fun _ => ?_)
    refine fx_step (l := 0) ⟨vp_in_nI (by omega) (by omega), fx_step (l := 1) ⟨vp_in_nI (by omega) (by omega), nm_r (e' := nI (S ||| fb_u (fb_j (ff_r a m 0) (ff_r a m 1)) S)) ?_ (nm_r (nI_1 c) ?_)⟩⟩
    · rw [fx_tab h.1 hm hS (by omega : 0 < 2), fx_tab h.1 hm hS (by omega : 1 < 2), fj_or, fj_or, fb_u_j B0 B1]
      rfl
    · refine ih (c + 1) _ (by omega) (Nat.or_lt_two_pow (n := 5) hS (fb_u_lt (fb_j_B B0 B1) S)) ?_
      rw [← fb_cl_s]; exact hp
theorem fx_sr_o {post : Int32 → Prop} (P : fx_P a a' b e) (h : fx_S a a' b e aO aB aS aE) (hm : m < 2) (hS : S < 32) (hp : post (nI (fb_cl (fb_j (ff_r a m 0) (ff_r a m 1)) 4 S))) :
    wpX_statesReached__onward post (aO, aB, aS, aE, cC, cF, cS, cA, cG, cL, cM, cN, cP, cW, cT, cQ) (nI m) (nI S) := ⟨_, fx_sr_o_go P h hm 4 1 S rfl hS hp⟩
theorem fx_st_o_in {post : Int32 → Prop} {J : Int32 → Int32 → Prop} (P : fx_P a a' b e) (h : fx_S a a' b e aO aB aS aE) (hm : m < 2) {b0 K r : Nat} (hr : r < 2 ^ 30) (hK : K < 2 ^ 32)
    (he : fe_rw (ff_st a m) b0 32 K K → post (nI K)) (hn : ∀ W, fe_rw (ff_st a m) b0 32 K W → J (nI W) (nI (r + 1))) : ∀ d c W, c + d = 32 → fe_rw (ff_st a m) b0 c K W →
    wX_setsReached__onward_20 post J (nI m) (nI K) (nI r) aO aB aS aE cC cF cS cA cG cL cM cN cP cW cT cQ (d + 1) (nI W) (nI c) := by
  intro d
  induction d with
  | zero =>
    intro c W hc hW
    have : c = 32 := by omega
    subst this
    refine pk_le 32 32 (fun _ => br_c (fun q => ?_) (fun q => ?_)) (fun q => absurd q (by omega))
    · rw [fm_inj hW.1 hK] at q
      subst q; exact he hW
    · exact nm_r (nI_1 r) (hn W hW)
  | succ d ih =>
    intro c W hc hW
    refine pk_le 32 c (fun q => absurd q (by omega)) (fun _ => fx_hb hK (by omega) (fx_tv_c (fun g => ?_) (fun g => ?_)))
    · have h0 := ff_st_lt P.1 hm c 0
      have h1 := ff_st_lt P.1 hm c 1
      refine fx_step (l := 0) ⟨vp_in_nI (by omega) (by omega), nm_r (e' := nI (W ||| 2 ^ ff_st a m c 0)) ?_ ?_⟩
      · rw [fx_tab h.1 hm (by omega) (by omega), fj_one h0, fj_or]
      refine fx_step (l := 1) ⟨vp_in_nI (by omega) (by omega), nm_r (e' := nI (W ||| 2 ^ ff_st a m c 0 ||| 2 ^ ff_st a m c 1)) ?_ ?_⟩
      · rw [fx_tab h.1 hm (by omega) (by omega), fj_one h1, fj_or]
      exact nm_r (nI_1 c) (ih (c + 1) _ (by omega) (fe_rw_y hW g ⟨h0, h1⟩))
    · exact nm_r (nI_1 c) (ih (c + 1) _ (by omega) (fe_rw_n hW g))
theorem fx_st_o_go {post : Int32 → Prop} (P : fx_P a a' b e) (h : fx_S a a' b e aO aB aS aE) (hm : m < 2) {b0 : Nat} (hb : b0 < 32)
    (hp : ∀ K, K < 2 ^ 32 → (∀ s, K.testBit s = true ↔ fa_R (ff_st a m) b0 s) → post (nI K)) : ∀ d r K, r + d = 32 → fe_rc (ff_st a m) b0 r K → wX_setsReached__onward_7 post (nI m) aO aB aS aE cC cF cS cA cG cL cM cN cP cW cT cQ (d + 1) (nI K) (nI r) := by
  intro d
  induction d with
  | zero =>
    intro r K hr hK
    exact pk_le 32 r (fun _ => hp K hK.1 (fe_rc_big hK (by omega) (ff_st_c P.1 hm) hb)) (fun q => absurd q (by omega))
  | succ d ih =>
    intro r K hr hK
    refine pk_le 32 r (fun q => absurd q (by omega)) (fun _ => ⟨33, ?_⟩)
    refine fx_st_o_in P h hm (by omega) hK.1 (fun g => hp K hK.1 (fe_rc_st hK g (ff_st_c P.1 hm) hb)) (fun W g => ?_) 32 0 K rfl (fe_rw_0 hK)
    exact ih (r + 1) W (by omega) (fe_rw_r hK g (ff_st_c P.1 hm) hb)
theorem fx_st_o {post : Int32 → Prop} (P : fx_P a a' b e) (h : fx_S a a' b e aO aB aS aE) (hm : m < 2) {b0 : Nat} (hb : b0 < 32)
    (hp : ∀ K, K < 2 ^ 32 → (∀ s, K.testBit s = true ↔ fa_R (ff_st a m) b0 s) → post (nI K)) : wpX_setsReached__onward post (aO, aB, aS, aE, cC, cF, cS, cA, cG, cL, cM, cN, cP, cW, cT, cQ) (nI m) (nI b0) := by
  unfold wpX_setsReached__onward
  dsimp only
  exact nm_r (fj_one hb) ⟨_, fx_st_o_go P h hm hb hp 32 0 _ rfl (fe_rc_0 hb)⟩
theorem fx_sr_b_go {post : Int32 → Prop} (P : fx_P a a' b e) (h : fx_S a a' b e aO aB aS aE) (hm : m < 2) : ∀ d c S, c + d = 5 → S < 32 → post (nI (fb_cl (fb_j (ff_r a' m 0) (ff_r a' m 1)) d S)) →
    wX_statesReached__backward_5 post (nI m) aO aB aS aE cC cF cS cA cG cL cM cN cP cW cT cQ (d + 1) (nI S) (nI c) := by
  have B0 := ff_B P.2.1 hm (show 0 < 2 by omega)
  have B1 := ff_B P.2.1 hm (show 1 < 2 by omega)
  intro d
  induction d with
  | zero =>
    intro c S hc _ hp
    exact pk_le 5 c (fun _ => hp) (fun q => absurd q (by omega))
  | succ d ih =>
    intro c S hc hS hp
    refine pk_le 5 c (fun q => absurd q (by omega)) (fun _ => ?_)
    refine fx_step (l := 0) ⟨vp_in_nI (by omega) (by omega), fx_step (l := 1) ⟨vp_in_nI (by omega) (by omega), nm_r (e' := nI (S ||| fb_u (fb_j (ff_r a' m 0) (ff_r a' m 1)) S)) ?_ (nm_r (nI_1 c) ?_)⟩⟩
    · rw [fx_tab h.2.1 hm hS (by omega : 0 < 2), fx_tab h.2.1 hm hS (by omega : 1 < 2), fj_or, fj_or, fb_u_j B0 B1]
      rfl
    · refine ih (c + 1) _ (by omega) (Nat.or_lt_two_pow (n := 5) hS (fb_u_lt (fb_j_B B0 B1) S)) ?_
      rw [← fb_cl_s]; exact hp
theorem fx_sr_b {post : Int32 → Prop} (P : fx_P a a' b e) (h : fx_S a a' b e aO aB aS aE) (hm : m < 2) (hS : S < 32) (hp : post (nI (fb_cl (fb_j (ff_r a' m 0) (ff_r a' m 1)) 4 S))) :
    wpX_statesReached__backward post (aO, aB, aS, aE, cC, cF, cS, cA, cG, cL, cM, cN, cP, cW, cT, cQ) (nI m) (nI S) := ⟨_, fx_sr_b_go P h hm 4 1 S rfl hS hp⟩
theorem fx_st_b_in {post : Int32 → Prop} {J : Int32 → Int32 → Prop} (P : fx_P a a' b e) (h : fx_S a a' b e aO aB aS aE) (hm : m < 2) {b0 K r : Nat} (hr : r < 2 ^ 30) (hK : K < 2 ^ 32)
    (he : fe_rw (ff_st a' m) b0 32 K K → post (nI K)) (hn : ∀ W, fe_rw (ff_st a' m) b0 32 K W → J (nI W) (nI (r + 1))) : ∀ d c W, c + d = 32 → fe_rw (ff_st a' m) b0 c K W →
    wX_setsReached__backward_20 post J (nI m) (nI K) (nI r) aO aB aS aE cC cF cS cA cG cL cM cN cP cW cT cQ (d + 1) (nI W) (nI c) := by
  intro d
  induction d with
  | zero =>
    intro c W hc hW
    have : c = 32 := by omega
    subst this
    refine pk_le 32 32 (fun _ => br_c (fun q => ?_) (fun q => ?_)) (fun q => absurd q (by omega))
    · rw [fm_inj hW.1 hK] at q
      subst q; exact he hW
    · exact nm_r (nI_1 r) (hn W hW)
  | succ d ih =>
    intro c W hc hW
    refine pk_le 32 c (fun q => absurd q (by omega)) (fun _ => fx_hb hK (by omega) (fx_tv_c (fun g => ?_) (fun g => ?_)))
    · have h0 := ff_st_lt P.2.1 hm c 0
      have h1 := ff_st_lt P.2.1 hm c 1
      refine fx_step (l := 0) ⟨vp_in_nI (by omega) (by omega), nm_r (e' := nI (W ||| 2 ^ ff_st a' m c 0)) ?_ ?_⟩
      · rw [fx_tab h.2.1 hm (by omega) (by omega), fj_one h0, fj_or]
      refine fx_step (l := 1) ⟨vp_in_nI (by omega) (by omega), nm_r (e' := nI (W ||| 2 ^ ff_st a' m c 0 ||| 2 ^ ff_st a' m c 1)) ?_ ?_⟩
      · rw [fx_tab h.2.1 hm (by omega) (by omega), fj_one h1, fj_or]
      exact nm_r (nI_1 c) (ih (c + 1) _ (by omega) (fe_rw_y hW g ⟨h0, h1⟩))
    · exact nm_r (nI_1 c) (ih (c + 1) _ (by omega) (fe_rw_n hW g))
theorem fx_st_b_go {post : Int32 → Prop} (P : fx_P a a' b e) (h : fx_S a a' b e aO aB aS aE) (hm : m < 2) {b0 : Nat} (hb : b0 < 32)
    (hp : ∀ K, K < 2 ^ 32 → (∀ s, K.testBit s = true ↔ fa_R (ff_st a' m) b0 s) → post (nI K)) : ∀ d r K, r + d = 32 → fe_rc (ff_st a' m) b0 r K → wX_setsReached__backward_7 post (nI m) aO aB aS aE cC cF cS cA cG cL cM cN cP cW cT cQ (d + 1) (nI K) (nI r) := by
  intro d
  induction d with
  | zero =>
    intro r K hr hK
    exact pk_le 32 r (fun _ => hp K hK.1 (fe_rc_big hK (by omega) (ff_st_c P.2.1 hm) hb)) (fun q => absurd q (by omega))
  | succ d ih =>
    intro r K hr hK
    refine pk_le 32 r (fun q => absurd q (by omega)) (fun _ => ⟨33, ?_⟩)
    refine fx_st_b_in P h hm (by omega) hK.1 (fun g => hp K hK.1 (fe_rc_st hK g (ff_st_c P.2.1 hm) hb)) (fun W g => ?_) 32 0 K rfl (fe_rw_0 hK)
    exact ih (r + 1) W (by omega) (fe_rw_r hK g (ff_st_c P.2.1 hm) hb)
theorem fx_st_b {post : Int32 → Prop} (P : fx_P a a' b e) (h : fx_S a a' b e aO aB aS aE) (hm : m < 2) {b0 : Nat} (hb : b0 < 32)
    (hp : ∀ K, K < 2 ^ 32 → (∀ s, K.testBit s = true ↔ fa_R (ff_st a' m) b0 s) → post (nI K)) : wpX_setsReached__backward post (aO, aB, aS, aE, cC, cF, cS, cA, cG, cL, cM, cN, cP, cW, cT, cQ) (nI m) (nI b0) := by
  unfold wpX_setsReached__backward
  dsimp only
  exact nm_r (fj_one hb) ⟨_, fx_st_b_go P h hm hb hp 32 0 _ rfl (fe_rc_0 hb)⟩
/-- the live states -/
def fx_lv (a a' b e : Nat → Nat) (m : Nat) : Nat := fb_cl (fb_j (ff_r a m 0) (ff_r a m 1)) 4 (b m) &&& fb_cl (fb_j (ff_r a' m 0) (ff_r a' m 1)) 4 (e m)
theorem fx_lv_lt (P : fx_P a a' b e) (hm : m < 2) : fx_lv a a' b e m < 32 :=
  Nat.lt_of_le_of_lt Nat.and_le_left (fb_cl_lt (fb_j_B (ff_B P.1 hm (by omega)) (ff_B P.1 hm (by omega))) (P.2.2.2.1 m hm) 4)
theorem fx_live {post : Int32 → Prop} (P : fx_P a a' b e) (h : fx_S a a' b e aO aB aS aE) (hm : m < 2) (hp : post (nI (fx_lv a a' b e m))) : wpX_liveStates post (aO, aB, aS, aE, cC, cF, cS, cA, cG, cL, cM, cN, cP, cW, cT, cQ) (nI m) := by
  have hin : vp_in (nI m) 2 := vp_in_nI hm (by omega)
  refine ⟨hin, ?_⟩
  rw [fx_vec h.2.2.1 hm]
  refine fx_sr_o P h hm (P.2.2.2.1 m hm) ⟨hin, ?_⟩
  rw [fx_vec h.2.2.2 hm]
  refine fx_sr_b P h hm (P.2.2.2.2 m hm) ?_
  rw [nx_and]; exact hp
/-- s lies on a round -/
def fx_rd (a : Nat → Nat) (m s : Nat) : Prop := (fb_cl (fb_j (ff_r a m 0) (ff_r a m 1)) 4 (fb_u (fb_j (ff_r a m 0) (ff_r a m 1)) (2 ^ s))).testBit s = true
theorem fx_round {post : Int32 → Prop} (P : fx_P a a' b e) (h : fx_S a a' b e aO aB aS aE) (hm : m < 2) {s : Nat} (hs : s < 5) (hp : fx_tv (fx_rd a m s) post) : wpX_isOnRound post (aO, aB, aS, aE, cC, cF, cS, cA, cG, cL, cM, cN, cP, cW, cT, cQ) (nI m) (nI s) := by
  have h2s := fb_2lt hs
  have B0 := ff_B P.1 hm (show 0 < 2 by omega)
  have B1 := ff_B P.1 hm (show 1 < 2 by omega)
  unfold wpX_isOnRound
  dsimp only
  rw [fj_one (by omega : s < 32)]
  refine fx_step (l := 0) ⟨vp_in_nI (by omega) (by omega), fx_step (l := 1) ⟨vp_in_nI (by omega) (by omega), nm_r (e' := nI (fb_u (fb_j (ff_r a m 0) (ff_r a m 1)) (2 ^ s))) ?_ ?_⟩⟩
  · rw [fx_tab h.1 hm h2s (by omega : 0 < 2), fx_tab h.1 hm h2s (by omega : 1 < 2), fj_or, fb_u_j B0 B1]
    rfl
  refine fx_sr_o P h hm (fb_u_lt (fb_j_B B0 B1) _) ?_
  have := fb_cl_lt (fb_j_B B0 B1) (fb_u_lt (fb_j_B B0 B1) (2 ^ s)) 4
  exact fx_hb (by omega) (by omega) (fx_tv_n hp)
def fx_el (a a' b e : Nat → Nat) (m : Nat) : Prop := ∃ s, s < 5 ∧ (fx_lv a a' b e m).testBit s = true ∧ fx_rd a m s
theorem fx_endless_go {post : Int32 → Prop} (P : fx_P a a' b e) (h : fx_S a a' b e aO aB aS aE) (hm : m < 2) (hp : fx_tv (fx_el a a' b e m) post) : ∀ d s, s + d = 5 → (∀ t, t < s → ¬ ((fx_lv a a' b e m).testBit t = true ∧ fx_rd a m t)) →
    wX_endless_18 post (nI m) (nI (fx_lv a a' b e m)) aO aB aS aE cC cF cS cA cG cL cM cN cP cW cT cQ (d + 1) (nI s) := by
  have hlt := fx_lv_lt P hm
  intro d
  induction d with
  | zero =>
    intro s hs hn
    have : s = 5 := by omega
    subst this
    refine pk_le 5 5 (fun _ => hp.2 ?_) (fun q => absurd q (by omega))
    rintro ⟨s, hs, g⟩
    exact hn s hs g
  | succ d ih =>
    intro s hs hn
    refine pk_le 5 s (fun q => absurd q (by omega)) (fun _ => fx_hb (by omega) (by omega) (fx_tv_c (fun g => ?_) (fun g => ?_)))
    · refine fx_round P h hm (by omega) (fx_tv_c (fun g' => ?_) (fun g' => ?_))
      · exact hp.1 ⟨s, by omega, g, g'⟩
      · refine nm_r (nI_1 s) (ih (s + 1) (by omega) (fun t ht => ?_))
        by_cases q : t = s
        · subst q; exact fun z => g' z.2
        · exact hn t (by omega)
    · refine nm_r (nI_1 s) (ih (s + 1) (by omega) (fun t ht => ?_))
      by_cases q : t = s
      · subst q; exact fun z => g z.1
      · exact hn t (by omega)
end
