/-! X: arrow, cut, ends, turn -/
section
variable {a a' b e : Nat → Nat} {aO aB aS aE cC cF cS cA cG cL cM cN cP cW cT cQ : Nat → Int32} {m s l t : Nat}
theorem fx_join_o {post : SX → Prop} (ha : ff_ok a) (hm : m < 2) (hl : l < 2) : ∀ d c (aO : Nat → Int32), c + d = 32 → 0 < c → fk_J aO a m l c → (∀ aO' : Nat → Int32, fk_T aO' a → post (aO', aB, aS, aE, cC, cF, cS, cA, cG, cL, cM, cN, cP, cW, cT, cQ)) →
    wX_joinSets__onward_2 post (nI m) (nI l) (d + 1) (nI c) aO aB aS aE cC cF cS cA cG cL cM cN cP cW cT cQ := by
  intro d
  induction d with
  | zero =>
    intro c aO hc _ hJ hp
    have : c = 32 := by omega
    subst this
    exact pk_le 32 32 (fun _ => hp aO (fk_J_end hJ)) (fun q => absurd q (by omega))
  | succ d ih =>
    intro c aO hc h0 hJ hp
    obtain ⟨hlow, hle, _⟩ := fj_lowI c (by omega) h0
    refine pk_le 32 c (fun q => absurd q (by omega)) (fun _ => nm_r hlow ?_)
    refine fx_step ⟨vp_in_nI (by omega) (by omega), nm_r (fx_get (by omega)) ?_⟩
    rw [pk_sub hle]
    refine fx_step ⟨vp_in_nI (by omega) (by omega), nm_r (fx_get (by omega)) ?_⟩
    refine fx_step ⟨vp_in_nI (by omega) (by omega), nm_r (fx_put (by omega) rfl) (nm_r (nI_1 c) ?_)⟩
    exact ih (c + 1) _ (by omega) (by omega) (fk_J_step ha hm hl (by omega) h0 hJ) hp
theorem fx_join_b {post : SX → Prop} (ha : ff_ok a) (hm : m < 2) (hl : l < 2) : ∀ d c (aB : Nat → Int32), c + d = 32 → 0 < c → fk_J aB a m l c → (∀ aB' : Nat → Int32, fk_T aB' a → post (aO, aB', aS, aE, cC, cF, cS, cA, cG, cL, cM, cN, cP, cW, cT, cQ)) →
    wX_joinSets__backward_2 post (nI m) (nI l) (d + 1) (nI c) aO aB aS aE cC cF cS cA cG cL cM cN cP cW cT cQ := by
  intro d
  induction d with
  | zero =>
    intro c aB hc _ hJ hp
    have : c = 32 := by omega
    subst this
    exact pk_le 32 32 (fun _ => hp aB (fk_J_end hJ)) (fun q => absurd q (by omega))
  | succ d ih =>
    intro c aB hc h0 hJ hp
    obtain ⟨hlow, hle, _⟩ := fj_lowI c (by omega) h0
    refine pk_le 32 c (fun q => absurd q (by omega)) (fun _ => nm_r hlow ?_)
    refine fx_step ⟨vp_in_nI (by omega) (by omega), nm_r (fx_get (by omega)) ?_⟩
    rw [pk_sub hle]
    refine fx_step ⟨vp_in_nI (by omega) (by omega), nm_r (fx_get (by omega)) ?_⟩
    refine fx_step ⟨vp_in_nI (by omega) (by omega), nm_r (fx_put (by omega) rfl) (nm_r (nI_1 c) ?_)⟩
    exact ih (c + 1) _ (by omega) (by omega) (fk_J_step ha hm hl (by omega) h0 hJ) hp
theorem fx_flip {post : SX → Prop} (P : fx_P a a' b e) (h : fx_S a a' b e aO aB aS aE) (hm : m < 2) (hs : s < 5) (hl : l < 2) (ht : t < 5)
    (hp : ∀ aO' aB' : Nat → Int32, fk_T aO' (fk_fl a (10 * m + 2 * s + l) t) → fk_T aB' (fk_fl a' (10 * m + 2 * t + l) s) → post (aO', aB', aS, aE, cC, cF, cS, cA, cG, cL, cM, cN, cP, cW, cT, cQ)) :
    wpX_flipArrow post (aO, aB, aS, aE, cC, cF, cS, cA, cG, cL, cM, cN, cP, cW, cT, cQ) (nI m) (nI s) (nI l) (nI t) := by
  have h2s := fb_2lt hs
  have h2t := fb_2lt ht
  unfold wpX_flipArrow
  dsimp only
  rw [fj_one (by omega : s < 32), fj_one (by omega : t < 32)]
  refine fx_step ⟨vp_in_nI (by omega) (by omega), vp_in_nI (by omega) (by omega), nm_r (fx_put (y := nI (a (10 * m + 2 * s + l) ^^^ 2 ^ t)) (by omega) ?_) ?_⟩
  · rw [fx_tab h.1 hm h2s hl, ff_st_1 P.1 hm hs hl, nx_xor]
  refine fx_step ⟨vp_in_nI (by omega) (by omega), vp_in_nI (by omega) (by omega), nm_r (fx_put (y := nI (a' (10 * m + 2 * t + l) ^^^ 2 ^ s)) (by omega) ?_) ?_⟩
  · rw [fx_tab h.2.1 hm h2t hl, ff_st_1 P.2.1 hm ht hl, nx_xor]
  refine ⟨_, fx_join_o (fk_fl_ok P.1 ht) hm hl 31 1 _ rfl (by omega) (fk_J_flip P.1 hm hs hl ht h.1) (fun aO' hO => ?_)⟩
  refine ⟨_, fx_join_b (fk_fl_ok P.2.1 hs) hm hl 31 1 _ rfl (by omega) (fk_J_flip P.2.1 hm ht hl hs h.2.1) (fun aB' hB => ?_)⟩
  exact hp aO' aB' hO hB
theorem fx_flip_P (P : fx_P a a' b e) (hs : s < 5) (hl : l < 2) (ht : t < 5) : fx_P (fk_fl a (10 * m + 2 * s + l) t) (fk_fl a' (10 * m + 2 * t + l) s) b e :=
  ⟨fk_fl_ok P.1 ht, fk_fl_ok P.2.1 hs, fk_fl_cv P.2.2.1 hs hl ht, P.2.2.2.1, P.2.2.2.2⟩
theorem fx_hasArrow {post : Int32 → Prop} (P : fx_P a a' b e) (h : fx_S a a' b e aO aB aS aE) (hm : m < 2) (hs : s < 5) (hl : l < 2) (ht : t < 5)
    (hp : fx_tv ((a (10 * m + 2 * s + l)).testBit t = true) post) : wpX_hasArrow post (aO, aB, aS, aE, cC, cF, cS, cA, cG, cL, cM, cN, cP, cW, cT, cQ) (nI m) (nI s) (nI l) (nI t) := by
  have h2s := fb_2lt hs
  have hi := P.1 (10 * m + 2 * s + l) (by omega)
  unfold wpX_hasArrow
  dsimp only
  rw [fj_one (by omega : s < 32)]
  refine fx_step ⟨vp_in_nI (by omega) (by omega), ?_⟩
  rw [fx_tab h.1 hm h2s hl, ff_st_1 P.1 hm hs hl]
  exact fx_hb (by omega) (by omega) (fx_tv_n hp)
/-- all four of an arrow are in range -/
def fx_four (x y z w : Int32) (m s l t : Nat) : Prop := m < 2 ∧ s < 5 ∧ l < 2 ∧ t < 5 ∧ x = nI m ∧ y = nI s ∧ z = nI l ∧ w = nI t
theorem fx_four_x (x y z w : Int32) : (fx_bad x 2 ∨ fx_bad y 5 ∨ fx_bad z 2 ∨ fx_bad w 5) ∨ ∃ m s l t, fx_four x y z w m s l t := by
  rcases fx_ix3 x (n := 2) (by omega) with h | ⟨m, hm, ex⟩
  · exact Or.inl (Or.inl h)
  rcases fx_ix3 y (n := 5) (by omega) with h | ⟨s, hs, ey⟩
  · exact Or.inl (Or.inr (Or.inl h))
  rcases fx_ix3 z (n := 2) (by omega) with h | ⟨l, hl, ez⟩
  · exact Or.inl (Or.inr (Or.inr (Or.inl h)))
  rcases fx_ix3 w (n := 5) (by omega) with h | ⟨t, ht, ew⟩
  · exact Or.inl (Or.inr (Or.inr (Or.inr h)))
  exact Or.inr ⟨m, s, l, t, hm, hs, hl, ht, ex, ey, ez, ew⟩
theorem fx_range_t {post : Int32 → Prop} (hm : m < 2) (hs : s < 5) (hl : l < 2) (ht : t < 5) (hp : post 1) : wpX_isArrowInRange post (nI m) (nI s) (nI l) (nI t) := by
  unfold wpX_isArrowInRange
  exact fx_bel_t 2 hm (by omega) (fx_bel_t 5 hs (by omega) (fx_bel_t 2 hl (by omega) (fx_bel_t 5 ht (by omega) hp)))
theorem fx_range_f {post : Int32 → Prop} {x y z w : Int32} (h : fx_bad x 2 ∨ fx_bad y 5 ∨ fx_bad z 2 ∨ fx_bad w 5) (hp : post 0) : wpX_isArrowInRange post x y z w := by
  unfold wpX_isArrowInRange
  rcases fx_ix3 x (n := 2) (by omega) with hx | ⟨m, hm, rfl⟩
  · exact fx_bel_f (n := 2) hx hp
  refine fx_bel_t 2 hm (by omega) ?_
  rcases fx_ix3 y (n := 5) (by omega) with hy | ⟨s, hs, rfl⟩
  · exact fx_bel_f (n := 5) hy hp
  refine fx_bel_t 5 hs (by omega) ?_
  rcases fx_ix3 z (n := 2) (by omega) with hz | ⟨l, hl, rfl⟩
  · exact fx_bel_f (n := 2) hz hp
  refine fx_bel_t 2 hl (by omega) ?_
  rcases fx_ix3 w (n := 5) (by omega) with hw | ⟨t, ht, rfl⟩
  · exact fx_bel_f (n := 5) hw hp
  exfalso
  rcases h with h | h | h | h
  · exact fx_ne h hm (by omega) rfl
  · exact fx_ne h hs (by omega) rfl
  · exact fx_ne h hl (by omega) rfl
  · exact fx_ne h ht (by omega) rfl
/-- turning: the rows of machine m exchanged up to i -/
def fx_tu (t0 t1 t : Nat → Int32) (st i : Nat) : Prop := ∀ j, t j = if st ≤ j ∧ j < st + i then t1 j else t0 j
theorem fx_tu_s {t0 t1 t : Nat → Int32} {st i : Nat} (h : fx_tu t0 t1 t st i) : fx_tu t0 t1 (upd t (st + i) (t1 (st + i))) st (i + 1) := by
  intro j
  by_cases q : j = st + i
  · subst q
    rw [pk_us, if_pos (by omega)]
  · rw [pk_un q, h j]
    by_cases g : st ≤ j ∧ j < st + i
    · rw [if_pos g, if_pos (by omega)]
    · rw [if_neg g, if_neg (by omega)]
theorem fx_turn_go {post : Int32 → SX → Prop} (tO tB : Nat → Int32) (st : Nat) (hst : st + 64 ≤ 128) (hm : m < 2) (hp : ∀ aO' aB' : Nat → Int32, fx_tu tO tB aO' st 64 → fx_tu tB tO aB' st 64 → post 1 (aO', aB', (upd aS m (aE m)), (upd aE m (aS m)), cC, cF, cS, cA, cG, cL, cM, cN, cP, cW, cT, cQ)) :
    ∀ d i (aO aB : Nat → Int32), i + d = 64 → fx_tu tO tB aO st i → fx_tu tB tO aB st i → wX_turn_19 post (nI m) (nI st) (d + 1) (nI i) aO aB aS aE cC cF cS cA cG cL cM cN cP cW cT cQ := by
  intro d
  induction d with
  | zero =>
    intro i aO aB hi hO hB
    have : i = 64 := by omega
    subst this
    refine pk_le 64 64 (fun _ => ?_) (fun q => absurd q (by omega))
    have hin : vp_in (nI m) 2 := vp_in_nI hm (by omega)
    refine ⟨hin, nm_r (fx_get (by omega)) ⟨hin, hin, nm_r (fx_put (by omega) (fx_get (by omega))) ⟨hin, nm_r (fx_put (by omega) rfl) ?_⟩⟩⟩
    exact hp aO aB hO hB
  | succ d ih =>
    intro i aO aB hi hO hB
    refine pk_le 64 i (fun q => absurd q (by omega)) (fun _ => ?_)
    rw [nI_add]
    have hin : vp_in (nI (st + i)) 128 := vp_in_nI (by omega) (by omega)
    have e1 : aO (st + i) = tO (st + i) := by rw [hO, if_neg (by omega)]
    have e2 : aB (st + i) = tB (st + i) := by rw [hB, if_neg (by omega)]
    refine ⟨hin, nm_r ((fx_get (by omega)).trans e1) ⟨hin, hin, nm_r (fx_put (by omega) ((fx_get (by omega)).trans e2)) ⟨hin, nm_r (fx_put (by omega) rfl) (nm_r (nI_1 i) ?_)⟩⟩⟩
    exact ih (i + 1) _ _ (by omega) (fx_tu_s hO) (fx_tu_s hB)
theorem fx_tu_T {t0 t1 t : Nat → Int32} (h0 : fk_T t0 a) (h1 : fk_T t1 a') (hm : m < 2) (h : fx_tu t0 t1 t (64 * m) 64) : fk_T t (fk_sw a a' m) := by
  intro m' S l' hm' hS hl
  rw [h, fk_sw_st m m' S hl]
  by_cases q : m' = m
  · rw [if_pos (by omega), if_pos q]; exact h1 m' S l' hm' hS hl
  · rw [if_neg (by omega), if_neg q]; exact h0 m' S l' hm' hS hl
theorem fx_swv {t0 t1 : Nat → Int32} (h0 : fk_V t0 b) (h1 : fk_V t1 e) (hm : m < 2) : fk_V (upd t0 m (t1 m)) (fk_swv b e m) := by
  intro m' hm'
  unfold fk_swv
  by_cases q : m' = m
  · subst q; rw [pk_us, if_pos rfl]; exact h1 m' hm'
  · rw [pk_un q, if_neg q]; exact h0 m' hm'
theorem fx_swv_ok (hb : fk_ok b) (he : fk_ok e) : fk_ok (fk_swv b e m) := by
  intro m' hm'
  unfold fk_swv
  split
  · exact he m' hm'
  · exact hb m' hm'
theorem fx_turn {post : Int32 → SX → Prop} (h : fx_S a a' b e aO aB aS aE) (hm : m < 2)
    (hp : ∀ aO' aB' aS' aE' : Nat → Int32, fx_S (fk_sw a a' m) (fk_sw a' a m) (fk_swv b e m) (fk_swv e b m) aO' aB' aS' aE' → post 1 (aO', aB', aS', aE', cC, cF, cS, cA, cG, cL, cM, cN, cP, cW, cT, cQ)) : wpX_turn post (aO, aB, aS, aE, cC, cF, cS, cA, cG, cL, cM, cN, cP, cW, cT, cQ) (nI m) := by
  unfold wpX_turn
  dsimp only
  refine fx_bel_t 2 hm (by omega) ?_
  refine fx_step (S := 0) (l := 0) ?_
  rw [show (m * 32 + 0) * 2 + 0 = 64 * m by omega]
  refine ⟨_, fx_turn_go aO aB (64 * m) (by omega) hm (fun aO' aB' hO hB => ?_) 64 0 aO aB rfl ?_ ?_⟩
  · exact hp _ _ _ _ ⟨fx_tu_T h.1 h.2.1 hm hO, fx_tu_T h.2.1 h.1 hm hB, fx_swv h.2.2.1 h.2.2.2 hm, fx_swv h.2.2.2 h.2.2.1 hm⟩
  · intro j; rw [if_neg (by omega)]
  · intro j; rw [if_neg (by omega)]
theorem fx_turn_P (P : fx_P a a' b e) (m : Nat) : fx_P (fk_sw a a' m) (fk_sw a' a m) (fk_swv b e m) (fk_swv e b m) :=
  ⟨fk_sw_ok P.1 P.2.1 m, fk_sw_ok P.2.1 P.1 m, fk_sw_cv P.2.2.1 m, fx_swv_ok P.2.2.2.1 P.2.2.2.2, fx_swv_ok P.2.2.2.2 P.2.2.2.1⟩
end
