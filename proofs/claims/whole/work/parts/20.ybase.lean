/-! Y: ranges, steps, words, changes -/
def fy_S (a b e : Nat → Nat) (yA yB yF : Nat → Int32) : Prop := fk_A yA a ∧ fk_V yB b ∧ fk_V yF e
theorem fy_ix (m s l : Nat) : (10 * nI m + 2 * nI s) + nI l = nI (10 * m + 2 * s + l) := by
  show (nI 10 * nI m + nI 2 * nI s) + nI l = _
  rw [pk_mul, pk_mul, nI_add, nI_add]
section
variable {a a' b e : Nat → Nat} {yA yB yF yO yS yP : Nat → Int32} {yW : Nat → Int64} {m s l t : Nat}
theorem fy_machine_t {post : Int32 → Prop} (hm : m < 2) (hp : post 1) : wpY_machine post (yA, yB, yF, yO, yS, yW, yP) (nI m) :=
  pk_eq m 0 (fun _ => hp) (fun q => pk_eq m 1 (fun _ => hp) (fun q' => absurd hm (by omega)))
theorem fy_machine_f {post : Int32 → Prop} {x : Int32} (h : fx_bad x 2) (hp : post 0) : wpY_machine post (yA, yB, yF, yO, yS, yW, yP) x :=
  br_f (fx_ne (k := 0) h (by omega) (by omega)) (br_f (fx_ne (k := 1) h (by omega) (by omega)) hp)
theorem fy_fits_t {post : Int32 → Prop} (hm : m < 2) (hs : s < 5) (hl : l < 2) (ht : t < 5) (hp : post 1) : wpY_fits post (yA, yB, yF, yO, yS, yW, yP) (nI m) (nI s) (nI l) (nI t) := by
  have last : wY_fits_26 post (nI t) yA yB yF yO yS yW yP := br_f (nI_pos (by omega)) (pk_lt 4 t (fun q => absurd q (by omega)) (fun _ => hp))
  unfold wpY_fits
  dsimp only
  refine fy_machine_t hm (br_f fx_n1 (br_f (nI_pos (by omega)) (pk_lt 4 s (fun q => absurd q (by omega)) (fun _ => pk_eq l 0 (fun _ => last) (fun q => pk_eq l 1 (fun _ => last) (fun q' => absurd hl (by omega)))))))
theorem fy_fits_f {post : Int32 → Prop} {x y z w : Int32} (h : fx_bad x 2 ∨ fx_bad y 5 ∨ fx_bad z 2 ∨ fx_bad w 5) (hp : post 0) : wpY_fits post (yA, yB, yF, yO, yS, yW, yP) x y z w := by
  unfold wpY_fits
  dsimp only
  rcases fx_ix3 x (n := 2) (by omega) with hx | ⟨m, hm, rfl⟩
  · exact fy_machine_f hx (br_t rfl hp)
  refine fy_machine_t hm (br_f fx_n1 ?_)
  rcases fx_ix3 y (n := 5) (by omega) with hy | ⟨s, hs, rfl⟩
  · rcases hy with hy | hy
    · exact br_t hy hp
    · by_cases h0 : y < 0
      · exact br_t h0 hp
      · exact br_f h0 (br_t (Int32.lt_of_lt_of_le (by decide : (4 : Int32) < nI 5) hy) hp)
  refine br_f (nI_pos (by omega)) (pk_lt 4 s (fun q => absurd q (by omega)) (fun _ => ?_))
  rcases fx_ix3 z (n := 2) (by omega) with hz | ⟨l, hl, rfl⟩
  · exact br_f (fx_ne (k := 0) hz (by omega) (by omega)) (br_f (fx_ne (k := 1) hz (by omega) (by omega)) hp)
  have hw : fx_bad w 5 := by
    rcases h with h | h | h | h
    · exact absurd rfl (fx_ne h hm (by omega))
    · exact absurd rfl (fx_ne h hs (by omega))
    · exact absurd rfl (fx_ne h hl (by omega))
    · exact h
  have last : wY_fits_26 post w yA yB yF yO yS yW yP := by
    rcases hw with hw | hw
    · exact br_t hw hp
    · by_cases h0 : w < 0
      · exact br_t h0 hp
      · exact br_f h0 (br_t (Int32.lt_of_lt_of_le (by decide : (4 : Int32) < nI 5) hw) hp)
  exact pk_eq l 0 (fun _ => last) (fun q => pk_eq l 1 (fun _ => last) (fun q' => absurd hl (by omega)))
theorem fy_has {post : Int32 → Prop} (P : fx_P a a' b e) (h : fy_S a b e yA yB yF) (hm : m < 2) (hs : s < 5) (hl : l < 2) (ht : t < 5) (hp : fx_tv ((a (10 * m + 2 * s + l)).testBit t = true) post) :
    wpY_has post (yA, yB, yF, yO, yS, yW, yP) (nI m) (nI s) (nI l) (nI t) := by
  have hi : 10 * m + 2 * s + l < 20 := by omega
  have hv := P.1 _ hi
  unfold wpY_has
  dsimp only
  rw [fy_ix, nI_clamp (by omega), h.1 _ hi]
  refine ⟨vp_in_nI hi (by omega), br_c (fun z => hp.1 ((fj_s1 (by omega) (by omega)).mp z)) (fun z => hp.2 (fun y => z ((fj_s1 (by omega) (by omega)).mpr y)))⟩
theorem fy_fl_A {yA' : Nat → Int32} (h : fk_A yA a) {i v : Nat} (hi : i < 20) (hv : v = a i ^^^ 2 ^ t) : fk_A (upd yA i (nI v)) (fk_fl a i t) := by
  intro j hj
  by_cases q : j = i
  · subst q; rw [pk_us, fk_fl_s, hv]
  · rw [pk_un q, fk_fl_n q]; exact h j hj
theorem fy_arrow {post : Int32 → SY → Prop} (P : fx_P a a' b e) (h : fy_S a b e yA yB yF) (hm : m < 2) (hs : s < 5) (hl : l < 2) (ht : t < 5)
    (h0 : (a (10 * m + 2 * s + l)).testBit t = true → post 0 (yA, yB, yF, yO, yS, yW, yP)) (h1 : ¬ (a (10 * m + 2 * s + l)).testBit t = true → ∀ yA' : Nat → Int32, fk_A yA' (fk_fl a (10 * m + 2 * s + l) t) → post 1 (yA', yB, yF, yO, yS, yW, yP)) : wpY_arrow post (yA, yB, yF, yO, yS, yW, yP) (nI m) (nI s) (nI l) (nI t) := by
  have hi : 10 * m + 2 * s + l < 20 := by omega
  have hv := P.1 _ hi
  unfold wpY_arrow
  dsimp only
  refine fy_fits_t hm hs hl ht (br_f fx_n1 (fy_has P h hm hs hl ht (fx_tv_c (fun g => h0 g) (fun g => ?_))))
  rw [fy_ix, nI_clamp (by omega), h.1 _ hi, fj_one (by omega), fj_or]
  exact ⟨vp_in_nI hi (by omega), vp_in_nI hi (by omega), nm_e (h1 g _ (fy_fl_A (yA' := yA) h.1 hi (fk_orx _ hv t ht ((fj_tf _ _).mp g))))⟩
theorem fy_cut {post : Int32 → SY → Prop} (P : fx_P a a' b e) (h : fy_S a b e yA yB yF) (hm : m < 2) (hs : s < 5) (hl : l < 2) (ht : t < 5)
    (h0 : ¬ (a (10 * m + 2 * s + l)).testBit t = true → post 0 (yA, yB, yF, yO, yS, yW, yP)) (h1 : (a (10 * m + 2 * s + l)).testBit t = true → ∀ yA' : Nat → Int32, fk_A yA' (fk_fl a (10 * m + 2 * s + l) t) → post 1 (yA', yB, yF, yO, yS, yW, yP)) : wpY_cut post (yA, yB, yF, yO, yS, yW, yP) (nI m) (nI s) (nI l) (nI t) := by
  have hi : 10 * m + 2 * s + l < 20 := by omega
  have hv := P.1 _ hi
  unfold wpY_cut
  dsimp only
  refine fy_fits_t hm hs hl ht (br_f fx_n1 (fy_has P h hm hs hl ht (fx_tv_c (fun g => ?_) (fun g => h0 g))))
  rw [fy_ix, nI_clamp (by omega), h.1 _ hi, fj_one (by omega), fk_negx _ hv t ht ((fj_tb _ _).mp g)]
  exact ⟨vp_in_nI hi (by omega), vp_in_nI hi (by omega), nm_e (h1 g _ (fy_fl_A (yA' := yA) h.1 hi rfl))⟩
theorem fy_step_go {post : Int32 → Prop} (P : fx_P a a' b e) (h : fy_S a b e yA yB yF) (hm : m < 2) {S : Nat} (hS : S < 32) (hl : l < 2) (hp : post (nI (ff_st a m S l))) : ∀ d c, c + d = 5 →
    wY_step_6 post (nI m) (nI S) (nI l) yA yB yF yO yS yW yP (d + 1) (nI (fb_uo (ff_r a m l) S c)) (nI c) := by
  intro d
  induction d with
  | zero =>
    intro c hc
    have : c = 5 := by omega
    subst this
    rw [ff_st_u a m S hl] at hp
    exact pk_le 5 5 (fun _ => hp) (fun q => absurd q (by omega))
  | succ d ih =>
    intro c hc
    have hi : 10 * m + 2 * c + l < 20 := by omega
    have := ih (c + 1) (by omega)
    refine pk_le 5 c (fun q => absurd q (by omega)) (fun _ => br_c (fun z => ?_) (fun z => ?_))
    · rw [fj_s1 (by omega) (by omega)] at z
      rw [fy_ix]
      refine ⟨vp_in_nI hi (by omega), nm_r (e' := nI (fb_uo (ff_r a m l) S (c + 1))) ?_ (nm_r (nI_1 c) this)⟩
      rw [nI_clamp (by omega), h.1 _ hi, fj_or, fb_uo, if_pos z]
      rfl
    · rw [fj_s1 (by omega) (by omega)] at z
      rw [fb_uo, if_neg z] at this
      exact nm_r (nI_1 c) this
theorem fy_step {post : Int32 → Prop} (P : fx_P a a' b e) (h : fy_S a b e yA yB yF) (hm : m < 2) {S : Nat} (hS : S < 32) (hl : l < 2) (hp : post (nI (ff_st a m S l))) : wpY_step post (yA, yB, yF, yO, yS, yW, yP) (nI m) (nI S) (nI l) :=
  ⟨_, fy_step_go P h hm hS hl hp 5 0 rfl⟩
theorem fy_good {post : Int32 → Prop} (h : fy_S a b e yA yB yF) (hm : m < 2) {S : Nat} (hS : S < 32) (hp : fx_tv (ff_g e m S) post) : wpY_good post (yA, yB, yF, yO, yS, yW, yP) (nI m) (nI S) := by
  refine ⟨vp_in_nI hm (by omega), ?_⟩
  rw [fx_vec h.2.2 hm]
  exact ⟨fun z => hp.2 ((fx_and0 _ _ hS).mp z), fun z => hp.1 (Classical.byContradiction fun c => z ((fx_and0 _ _ hS).mpr c))⟩
theorem fy_let_go {post : Int32 → Prop} {w : Nat} (h1 : 1 ≤ w) (h2 : w < 8192) (hp : post (nI (Nat.log2 w))) : ∀ d c, c + d = Nat.log2 w → wY_letters_2 post (nI w) yA yB yF yO yS yW yP (d + 1) (nI c) := by
  have hw0 : w ≠ 0 := by omega
  have hlog : Nat.log2 w < 13 := (Nat.log2_lt hw0).mpr h2
  intro d
  induction d with
  | zero =>
    intro c hc
    have e : nI w >>> (nI c &&& 31) = nI (w / 2 ^ c) := pk_shrN (by omega) _ c (s_l c (by omega))
    have hd : w / 2 ^ c < 2 ^ 31 := by have := fj_div_lt c h2; omega
    have hlt : w < 2 ^ (c + 1) := (Nat.log2_lt hw0).mp (by omega)
    have h3 : w / 2 ^ c < 2 := by
      apply Nat.div_lt_of_lt_mul
      rw [Nat.pow_succ] at hlt; exact hlt
    have hc' : c = Nat.log2 w := by omega
    show (nI w >>> (nI c &&& 31) ≤ 1 → post (nI c)) ∧ _
    rw [e]
    refine pk_le (w / 2 ^ c) 1 (fun _ => ?_) (fun q => absurd q (by omega)) rfl rfl hd (by omega)
    rw [hc']; exact hp
  | succ d ih =>
    intro c hc
    have e : nI w >>> (nI c &&& 31) = nI (w / 2 ^ c) := pk_shrN (by omega) _ c (s_l c (by omega))
    have hd : w / 2 ^ c < 2 ^ 31 := by have := fj_div_lt c h2; omega
    have hge : 2 ^ (c + 1) ≤ w := (Nat.le_log2 hw0).mp (by omega)
    have h3 : 2 ≤ w / 2 ^ c := by
      rw [Nat.le_div_iff_mul_le (Nat.two_pow_pos c), Nat.mul_comm, ← Nat.pow_succ]; exact hge
    show (nI w >>> (nI c &&& 31) ≤ 1 → post (nI c)) ∧ _
    rw [e]
    exact pk_le (w / 2 ^ c) 1 (fun q => absurd q (by omega)) (fun _ => nm_r (nI_1 c) (ih (c + 1) (by omega))) rfl rfl hd (by omega)
theorem fy_letters {post : Int32 → Prop} {w : Nat} (h1 : 1 ≤ w) (h2 : w < 8192) (hp : post (nI (Nat.log2 w))) : wpY_letters post (yA, yB, yF, yO, yS, yW, yP) (nI w) :=
  ⟨_, fy_let_go h1 h2 hp (Nat.log2 w) 0 (by omega)⟩
theorem fy_after_go {post : Int32 → Prop} (P : fx_P a a' b e) (h : fy_S a b e yA yB yF) (hm : m < 2) (w : Nat) (hw : w < 8192) : ∀ k S, k ≤ 13 → S < 32 → post (nI (fb_rn (ff_st a m) w k S)) →
    wY_reached_16 post (nI m) (nI w) yA yB yF yO yS yW yP (k + 1) (nI S) (nI k - 1) := by
  intro k
  induction k with
  | zero =>
    intro S _ _ hp
    exact br_t (by decide) hp
  | succ k ih =>
    intro S hk hS hp
    rw [nI_pred]
    refine br_f (nI_pos (by omega)) ?_
    rw [fj_sbit (by omega) (by omega)]
    have hl : w / 2 ^ k % 2 < 2 := Nat.mod_lt _ (by omega)
    exact fy_step P h hm hS hl (nm_r (fx_m1 (nI k)) (ih (ff_st a m S (w / 2 ^ k % 2)) (by omega) (ff_st_lt P.1 hm _ _) hp))
theorem fy_reached {post : Int32 → Prop} (P : fx_P a a' b e) (h : fy_S a b e yA yB yF) (hm : m < 2) {w : Nat} (h1 : 1 ≤ w) (hw : w < 8192) (hp : post (nI (fb_wd (ff_st a m) (b m) w))) : wpY_reached post (yA, yB, yF, yO, yS, yW, yP) (nI m) (nI w) := by
  have hlog : Nat.log2 w < 13 := (Nat.log2_lt (by omega)).mpr hw
  exact ⟨vp_in_nI hm (by omega), nm_r (fx_vec h.2.1 hm) (fy_letters h1 hw (nm_e ⟨_, fy_after_go P h hm w hw _ _ (by omega) (P.2.2.2.1 m hm) hp⟩))⟩
theorem fy_isWord_t {post : Int32 → Prop} {w : Nat} (h1 : 1 ≤ w) (h2 : w < 2048) (hp : post 1) : wpY_isWord post (yA, yB, yF, yO, yS, yW, yP) (nI w) :=
  br_f (nI_nlt (b := 1) h1 (by omega)) (pk_lt 2047 w (fun q => absurd q (by omega)) (fun _ => hp))
theorem fy_isWord_f {post : Int32 → Prop} {x : Int32} (h : x < 1 ∨ 2048 ≤ x) (hp : post 0) : wpY_isWord post (yA, yB, yF, yO, yS, yW, yP) x := by
  by_cases h0 : x < 1
  · exact br_t h0 hp
  · rcases h with h | h
    · exact absurd h h0
    · exact br_f h0 (br_t (Int32.lt_of_lt_of_le (by decide) h) hp)
theorem fy_rw {post : Int32 → Prop} (P : fx_P a a' b e) (h : fy_S a b e yA yB yF) (hm : m < 2) {w : Nat} (h1 : 1 ≤ w) (hw : w < 8192) (hp : fx_tv (fx_acc a b e m w) post) :
    wpY_reached (fun r => wpY_good post (yA, yB, yF, yO, yS, yW, yP) (nI m) r) (yA, yB, yF, yO, yS, yW, yP) (nI m) (nI w) :=
  fy_reached P h hm h1 hw (fy_good h hm (fx_wd_lt P hm w) hp)
theorem fy_count_go {post : Int32 → Prop} (P : fx_P a a' b e) (h : fy_S a b e yA yB yF) (hm : m < 2) {k : Nat} (hk : k ≤ 12) : ∀ n w c, 1 ≤ w → w + n = 2 * 2 ^ k → post (nI (c + fx_cnt a b e m w n)) →
    wY_count_27 post (nI m) (nI k) yA yB yF yO yS yW yP (n + 1) (nI c) (nI w) := by
  have hp2 : 2 ^ k ≤ 2 ^ 12 := Nat.pow_le_pow_right (by omega) hk
  have e2 : (2 : Int32) <<< (nI k &&& 31) = nI (2 * 2 ^ k) := pk_shlN (n := 2) (nI k &&& 31) k (s_l k (by omega)) (by omega)
  intro n
  induction n with
  | zero =>
    intro w c h1 hn hp
    show ((2 : Int32) <<< (nI k &&& 31) ≤ nI w → _) ∧ _
    rw [e2]
    exact pk_le (2 * 2 ^ k) w (fun _ => hp) (fun q => absurd q (by omega))
  | succ n ih =>
    intro w c h1 hn hp
    show ((2 : Int32) <<< (nI k &&& 31) ≤ nI w → _) ∧ _
    rw [e2]
    refine pk_le (2 * 2 ^ k) w (fun q => absurd q (by omega)) (fun _ => fy_rw P h hm h1 (by omega) (fx_tv_c (fun g => ?_) (fun g => ?_)))
    · rw [fx_cnt_t g] at hp
      refine nm_r (nI_1 c) (nm_r (nI_1 w) (ih (w + 1) (c + 1) (by omega) (by omega) ?_))
      rw [show c + 1 + fx_cnt a b e m (w + 1) n = c + (fx_cnt a b e m (w + 1) n + 1) by omega]
      exact hp
    · rw [fx_cnt_f g] at hp
      exact nm_r (nI_1 w) (ih (w + 1) c (by omega) (by omega) hp)
theorem fy_rank_go {post : Int32 → Prop} (P : fx_P a a' b e) (h : fy_S a b e yA yB yF) (hm : m < 2) {to : Nat} (hto : to ≤ 8192) : ∀ n w c, 1 ≤ w → w + n = to → post (nI (c + fx_cnt a b e m w n)) →
    wY_rank_23 post (nI m) (nI to) yA yB yF yO yS yW yP (n + 1) (nI c) (nI w) := by
  intro n
  induction n with
  | zero =>
    intro w c h1 hn hp
    exact pk_le to w (fun _ => hp) (fun q => absurd q (by omega))
  | succ n ih =>
    intro w c h1 hn hp
    refine pk_le to w (fun q => absurd q (by omega)) (fun _ => fy_rw P h hm h1 (by omega) (fx_tv_c (fun g => ?_) (fun g => ?_)))
    · rw [fx_cnt_t g] at hp
      refine nm_r (nI_1 c) (nm_r (nI_1 w) (ih (w + 1) (c + 1) (by omega) (by omega) ?_))
      rw [show c + 1 + fx_cnt a b e m (w + 1) n = c + (fx_cnt a b e m (w + 1) n + 1) by omega]
      exact hp
    · rw [fx_cnt_f g] at hp
      exact nm_r (nI_1 w) (ih (w + 1) c (by omega) (by omega) hp)
theorem fy_least_go {post : Int32 → Prop} (P : fx_P a a' b e) (h : fy_S a b e yA yB yF) (hm : m < 2) (h1 : ∀ w, 1 ≤ w → w < 64 → fx_acc a b e m w → (∀ v, 1 ≤ v → v < w → ¬ fx_acc a b e m v) → post (nI w))
    (h0 : (∀ w, 1 ≤ w → w < 64 → ¬ fx_acc a b e m w) → post (-2)) : ∀ d w, w + d = 64 → 1 ≤ w → (∀ v, 1 ≤ v → v < w → ¬ fx_acc a b e m v) → wY_least_12 post (nI m) yA yB yF yO yS yW yP (d + 1) (nI w) := by
  intro d
  induction d with
  | zero =>
    intro w hw _ hn
    have : w = 64 := by omega
    subst this
    exact pk_le 64 64 (fun _ => h0 hn) (fun q => absurd q (by omega))
  | succ d ih =>
    intro w hw hw1 hn
    refine pk_le 64 w (fun q => absurd q (by omega)) (fun _ => fy_rw P h hm hw1 (by omega) (fx_tv_c (fun g => ?_) (fun g => ?_)))
    · exact h1 w hw1 (by omega) g hn
    · refine nm_r (nI_1 w) (ih (w + 1) (by omega) (by omega) (fun v hv1 hv => ?_))
      by_cases q : v = w
      · subst q; exact g
      · exact hn v hv1 (by omega)
end
section
variable {a a' b e : Nat → Nat} {aO aB aS aE cC cF cS cA cG cL cM cN cP cW cT cQ : Nat → Int32} {m : Nat}
theorem fx_least_go {post : Int32 → Prop} (P : fx_P a a' b e) (h : fx_S a a' b e aO aB aS aE) (hm : m < 2) (h1 : ∀ w, 1 ≤ w → w < 32 → fx_acc a b e m w → (∀ v, 1 ≤ v → v < w → ¬ fx_acc a b e m v) → post (nI w))
    (h0 : (∀ w, 1 ≤ w → w < 32 → ¬ fx_acc a b e m w) → post (-2)) : ∀ d w, w + d = 32 → 1 ≤ w → (∀ v, 1 ≤ v → v < w → ¬ fx_acc a b e m v) → wX_least_12 post (nI m) aO aB aS aE cC cF cS cA cG cL cM cN cP cW cT cQ (d + 1) (nI w) := by
  intro d
  induction d with
  | zero =>
    intro w hw _ hn
    have : w = 32 := by omega
    subst this
    exact pk_le 32 32 (fun _ => h0 hn) (fun q => absurd q (by omega))
  | succ d ih =>
    intro w hw hw1 hn
    refine pk_le 32 w (fun q => absurd q (by omega)) (fun _ => fx_acceptsWord P h hm hw1 (by omega) (fx_tv_c (fun g => ?_) (fun g => ?_)))
    · exact h1 w hw1 (by omega) g hn
    · refine nm_r (nI_1 w) (ih (w + 1) (by omega) (by omega) (fun v hv1 hv => ?_))
      by_cases q : v = w
      · subst q; exact g
      · exact hn v hv1 (by omega)
end
