/-! X: ranges, steps, bits, tables -/
def fx_P (a a' b e : Nat → Nat) : Prop := ff_ok a ∧ ff_ok a' ∧ ff_cv a a' ∧ fk_ok b ∧ fk_ok e
def fx_S (a a' b e : Nat → Nat) (aO aB aS aE : Nat → Int32) : Prop := fk_T aO a ∧ fk_T aB a' ∧ fk_V aS b ∧ fk_V aE e
def fx_bad (x : Int32) (n : Nat) : Prop := x < 0 ∨ nI n ≤ x
theorem fx_ix3 (x : Int32) {n : Nat} (hn : n < 2 ^ 31) : fx_bad x n ∨ ∃ j : Nat, j < n ∧ x = nI j := by
  rcases pk_ix x hn with h | h | h
  · exact Or.inl (Or.inl h)
  · exact Or.inl (Or.inr h)
  · exact Or.inr h
theorem fx_ne {x : Int32} {n k : Nat} (h : fx_bad x n) (hk : k < n) (hn : n < 2 ^ 31) : ¬ x = nI k := by
  intro e
  subst e
  rcases h with h | h
  · exact nI_pos (by omega) h
  · exact nI_ge hk hn h
theorem fx_m1 (x : Int32) : x + (-1) = x - 1 := (Int32.sub_eq_add_neg x 1).symm
theorem fx_n1 : ¬ (1 : Int32) = 0 := by decide
theorem fx_ix (m S l : Nat) : ((nI m * 32) + nI S) * 2 + nI l = nI ((m * 32 + S) * 2 + l) := by
  show (nI m * nI 32 + nI S) * nI 2 + nI l = _
  rw [pk_mul, nI_add, pk_mul, nI_add]
theorem fx_get {α : Type} {t : Nat → α} {k : Nat} (h : k < 2 ^ 31) : t (nI k).toNatClampNeg = t k := by rw [nI_clamp h]
theorem fx_put {t : Nat → Int32} {k : Nat} {x y : Int32} (h : k < 2 ^ 31) (e : x = y) : upd t (nI k).toNatClampNeg x = upd t k y := by rw [nI_clamp h, e]
theorem fx_nb1 : vp_nar .boolean 1 = 1 := rfl
theorem fx_nb0 : vp_nar .boolean 0 = 0 := rfl
theorem fx_01 {A B : Prop} {z : Int32} {p : Prop} (h : z = 1 ∧ p ∨ z = 0 ∧ ¬ p) (h1 : p → B) (h0 : ¬ p → A) : (z = 0 → A) ∧ (¬ z = 0 → B) := by
  rcases h with ⟨rfl, hp⟩ | ⟨rfl, hp⟩
  · exact br_f fx_n1 (h1 hp)
  · exact br_t rfl (h0 hp)
/-- an answer yes or no -/
def fx_tv (p : Prop) (post : Int32 → Prop) : Prop := (p → post 1) ∧ (¬ p → post 0)
theorem fx_tv_m {p : Prop} {post : Int32 → Prop} (h1 : p → post 1) (h0 : ¬ p → post 0) : fx_tv p post := ⟨h1, h0⟩
theorem fx_tv_c {p A B : Prop} (h1 : p → B) (h0 : ¬ p → A) : fx_tv p (fun r => (r = 0 → A) ∧ (¬ r = 0 → B)) :=
  ⟨fun h => br_f fx_n1 (h1 h), fun h => br_t rfl (h0 h)⟩
theorem fx_tv_n {p : Prop} {post : Int32 → Prop} (h : fx_tv p post) : fx_tv p (fun r => narrow .boolean (.int r) = .int r ∧ post r) :=
  ⟨fun g => ⟨rfl, h.1 g⟩, fun g => ⟨rfl, h.2 g⟩⟩
theorem fx_tv_e {p q A B : Prop} (h1 : (p ↔ q) → A) (h0 : ¬ (p ↔ q) → B) : fx_tv p (fun r => fx_tv q (fun r' => (r = r' → A) ∧ (¬ r = r' → B))) := by
  refine ⟨fun hp => ⟨fun hq => br_t rfl (h1 ⟨fun _ => hq, fun _ => hp⟩), fun hq => br_f fx_n1 (h0 (fun g => hq (g.mp hp)))⟩,
    fun hp => ⟨fun hq => br_f (fun z => fx_n1 z.symm) (h0 (fun g => hp (g.mpr hq))), fun hq => br_t rfl (h1 ⟨fun g => absurd g hp, fun g => absurd g hq⟩)⟩⟩
theorem fx_below_t {post : Int32 → Prop} {j : Nat} (n : Nat) (h : j < n) (hn : n < 2 ^ 31) (hp : post 1) : wpX_isBelow post (nI j) (nI n) :=
  br_f (nI_pos (by omega)) (br_f (nI_ge h hn) hp)
theorem fx_below_f {post : Int32 → Prop} {x : Int32} {n : Nat} (h : fx_bad x n) (hp : post 0) : wpX_isBelow post x (nI n) := by
  by_cases h0 : x < 0
  · exact br_t h0 hp
  · rcases h with h | h
    · exact absurd h h0
    · exact br_f h0 (br_t h hp)
theorem fx_bel_t {A B : Prop} {j : Nat} (n : Nat) (h : j < n) (hn : n < 2 ^ 31) (hp : B) : wpX_isBelow (fun r => (r = 0 → A) ∧ (¬ r = 0 → B)) (nI j) (nI n) :=
  fx_below_t n h hn (br_f fx_n1 hp)
theorem fx_bel_f {A B : Prop} {x : Int32} {n : Nat} (h : fx_bad x n) (hp : A) : wpX_isBelow (fun r => (r = 0 → A) ∧ (¬ r = 0 → B)) x (nI n) :=
  fx_below_f h (br_t rfl hp)
theorem fx_step {post : Int32 → Prop} {m S l : Nat} (h : post (nI ((m * 32 + S) * 2 + l))) : wpX_stepOf post (nI m) (nI S) (nI l) := by
  unfold wpX_stepOf
  rw [fx_ix]; exact h
theorem fx_hb {post : Int32 → Prop} {K t : Nat} (hK : K < 2 ^ 32) (ht : t < 32) (h : fx_tv (K.testBit t = true) post) : wpX_hasBit post (nI K) (nI t) :=
  ⟨fun z => h.2 ((fj_b0 hK ht).mp z), fun z => h.1 (Classical.byContradiction fun c => z ((fj_b0 hK ht).mpr c))⟩
theorem fx_wordx (x : Int32) : (x < 1 ∨ 2048 ≤ x) ∨ ∃ w : Nat, 1 ≤ w ∧ w < 2048 ∧ x = nI w := by
  rcases fx_ix3 x (n := 2048) (by omega) with h | ⟨j, hj, rfl⟩
  · rcases h with h | h
    · exact Or.inl (Or.inl (Int32.lt_trans h (by decide)))
    · exact Or.inl (Or.inr h)
  · by_cases h0 : j = 0
    · subst h0; exact Or.inl (Or.inl (by decide))
    · exact Or.inr ⟨j, by omega, hj, rfl⟩
theorem fx_isWord_t {post : Int32 → Prop} {w : Nat} (h1 : 1 ≤ w) (h2 : w < 2048) (hp : post 1) : wpX_isWord post (nI w) :=
  br_f (nI_nlt (b := 1) h1 (by omega)) (br_f (nI_ge (b := 2048) h2 (by omega)) hp)
theorem fx_isWord_f {post : Int32 → Prop} {x : Int32} (h : x < 1 ∨ 2048 ≤ x) (hp : post 0) : wpX_isWord post x := by
  by_cases h0 : x < 1
  · exact br_t h0 hp
  · rcases h with h | h
    · exact absurd h h0
    · exact br_f h0 (br_t h hp)
section
variable {a a' b e : Nat → Nat} {aO aB aS aE cC cF cS cA cG cL cM cN cP cW cT cQ : Nat → Int32} {m S l : Nat}
theorem fx_tab {t : Nat → Int32} (h : fk_T t a) (hm : m < 2) (hS : S < 32) (hl : l < 2) : t (nI ((m * 32 + S) * 2 + l)).toNatClampNeg = nI (ff_st a m S l) := by
  rw [nI_clamp (by omega)]; exact h m S l hm hS hl
theorem fx_vec {t : Nat → Int32} (h : fk_V t b) (hm : m < 2) : t (nI m).toNatClampNeg = nI (b m) := by
  rw [nI_clamp (by omega)]; exact h m hm
theorem fx_and0 (x y : Nat) (hx : x < 32) : nI x &&& nI y = 0 ↔ ¬ fb_m x y := by
  rw [nx_and]
  have h : x &&& y < 32 := Nat.lt_of_le_of_lt Nat.and_le_left hx
  have := nI_eq (a := x &&& y) (b := 0) (by omega) (by omega)
  rw [nI_0] at this
  rw [this]
  unfold fb_m
  exact ⟨fun z q => q z, fun z => Classical.byContradiction fun q => z q⟩
theorem fx_ending {post : Int32 → Prop} (h : fx_S a a' b e aO aB aS aE) (hm : m < 2) (hS : S < 32) (hp : fx_tv (ff_g e m S) post) : wpX_isEnding post (aO, aB, aS, aE, cC, cF, cS, cA, cG, cL, cM, cN, cP, cW, cT, cQ) (nI m) (nI S) := by
  refine ⟨vp_in_nI hm (by omega), ?_⟩
  rw [fx_vec h.2.2.2 hm]
  exact ⟨fun z => hp.2 ((fx_and0 _ _ hS).mp z), fun z => hp.1 (Classical.byContradiction fun c => z ((fx_and0 _ _ hS).mpr c))⟩
theorem fx_let_go (post : Int32 → Prop) (w : Nat) (h1 : 1 ≤ w) (h2 : w < 8192) (hp : post (nI (Nat.log2 w))) : ∀ d c k, c + d = 13 → 1 ≤ c →
    ((k < c ∧ k ≤ Nat.log2 w) ∧ (∀ i, i < c → 2 ^ i ≤ w → i ≤ k)) → wX_lettersIn_4 post (nI w) (d + 1) (nI k) (nI c) := by
  have hw0 : w ≠ 0 := by omega
  intro d
  induction d with
  | zero =>
    intro c k hc _ hk
    have hlog : Nat.log2 w < 13 := (Nat.log2_lt hw0).mpr h2
    have : k = Nat.log2 w := by
      have := hk.2 (Nat.log2 w) (by omega) (Nat.log2_self_le hw0)
      omega
    refine pk_lt 12 c (fun _ => ?_) (fun q => absurd q (by omega))
    rw [this]; exact hp
  | succ d ih =>
    intro c k hc h0 hk
    refine pk_lt 12 c (fun q => absurd q (by omega)) (fun q => ?_)
    have e : nI w >>> (nI c &&& 31) = nI (w / 2 ^ c) := pk_shrN (by omega) _ c (s_l c (by omega))
    have hd : w / 2 ^ c < 2 ^ 31 := by have := fj_div_lt c h2; omega
    rw [e]
    refine pk_eq (w / 2 ^ c) 0 (fun z => ?_) (fun z => ?_) rfl rfl hd (by omega)
    · refine nm_r (nI_1 c) (ih (c + 1) k (by omega) (by omega) ⟨⟨by omega, hk.1.2⟩, fun i hi hw => ?_⟩)
      by_cases q : i = c
      · subst q
        have := Nat.div_pos hw (Nat.two_pow_pos i)
        omega
      · exact hk.2 i (by omega) hw
    · have hge : 2 ^ c ≤ w := by
        apply Classical.byContradiction
        intro g
        exact z (Nat.div_eq_of_lt (by omega))
      refine nm_r (nI_1 c) (ih (c + 1) c (by omega) (by omega) ⟨⟨by omega, (Nat.le_log2 hw0).mpr hge⟩, fun i hi _ => by omega⟩)
theorem fx_letters {post : Int32 → Prop} {w : Nat} (h1 : 1 ≤ w) (h2 : w < 8192) (hp : post (nI (Nat.log2 w))) : wpX_lettersIn post (nI w) := by
  refine ⟨13, fx_let_go post w h1 h2 hp 12 1 0 rfl (Nat.le_refl _) ⟨⟨by omega, Nat.zero_le _⟩, fun i hi _ => by omega⟩⟩
theorem fx_after_go {post : Int32 → Prop} (P : fx_P a a' b e) (h : fx_S a a' b e aO aB aS aE) (hm : m < 2) (w : Nat) (hw : w < 8192) : ∀ k S, k ≤ 13 → S < 32 → post (nI (fb_rn (ff_st a m) w k S)) →
    wX_statesAfter_15 post (nI m) (nI w) aO aB aS aE cC cF cS cA cG cL cM cN cP cW cT cQ (k + 1) (nI S) (nI k - 1) := by
  intro k
  induction k with
  | zero =>
    intro S _ _ hp
    exact br_t (by decide) hp
  | succ k ih =>
    intro S hk hS hp
    rw [nI_pred]
    refine br_f (nI_pos (by omega)) ?_
    rw [fj_sbit (by omega) (by omega)]
    have hl : w / 2 ^ k % 2 < 2 := Nat.mod_lt _ (by omega)
    refine fx_step ⟨vp_in_nI (by omega) (by omega), nm_r (fx_tab h.1 hm hS hl) (nm_r (fx_m1 (nI k)) ?_)⟩
    have := ih (ff_st a m S (w / 2 ^ k % 2)) (by omega) (ff_st_lt P.1 hm _ _) hp
    exact this
theorem fx_statesAfter {post : Int32 → Prop} (P : fx_P a a' b e) (h : fx_S a a' b e aO aB aS aE) (hm : m < 2) {w : Nat} (h1 : 1 ≤ w) (hw : w < 8192) (hp : post (nI (fb_wd (ff_st a m) (b m) w))) :
    wpX_statesAfter post (aO, aB, aS, aE, cC, cF, cS, cA, cG, cL, cM, cN, cP, cW, cT, cQ) (nI m) (nI w) := by
  have hlog : Nat.log2 w < 13 := (Nat.log2_lt (by omega)).mpr hw
  exact ⟨vp_in_nI hm (by omega), nm_r (fx_vec h.2.2.1 hm) (fx_letters h1 hw (nm_e ⟨_, fx_after_go P h hm w hw _ _ (by omega) (P.2.2.2.1 m hm) hp⟩))⟩
/-- the word is accepted -/
def fx_acc (a b e : Nat → Nat) (m w : Nat) : Prop := ff_g e m (fb_wd (ff_st a m) (b m) w)
theorem fx_wd_lt (P : fx_P a a' b e) (hm : m < 2) (w : Nat) : fb_wd (ff_st a m) (b m) w < 32 :=
  fb_rn_lt (ff_B P.1 hm (by omega)) (ff_B P.1 hm (by omega)) w _ _ (P.2.2.2.1 m hm)
theorem fx_acceptsWord {post : Int32 → Prop} (P : fx_P a a' b e) (h : fx_S a a' b e aO aB aS aE) (hm : m < 2) {w : Nat} (h1 : 1 ≤ w) (hw : w < 8192) (hp : fx_tv (fx_acc a b e m w) post) :
    wpX_acceptsWord post (aO, aB, aS, aE, cC, cF, cS, cA, cG, cL, cM, cN, cP, cW, cT, cQ) (nI m) (nI w) := by
  unfold wpX_acceptsWord
  exact fx_statesAfter P h hm h1 hw (fx_ending h hm (fx_wd_lt P hm w) (fx_tv_n hp))
noncomputable def fx_cnt (a b e : Nat → Nat) (m : Nat) : Nat → Nat → Nat
  | _, 0 => 0
  | w, n + 1 => @ite Nat (fx_acc a b e m w) (Classical.propDecidable _) (fx_cnt a b e m (w + 1) n + 1) (fx_cnt a b e m (w + 1) n)
theorem fx_cnt_t {w n : Nat} (h : fx_acc a b e m w) : fx_cnt a b e m w (n + 1) = fx_cnt a b e m (w + 1) n + 1 := by
  show @ite Nat _ (Classical.propDecidable _) _ _ = _
  exact if_pos h
theorem fx_cnt_f {w n : Nat} (h : ¬ fx_acc a b e m w) : fx_cnt a b e m w (n + 1) = fx_cnt a b e m (w + 1) n := by
  show @ite Nat _ (Classical.propDecidable _) _ _ = _
  exact if_neg h
theorem fx_between_go {post : Int32 → Prop} (P : fx_P a a' b e) (h : fx_S a a' b e aO aB aS aE) (hm : m < 2) (to : Nat) (hto : to ≤ 8192) : ∀ n w c, 1 ≤ w → w + n = to → post (nI (c + fx_cnt a b e m w n)) →
    wX_acceptedBetween_6 post (nI m) (nI to) aO aB aS aE cC cF cS cA cG cL cM cN cP cW cT cQ (n + 1) (nI c) (nI w) := by
  intro n
  induction n with
  | zero =>
    intro w c h1 hn hp
    exact pk_le to w (fun _ => hp) (fun q => absurd q (by omega))
  | succ n ih =>
    intro w c h1 hn hp
    refine pk_le to w (fun q => absurd q (by omega)) (fun _ => fx_acceptsWord P h hm h1 (by omega) (fx_tv_c (fun g => ?_) (fun g => ?_)))
    · rw [fx_cnt_t g] at hp
      refine nm_r (nI_1 c) (nm_r (nI_1 w) (ih (w + 1) (c + 1) (by omega) (by omega) ?_))
      rw [show c + 1 + fx_cnt a b e m (w + 1) n = c + (fx_cnt a b e m (w + 1) n + 1) by omega]
      exact hp
    · rw [fx_cnt_f g] at hp
      exact nm_r (nI_1 w) (ih (w + 1) c (by omega) (by omega) hp)
theorem fx_between {post : Int32 → Prop} (P : fx_P a a' b e) (h : fx_S a a' b e aO aB aS aE) (hm : m < 2) {w to : Nat} (hto : to ≤ 8192) (h1 : 1 ≤ w) (hw : w ≤ to) (hp : post (nI (fx_cnt a b e m w (to - w)))) :
    wpX_acceptedBetween post (aO, aB, aS, aE, cC, cF, cS, cA, cG, cL, cM, cN, cP, cW, cT, cQ) (nI m) (nI w) (nI to) := by
  refine ⟨_, fx_between_go P h hm to hto (to - w) w 0 h1 (by omega) ?_⟩
  rw [Nat.zero_add]; exact hp
end
