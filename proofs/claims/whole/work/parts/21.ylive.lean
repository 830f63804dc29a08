/-! Y: turn, closure, live, endless -/
theorem fy_31 (n : Nat) : nI n &&& 31 = nI (n % 32) := by
  rw [pk_and (nI n) 5 (by decide)]
  have : (nI n).toBitVec.toNat = n % 4294967296 := rfl
  rw [this]
  exact congrArg nI (by omega)
section
variable {a a' b e : Nat → Nat} {yA yB yF yO yS yP : Nat → Int32} {yW : Nat → Int64} {m s l t : Nat}
theorem fy_turn2 {post : Int32 → SY → Prop} (P : fx_P a a' b e) (hm : m < 2) {A : Nat} (hA : fk_tn a m 50 A) (hV : fk_V yB b) (hE : fk_V yF e)
    (hp : ∀ yA' yB' yF' : Nat → Int32, fy_S (fk_sw a a' m) (fk_swv b e m) (fk_swv e b m) yA' yB' yF' → post 1 (yA', yB', yF', yO, yS, yW, yP)) : ∀ d c (yA : Nat → Int32), c + d = 10 → (∀ i, i < 20 → yA i = nI (if 10 * m ≤ i ∧ i < 10 * m + c then a' i else a i)) →
    wY_turn_88 post (nI m) (lN A) (d + 1) (nI c) yA yB yF yO yS yW yP := by
  have h50 := hA.1
  intro d
  induction d with
  | zero =>
    intro c yA hc hy
    have : c = 10 := by omega
    subst this
    have hin : vp_in (nI m) 2 := vp_in_nI hm (by omega)
    refine pk_le 10 10 (fun _ => ⟨hin, nm_r (fx_get (by omega)) ⟨hin, hin, nm_r (fx_put (by omega) (fx_get (by omega))) ⟨hin, nm_r (fx_put (by omega) rfl) ?_⟩⟩⟩) (fun q => absurd q (by omega))
    refine hp _ _ _ ⟨fun i hi => ?_, fx_swv hV hE hm, fx_swv hE hV hm⟩
    rw [hy i hi]
    unfold fk_sw
    by_cases q : i / 10 = m
    · rw [if_pos q, if_pos (by omega)]
    · rw [if_neg q, if_neg (by omega)]
  | succ d ih =>
    intro c yA hc hy
    have ei : (10 : Int32) * nI m + nI c = nI (10 * m + c) := by
      show nI 10 * nI m + nI c = _
      rw [pk_mul, nI_add]
    have e5 : (5 : Int32) * nI c = nI (5 * c) := by
      show nI 5 * nI c = _
      rw [pk_mul]
    have ev : ((lN A >>> ((5 * nI c).toInt64 &&& 63)).toInt32) &&& 31 = nI (a' (10 * m + c)) := by
      rw [e5, fj_lshr (by omega) (by omega), lN_i, fy_31, fk_tn_v hA hm P.2.2.1 P.2.1 c (by omega)]
    refine pk_le 10 c (fun q => absurd q (by omega)) (fun _ => ?_)
    rw [ei]
    refine ⟨vp_in_nI (by omega) (by omega), nm_r (fx_put (by omega) ev) (nm_r (nI_1 c) (ih (c + 1) _ (by omega) (fun i hi => ?_)))⟩
    by_cases q : i = 10 * m + c
    · subst q; rw [pk_us, if_pos (by omega)]
    · rw [pk_un q, hy i hi]
      by_cases g : 10 * m ≤ i ∧ i < 10 * m + c
      · rw [if_pos g, if_pos (by omega)]
      · rw [if_neg g, if_neg (by omega)]
theorem fy_turn1 {post : Int32 → SY → Prop} (P : fx_P a a' b e) (h : fy_S a b e yA yB yF) (hm : m < 2)
    (hp : ∀ yA' yB' yF' : Nat → Int32, fy_S (fk_sw a a' m) (fk_swv b e m) (fk_swv e b m) yA' yB' yF' → post 1 (yA', yB', yF', yO, yS, yW, yP)) : ∀ d c A, c + d = 50 → fk_tn a m c A →
    wY_turn_15 post (nI m) yA yB yF yO yS yW yP (d + 1) (lN A) (nI c) := by
  intro d
  induction d with
  | zero =>
    intro c A hc hA
    have : c = 50 := by omega
    subst this
    refine pk_le 50 50 (fun _ => ⟨_, fy_turn2 P hm hA h.2.1 h.2.2 hp 10 0 yA rfl (fun i hi => ?_)⟩) (fun q => absurd q (by omega))
    rw [if_neg (by omega)]; exact h.1 i hi
  | succ d ih =>
    intro c A hc hA
    have e10 : nI c / 10 = nI (c / 10) := pk_div (d := 10) (by omega) (by omega) (by omega)
    have e5 : nI c / 5 = nI (c / 5) := pk_div (d := 5) (by omega) (by omega) (by omega)
    have e52 : nI (c / 5) - nI (c / 5) / 2 * 2 = nI (c / 5 % 2) := pk_rem (d := 2) (by omega) (by omega) (by omega)
    have em : nI c - nI c / 5 * 5 = nI (c % 5) := pk_rem (d := 5) (by omega) (by omega) (by omega)
    have h50 := hA.1
    have hamt : 10 * (c % 5) + 5 * (c / 5 % 2) + c / 10 < 50 := by omega
    have es : (((10 : Int32) * nI (c % 5)) + (5 * nI (c / 5 % 2))) + nI (c / 10) = nI (10 * (c % 5) + 5 * (c / 5 % 2) + c / 10) := by
      show (nI 10 * nI (c % 5) + nI 5 * nI (c / 5 % 2)) + nI (c / 10) = _
      rw [pk_mul, pk_mul, nI_add, nI_add]
    refine pk_le 50 c (fun q => absurd q (by omega)) (fun _ => ⟨by decide, nm_r e10 ⟨by decide, by decide, nm_r (e5 ▸ e52) ⟨by decide, nm_r em ?_⟩⟩⟩)
    refine fy_has P h hm (by omega) (by omega) (by omega) (fx_tv_c (fun g => ?_) (fun g => ?_))
    · rw [es, fj_lone (by omega)]
      exact nm_r (wb_or (by omega) (Nat.pow_lt_pow_right (by omega) (by omega))) (nm_r (nI_1 c) (ih (c + 1) _ (by omega) (fk_tn_y hA (by omega) g)))
    · exact nm_r (nI_1 c) (ih (c + 1) _ (by omega) (fk_tn_n hA g))
theorem fy_turn {post : Int32 → SY → Prop} (P : fx_P a a' b e) (h : fy_S a b e yA yB yF) (hm : m < 2)
    (hp : ∀ yA' yB' yF' : Nat → Int32, fy_S (fk_sw a a' m) (fk_swv b e m) (fk_swv e b m) yA' yB' yF' → post 1 (yA', yB', yF', yO, yS, yW, yP)) : wpY_turn post (yA, yB, yF, yO, yS, yW, yP) (nI m) := by
  unfold wpY_turn
  dsimp only
  exact fy_machine_t hm (br_f fx_n1 ⟨_, fy_turn1 P h hm hp 50 0 0 rfl (fk_tn_0 a m)⟩)
theorem fy_cl_go {post : Int32 → Prop} (P : fx_P a a' b e) (h : fy_S a b e yA yB yF) (hm : m < 2) : ∀ d c S, c + d = 5 → S < 32 → post (nI (fb_cl (fb_j (ff_r a m 0) (ff_r a m 1)) d S)) → wY_closure_5 post (nI m) yA yB yF yO yS yW yP (d + 1) (nI S) (nI c) := by
  have B0 := ff_B P.1 hm (show 0 < 2 by omega)
  have B1 := ff_B P.1 hm (show 1 < 2 by omega)
  intro d
  induction d with
  | zero =>
    intro c S hc _ hp
    exact pk_le 5 c (fun _ => hp) (fun q => absurd q (by omega))
  | succ d ih =>
    intro c S hc hS hp
    refine pk_le 5 c (fun q => absurd q (by omega)) (fun _ => fy_step (l := 0) P h hm hS (by omega) (fy_step (l := 1) P h hm hS (by omega) (nm_r (e' := nI (S ||| fb_u (fb_j (ff_r a m 0) (ff_r a m 1)) S)) ?_ (nm_r (nI_1 c) ?_))))
    · rw [fj_or, fj_or, fb_u_j B0 B1, Nat.or_assoc]
      rfl
    · refine ih (c + 1) _ (by omega) (Nat.or_lt_two_pow (n := 5) hS (fb_u_lt (fb_j_B B0 B1) S)) ?_
      rw [← fb_cl_s]; exact hp
theorem fy_closure {post : Int32 → Prop} (P : fx_P a a' b e) (h : fy_S a b e yA yB yF) (hm : m < 2) {S : Nat} (hS : S < 32) (hp : post (nI (fb_cl (fb_j (ff_r a m 0) (ff_r a m 1)) 5 S))) : wpY_closure post (yA, yB, yF, yO, yS, yW, yP) (nI m) (nI S) :=
  ⟨_, fy_cl_go P h hm 5 0 S rfl hS hp⟩
theorem fy_lv_k (P : fx_P a a' b e) (hm : m < 2) : fm_k (fun s => (fx_lv a a' b e m).testBit s = true) 5 = fx_lv a a' b e m := by
  have hlt := fx_lv_lt P hm
  apply fe_ext32 (fm_k_lt _ 5 (by omega)) (by omega)
  intro t ht
  rw [fm_k_bit]
  exact ⟨fun z => z.2, fun z => ⟨fb_lt_bit hlt z, z⟩⟩
theorem fy_live_go {post : Int32 → Prop} (P : fx_P a a' b e) (h : fy_S a b e yA yB yF) (hm : m < 2) (hp : post (nI (fx_lv a a' b e m))) : ∀ d c, c + d = 5 →
    wY_live_27 post (nI m) (nI (fb_cl (fb_j (ff_r a m 0) (ff_r a m 1)) 5 (b m))) yA yB yF yO yS yW yP (d + 1) (nI (fm_k (fun s => (fx_lv a a' b e m).testBit s = true) c)) (nI c) := by
  have B := fb_j_B (ff_B P.1 hm (show 0 < 2 by omega)) (ff_B P.1 hm (show 1 < 2 by omega))
  have B' := fb_j_B (ff_B P.2.1 hm (show 0 < 2 by omega)) (ff_B P.2.1 hm (show 1 < 2 by omega))
  have cv := fb_cv_j (P.2.2.1 m 0 hm (by omega)) (P.2.2.1 m 1 hm (by omega))
  have hb := P.2.2.2.1 m hm
  have he := P.2.2.2.2 m hm
  have hK := fb_cl_lt B hb 5
  intro d
  induction d with
  | zero =>
    intro c hc
    have : c = 5 := by omega
    subst this
    rw [fy_lv_k P hm]
    exact pk_le 5 5 (fun _ => hp) (fun q => absurd q (by omega))
  | succ d ih =>
    intro c hc
    have lv := fb_live B B' cv hb he (show c < 5 by omega)
    have this := ih (c + 1) (by omega)
    have no : ¬ (fx_lv a a' b e m).testBit c = true → wY_live_64 post (wY_live_27 post (nI m) (nI (fb_cl (fb_j (ff_r a m 0) (ff_r a m 1)) 5 (b m))) yA yB yF yO yS yW yP (d + 1)) (nI m) (nI (fb_cl (fb_j (ff_r a m 0) (ff_r a m 1)) 5 (b m))) (nI (fm_k (fun s => (fx_lv a a' b e m).testBit s = true) c)) (nI c) yA yB yF yO yS yW yP := by
      intro g
      rw [fm_k_f g] at this
      exact br_t rfl (nm_r (nI_1 c) this)
    have yes : (fx_lv a a' b e m).testBit c = true → wY_live_65 post (wY_live_27 post (nI m) (nI (fb_cl (fb_j (ff_r a m 0) (ff_r a m 1)) 5 (b m))) yA yB yF yO yS yW yP (d + 1)) (nI m) (nI (fb_cl (fb_j (ff_r a m 0) (ff_r a m 1)) 5 (b m))) (nI (fm_k (fun s => (fx_lv a a' b e m).testBit s = true) c)) (nI c) 1 yA yB yF yO yS yW yP := by
      intro g
      rw [fm_k_t g] at this
      refine br_f fx_n1 (nm_r (e' := nI (fm_k (fun s => (fx_lv a a' b e m).testBit s = true) c ||| 2 ^ c)) ?_ (nm_r (nI_1 c) this))
      rw [fj_one (by omega), fj_or]
    refine pk_le 5 c (fun q => absurd q (by omega)) (fun _ => br_c (fun z => ?_) (fun z => ?_))
    · rw [fj_s1 (by omega) (by omega)] at z
      rw [fj_one (by omega)]
      refine fy_closure P h hm (fb_2lt (by omega)) (fy_good h hm (fb_cl_lt B (fb_2lt (by omega)) 5) (fx_tv_c (fun g => ?_) (fun g => ?_)))
      · exact yes (lv.mp ⟨z, g⟩)
      · exact no (fun w => g (lv.mpr w).2)
    · rw [fj_s1 (by omega) (by omega)] at z
      exact no (fun w => z (lv.mpr w).1)
theorem fy_live {post : Int32 → Prop} (P : fx_P a a' b e) (h : fy_S a b e yA yB yF) (hm : m < 2) (hp : post (nI (fx_lv a a' b e m))) : wpY_live post (yA, yB, yF, yO, yS, yW, yP) (nI m) := by
  unfold wpY_live
  dsimp only
  refine fy_machine_t hm (br_f fx_n1 ⟨vp_in_nI hm (by omega), ?_⟩)
  rw [fx_vec h.2.1 hm]
  exact fy_closure P h hm (P.2.2.2.1 m hm) ⟨_, fy_live_go P h hm hp 5 0 rfl⟩
/-- s comes back to itself within k steps -/
def fy_bk (a : Nat → Nat) (m s k : Nat) : Prop := ∃ n, n < k ∧ (fb_it (fb_j (ff_r a m 0) (ff_r a m 1)) (n + 1) (2 ^ s)).testBit s = true
def fy_is (p : Prop) (z : Int32) : Prop := z = 1 ∧ p ∨ z = 0 ∧ ¬ p
theorem fy_el_in {post : Int32 → Prop} {J : Int32 → Int32 → Prop} (P : fx_P a a' b e) (h : fy_S a b e yA yB yF) (hm : m < 2) (hs : s < 5) {z : Int32} {p : Prop} (hz : fy_is p z)
    (hJ : ∀ z', fy_is (p ∨ ((fx_lv a a' b e m).testBit s = true ∧ fx_rd a m s)) z' → J z' (nI (s + 1))) : ∀ d k (y : Int32), k + d = 5 → fy_is (fy_bk a m s k) y →
    wY_endless_28 post J (nI m) z (nI s) yA yB yF yO yS yW yP (d + 1) (nI (fb_it (fb_j (ff_r a m 0) (ff_r a m 1)) k (2 ^ s))) y (nI k) := by
  have B0 := ff_B P.1 hm (show 0 < 2 by omega)
  have B1 := ff_B P.1 hm (show 1 < 2 by omega)
  have hlt := fx_lv_lt P hm
  intro d
  induction d with
  | zero =>
    intro k y hk hy
    have : k = 5 := by omega
    subst this
    have rd : fx_rd a m s ↔ fy_bk a m s 5 := fb_round
    refine pk_le 5 5 (fun _ => ?_) (fun q => absurd q (by omega))
    rcases hz with ⟨rfl, hp⟩ | ⟨rfl, hp⟩
    · exact br_f fx_n1 (nm_r (nI_1 s) (hJ 1 (Or.inl ⟨rfl, Or.inl hp⟩)))
    · refine br_t rfl ?_
      rcases hy with ⟨rfl, hb⟩ | ⟨rfl, hb⟩
      · refine br_f fx_n1 (fy_live P h hm (br_c (fun w => ?_) (fun w => ?_)))
        · rw [fj_s1 (by omega) (by omega)] at w
          exact nm_r (nI_1 s) (hJ 1 (Or.inl ⟨rfl, Or.inr ⟨w, rd.mpr hb⟩⟩))
        · rw [fj_s1 (by omega) (by omega)] at w
          exact nm_r (nI_1 s) (hJ 0 (Or.inr ⟨rfl, fun q => q.elim hp (fun q => w q.1)⟩))
      · exact br_t rfl (nm_r (nI_1 s) (hJ 0 (Or.inr ⟨rfl, fun q => q.elim hp (fun q => hb (rd.mp q.2))⟩)))
  | succ d ih =>
    intro k y hk hy
    have hS := fb_it_lt (fb_j_B B0 B1) (fb_2lt hs) k
    have hS' := fb_it_lt (fb_j_B B0 B1) (fb_2lt hs) (k + 1)
    refine pk_le 5 k (fun q => absurd q (by omega)) (fun _ => fy_step (l := 0) P h hm hS (by omega) (fy_step (l := 1) P h hm hS (by omega) (nm_r (e' := nI (fb_it (fb_j (ff_r a m 0) (ff_r a m 1)) (k + 1) (2 ^ s))) ?_ ?_)))
    · rw [fj_or, fb_it, fb_u_j B0 B1]
      rfl
    · rcases hy with ⟨rfl, hb⟩ | ⟨rfl, hb⟩
      · refine br_f fx_n1 (nm_r (nI_1 k) (ih (k + 1) 1 (by omega) (Or.inl ⟨rfl, ?_⟩)))
        obtain ⟨n, hn, g⟩ := hb
        exact ⟨n, by omega, g⟩
      · refine br_t rfl (br_c (fun w => ?_) (fun w => ?_))
        · rw [fj_s1 (by omega) (by omega)] at w
          exact nm_r (nI_1 k) (ih (k + 1) 1 (by omega) (Or.inl ⟨rfl, k, by omega, w⟩))
        · rw [fj_s1 (by omega) (by omega)] at w
          refine nm_r (nI_1 k) (ih (k + 1) 0 (by omega) (Or.inr ⟨rfl, ?_⟩))
          rintro ⟨n, hn, g⟩
          by_cases q : n = k
          · subst q; exact w g
          · exact hb ⟨n, by omega, g⟩
theorem fy_endless_go {post : Int32 → Prop} (P : fx_P a a' b e) (h : fy_S a b e yA yB yF) (hm : m < 2) (hp : fx_tv (fx_el a a' b e m) post) : ∀ d s (z : Int32), s + d = 5 → fy_is (∃ t, t < s ∧ (fx_lv a a' b e m).testBit t = true ∧ fx_rd a m t) z →
    wY_endless_4 post (nI m) yA yB yF yO yS yW yP (d + 1) z (nI s) := by
  intro d
  induction d with
  | zero =>
    intro s z hs hz
    have : s = 5 := by omega
    subst this
    refine pk_le 5 5 (fun _ => ?_) (fun q => absurd q (by omega))
    rcases hz with ⟨rfl, g⟩ | ⟨rfl, g⟩
    · exact ⟨rfl, hp.1 g⟩
    · exact ⟨rfl, hp.2 g⟩
  | succ d ih =>
    intro s z hs hz
    refine pk_le 5 s (fun q => absurd q (by omega)) (fun _ => fy_machine_t hm (br_f fx_n1 (nm_r (fj_one (by omega)) ⟨6, ?_⟩)))
    refine fy_el_in P h hm (by omega) hz (fun z' hz' => ih (s + 1) z' (by omega) ?_) 5 0 0 rfl (Or.inr ⟨rfl, fun ⟨n, hn, _⟩ => absurd hn (Nat.not_lt_zero _)⟩)
    have eqv : (∃ t, t < s + 1 ∧ (fx_lv a a' b e m).testBit t = true ∧ fx_rd a m t) ↔ ((∃ t, t < s ∧ (fx_lv a a' b e m).testBit t = true ∧ fx_rd a m t) ∨ ((fx_lv a a' b e m).testBit s = true ∧ fx_rd a m s)) := by
      constructor
      · rintro ⟨t, ht, g⟩
        by_cases q : t = s
        · subst q; exact Or.inr g
        · exact Or.inl ⟨t, by omega, g⟩
      · rintro (⟨t, ht, g⟩ | g)
        · exact ⟨t, by omega, g⟩
        · exact ⟨s, by omega, g⟩
    rw [eqv]; exact hz'
theorem fy_endless_f {post : Int32 → Prop} {x : Int32} (hx : fx_bad x 2) (hp : post 0) : wpY_endless post (yA, yB, yF, yO, yS, yW, yP) x :=
  ⟨1, pk_le 5 0 (fun q => absurd q (by omega)) (fun _ => fy_machine_f hx (br_t rfl ⟨rfl, hp⟩))⟩
end
