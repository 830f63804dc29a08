/-! Y: telling sets apart, reached sets, size -/
theorem fy_c32 (x y : Nat) : (32 : Int32) * nI x + nI y = nI (32 * x + y) := by
  show nI 32 * nI x + nI y = _
  rw [pk_mul, nI_add]
/-- reached sets, found in place -/
def fy_rs (d : Nat → Nat → Nat) (b r c K : Nat) : Prop :=
  K < 2 ^ 32 ∧ (∀ i, K.testBit i = true → fa_R d b i) ∧ (∀ s, fa_rk d b r s → K.testBit s = true) ∧ (∀ s, s < c → fa_rk d b r s → K.testBit (d s 0) = true ∧ K.testBit (d s 1) = true)
section
variable {d : Nat → Nat → Nat} {b r c K : Nat}
theorem fy_rs_0 (hb : b < 32) : fy_rs d b 0 0 (2 ^ b) :=
  ⟨(fe_rc_0 (d := d) hb).1, (fe_rc_0 (d := d) hb).2.1, (fe_rc_0 (d := d) hb).2.2, fun _ hs => absurd hs (Nat.not_lt_zero _)⟩
theorem fy_rs_n (h : fy_rs d b r c K) (hn : ¬ K.testBit c = true) : fy_rs d b r (c + 1) K :=
  ⟨h.1, h.2.1, h.2.2.1, fun s hs g => by
    by_cases q : s = c
    · subst q; exact absurd (h.2.2.1 s g) hn
    · exact h.2.2.2 s (by omega) g⟩
theorem fy_rs_y (h : fy_rs d b r c K) (hy : K.testBit c = true) (hc : d c 0 < 32 ∧ d c 1 < 32) : fy_rs d b r (c + 1) (K ||| 2 ^ d c 0 ||| 2 ^ d c 1) := by
  have hr : fa_R d b c := h.2.1 c hy
  refine ⟨Nat.or_lt_two_pow (Nat.or_lt_two_pow h.1 (fe_2p32 hc.1)) (fe_2p32 hc.2), fun i hi => ?_, fun s hs => fb_ol (fb_ol (h.2.2.1 s hs)), fun s hs g => ?_⟩
  · rcases fe_or_e hi with hi | hi
    · rcases fe_or_e hi with hi | hi
      · exact h.2.1 i hi
      · rw [fb_2p] at hi; exact hi ▸ fa_R_0 hr
    · rw [fb_2p] at hi; exact hi ▸ fa_R_1 hr
  · by_cases q : s = c
    · subst q
      exact ⟨fb_ol (fb_orr (fb_2p.mpr rfl)), fb_orr (fb_2p.mpr rfl)⟩
    · exact ⟨fb_ol (fb_ol (h.2.2.2 s (by omega) g).1), fb_ol (fb_ol (h.2.2.2 s (by omega) g).2)⟩
theorem fy_rs_r (h : fy_rs d b r 32 K) (hc : ∀ x, x < 32 → d x 0 < 32 ∧ d x 1 < 32) (hb : b < 32) : fy_rs d b (r + 1) 0 K := by
  refine ⟨h.1, h.2.1, fun s hs => ?_, fun _ hs => absurd hs (Nat.not_lt_zero _)⟩
  rcases hs with hs | ⟨t, ht, e⟩
  · exact h.2.2.1 s hs
  · have := h.2.2.2 t (fa_rk_lt hc hb r t ht) ht
    rcases e with e | e
    · rw [e]; exact this.1
    · rw [e]; exact this.2
theorem fy_rs_e (h : fy_rs d b r c K) (hr : 31 ≤ r) (hc : ∀ x, x < 32 → d x 0 < 32 ∧ d x 1 < 32) (hb : b < 32) : ∀ s, K.testBit s = true ↔ fa_R d b s :=
  fun s => ⟨h.2.1 s, fun hs => h.2.2.1 s (fa_R_big hc hb r (by omega) hs)⟩
end
section
variable {a a' b e : Nat → Nat} {yA yB yF yO yS yP : Nat → Int32} {yW : Nat → Int64} {m s l t : Nat}
theorem fy_sets_go {post : Int64 → Prop} (P : fx_P a a' b e) (h : fy_S a b e yA yB yF) (hm : m < 2) (hp : ∀ K, K < 2 ^ 32 → (∀ s, K.testBit s = true ↔ fa_R (ff_st a m) (b m) s) → post (lN K)) :
    ∀ d i K, i + d = 1024 → fy_rs (ff_st a m) (b m) (i / 32) (i % 32) K → wY_sets_12 post (nI m) yA yB yF yO yS yW yP (d + 1) (lN K) (nI i) := by
  have hb := P.2.2.2.1 m hm
  have hc := ff_st_c P.1 hm
  intro d
  induction d with
  | zero =>
    intro i K hi hK
    exact pk_le 1024 i (fun _ => hp K hK.1 (fy_rs_e hK (by omega) hc hb)) (fun q => absurd q (by omega))
  | succ d ih =>
    intro i K hi hK
    have hK1 := hK.1
    have nx : ∀ K', fy_rs (ff_st a m) (b m) (i / 32) (i % 32 + 1) K' → fy_rs (ff_st a m) (b m) ((i + 1) / 32) ((i + 1) % 32) K' := by
      intro K' h'
      by_cases q : i % 32 = 31
      · rw [q] at h'
        rw [show (i + 1) / 32 = i / 32 + 1 by omega, show (i + 1) % 32 = 0 by omega]
        exact fy_rs_r h' hc hb
      · rw [show (i + 1) / 32 = i / 32 by omega, show (i + 1) % 32 = i % 32 + 1 by omega]
        exact h'
    refine pk_le 1024 i (fun q => absurd q (by omega)) (fun _ => ⟨fx_32, nm_r (fx_r32 (by omega)) (br_c (fun z => ?_) (fun z => ?_))⟩)
    · rw [fj_l1 (by omega) (by omega)] at z
      have h0 := ff_st_lt P.1 hm (i % 32) 0
      have h1 := ff_st_lt P.1 hm (i % 32) 1
      refine fy_step (l := 0) P h hm (by omega) (by omega) (fy_step (l := 1) P h hm (by omega) (by omega) (nm_r (e' := lN (K ||| 2 ^ ff_st a m (i % 32) 0 ||| 2 ^ ff_st a m (i % 32) 1)) ?_ (nm_r (nI_1 i) (ih (i + 1) _ (by omega) (nx _ (fy_rs_y hK z ⟨h0, h1⟩))))))
      have p0 := fe_2p32 h0
      have p1 := fe_2p32 h1
      have p2 := Nat.or_lt_two_pow hK1 p0
      rw [fj_lone (by omega), fj_lone (by omega), wb_or (by omega) (by omega), wb_or (by omega) (by omega)]
    · rw [fj_l1 (by omega) (by omega)] at z
      exact nm_r (nI_1 i) (ih (i + 1) _ (by omega) (nx _ (fy_rs_n hK z)))
theorem fy_sets {post : Int64 → Prop} (P : fx_P a a' b e) (h : fy_S a b e yA yB yF) (hm : m < 2) (hp : ∀ K, K < 2 ^ 32 → (∀ s, K.testBit s = true ↔ fa_R (ff_st a m) (b m) s) → post (lN K)) : wpY_sets post (yA, yB, yF, yO, yS, yW, yP) (nI m) := by
  have hb := P.2.2.2.1 m hm
  refine ⟨vp_in_nI hm (by omega), ?_⟩
  rw [fx_vec h.2.1 hm]
  exact nm_r (fj_lone (by omega)) ⟨_, fy_sets_go P h hm hp 1024 0 _ rfl (fy_rs_0 hb)⟩
theorem fy_ta_in {post : SY → Prop} {J : Int32 → (Nat → Int32) → (Nat → Int32) → (Nat → Int32) → (Nat → Int32) → (Nat → Int32) → (Nat → Int64) → (Nat → Int32) → Prop} (P : fx_P a a' b e) (h : fy_S a b e yA yB yF) (hm : m < 2) {r : Nat}
    (hJ : ∀ yP' : Nat → Int32, fe_mk (ff_st a m) (ff_g e m) r 1024 (fx_Q yP') → J (nI (r + 1)) yA yB yF yO yS yW yP') : ∀ d c (yP : Nat → Int32), c + d = 1024 → fe_mk (ff_st a m) (ff_g e m) r c (fx_Q yP) →
    wY_tellApart_57 post J (nI m) (nI r) (d + 1) (nI c) yA yB yF yO yS yW yP := by
  intro d
  induction d with
  | zero =>
    intro c yP hc hq
    have : c = 1024 := by omega
    subst this
    exact pk_le 1024 1024 (fun _ => nm_r (nI_1 r) (hJ yP hq)) (fun q => absurd q (by omega))
  | succ d ih =>
    intro c yP hc hq
    have hx : c / 32 < 32 := by omega
    have hy : c % 32 < 32 := by omega
    have ec : 32 * (c / 32) + c % 32 = c := by omega
    have g0 := ff_st_lt P.1 hm (c / 32) 0
    have g1 := ff_st_lt P.1 hm (c / 32) 1
    have k0 := ff_st_lt P.1 hm (c % 32) 0
    have k1 := ff_st_lt P.1 hm (c % 32) 1
    have hin : vp_in (nI c) 1024 := vp_in_nI (by omega) (by omega)
    have nx : ∀ v : Int32, (v ≠ 0 ↔ fx_Q yP c ∨ fx_Q yP (32 * ff_st a m (c / 32) 0 + ff_st a m (c % 32) 0) ∨ fx_Q yP (32 * ff_st a m (c / 32) 1 + ff_st a m (c % 32) 1)) → fe_mk (ff_st a m) (ff_g e m) r (c + 1) (fx_Q (upd yP c v)) := by
      intro v hv
      have hq' := hq
      rw [← ec] at hq'
      have key := fe_mk_s (Q' := fx_Q (upd yP c v)) hq' hx hy (ff_st_c P.1 hm) (fun z _ hz => by
        unfold fx_Q; rw [pk_un (by omega)]) (by
        rw [ec]
        unfold fx_Q at hv ⊢
        rw [pk_us]; exact hv)
      rw [ec] at key
      exact key
    refine pk_le 1024 c (fun q => absurd q (by omega)) (fun _ => ⟨fx_32, ?_⟩)
    rw [fx_r32 (by omega), fx_d32 (by omega)]
    refine fy_step (l := 0) P h hm hx (by omega) ⟨fx_32, fy_step (l := 0) P h hm hy (by omega) (nm_r (fy_c32 _ _) ⟨fx_32, fy_step (l := 1) P h hm hx (by omega) ⟨fx_32, fy_step (l := 1) P h hm hy (by omega) (nm_r (fy_c32 _ _) ⟨hin, ?_⟩)⟩⟩)⟩
    rw [nI_clamp (by omega), nI_clamp (by omega), nI_clamp (by omega)]
    refine br_c (fun z0 => ⟨vp_in_nI (by omega) (by omega), br_c (fun z1 => ⟨vp_in_nI (by omega) (by omega), br_c (fun z2 => ?_) (fun z2 => ?_)⟩) (fun z1 => ?_)⟩) (fun z0 => ?_)
    · refine ⟨hin, nm_r (e' := upd yP c 0) rfl (nm_r (nI_1 c) (ih (c + 1) _ (by omega) (nx 0 ⟨fun w => absurd rfl w, fun w => ?_⟩)))⟩
      rcases w with w | w | w
      · exact absurd z0 w
      · exact absurd z1 w
      · exact absurd z2 w
    · exact ⟨hin, nm_r (e' := upd yP c 1) rfl (nm_r (nI_1 c) (ih (c + 1) _ (by omega) (nx 1 ⟨fun _ => Or.inr (Or.inr z2), fun _ => fx_n1⟩)))⟩
    · exact ⟨hin, nm_r (e' := upd yP c 1) rfl (nm_r (nI_1 c) (ih (c + 1) _ (by omega) (nx 1 ⟨fun _ => Or.inr (Or.inl z1), fun _ => fx_n1⟩)))⟩
    · exact ⟨hin, nm_r (e' := upd yP c 1) rfl (nm_r (nI_1 c) (ih (c + 1) _ (by omega) (nx 1 ⟨fun _ => Or.inl z0, fun _ => fx_n1⟩)))⟩
theorem fy_ta_go {post : SY → Prop} (P : fx_P a a' b e) (h : fy_S a b e yA yB yF) (hm : m < 2) (hp : ∀ yP' : Nat → Int32, (∀ x y, x < 32 → y < 32 → (fx_Q yP' (32 * x + y) ↔ ¬ fa_I (ff_st a m) (ff_g e m) x y)) → post (yA, yB, yF, yO, yS, yW, yP')) :
    ∀ d r (yP : Nat → Int32), r + d = 32 → fe_mk (ff_st a m) (ff_g e m) r 0 (fx_Q yP) → wY_tellApart_49 post (nI m) (d + 1) (nI r) yA yB yF yO yS yW yP := by
  intro d
  induction d with
  | zero =>
    intro r yP hr hq
    exact pk_le 32 r (fun _ => hp yP (fun x y hx hy => fe_mk_big hq (by omega) (ff_st_c P.1 hm) hx hy)) (fun q => absurd q (by omega))
  | succ d ih =>
    intro r yP hr hq
    refine pk_le 32 r (fun q => absurd q (by omega)) (fun _ => ⟨1025, fy_ta_in P h hm (fun yP' hq' => ih (r + 1) yP' (by omega) (fe_mk_r hq')) 1024 0 yP rfl hq⟩)
theorem fy_ta0 {post : SY → Prop} (P : fx_P a a' b e) (h : fy_S a b e yA yB yF) (hm : m < 2) (hp : ∀ yP' : Nat → Int32, (∀ x y, x < 32 → y < 32 → (fx_Q yP' (32 * x + y) ↔ ¬ fa_I (ff_st a m) (ff_g e m) x y)) → post (yA, yB, yF, yO, yS, yW, yP')) :
    ∀ d c (yP : Nat → Int32), c + d = 1024 → (∀ z, z < c → (fx_Q yP z ↔ ¬ (ff_g e m (z / 32) ↔ ff_g e m (z % 32)))) → wY_tellApart_2 post (nI m) (d + 1) (nI c) yA yB yF yO yS yW yP := by
  intro d
  induction d with
  | zero =>
    intro c yP hc hq
    have : c = 1024 := by omega
    subst this
    refine pk_le 1024 1024 (fun _ => ⟨_, fy_ta_go P h hm hp 32 0 yP rfl (fe_mk_0 (fun x y hx hy => ?_))⟩) (fun q => absurd q (by omega))
    rw [hq (32 * x + y) (by omega), show (32 * x + y) / 32 = x by omega, show (32 * x + y) % 32 = y by omega]
  | succ d ih =>
    intro c yP hc hq
    have hin : vp_in (nI c) 1024 := vp_in_nI (by omega) (by omega)
    have key : ∀ v : Int32, (v ≠ 0 ↔ ¬ (ff_g e m (c / 32) ↔ ff_g e m (c % 32))) → ∀ z, z < c + 1 → (fx_Q (upd yP c v) z ↔ ¬ (ff_g e m (z / 32) ↔ ff_g e m (z % 32))) := by
      intro v hv z hz
      by_cases g : z = c
      · subst g
        unfold fx_Q
        rw [pk_us]; exact hv
      · unfold fx_Q
        rw [pk_un g]; exact hq z (by omega)
    refine pk_le 1024 c (fun q => absurd q (by omega)) (fun _ => ⟨fx_32, ?_⟩)
    rw [fx_r32 (by omega), fx_d32 (by omega)]
    refine fy_good h hm (by omega) (fx_tv_m (fun gx => ⟨fx_32, fy_good h hm (by omega) (fx_tv_m (fun gy => ?_) (fun gy => ?_))⟩) (fun gx => ⟨fx_32, fy_good h hm (by omega) (fx_tv_m (fun gy => ?_) (fun gy => ?_))⟩))
    · exact br_t rfl ⟨hin, nm_r (fx_put (by omega) fx_nb0) (nm_r (nI_1 c) (ih (c + 1) _ (by omega) (key 0 ⟨fun z => absurd rfl z, fun z => absurd ⟨fun _ => gy, fun _ => gx⟩ z⟩)))⟩
    · exact br_f fx_n1 ⟨hin, nm_r (fx_put (by omega) fx_nb1) (nm_r (nI_1 c) (ih (c + 1) _ (by omega) (key 1 ⟨fun _ z => gy (z.mp gx), fun _ => fx_n1⟩)))⟩
    · exact br_f (fun z => fx_n1 z.symm) ⟨hin, nm_r (fx_put (by omega) fx_nb1) (nm_r (nI_1 c) (ih (c + 1) _ (by omega) (key 1 ⟨fun _ z => gx (z.mpr gy), fun _ => fx_n1⟩)))⟩
    · exact br_t rfl ⟨hin, nm_r (fx_put (by omega) fx_nb0) (nm_r (nI_1 c) (ih (c + 1) _ (by omega) (key 0 ⟨fun z => absurd rfl z, fun z => absurd ⟨fun q => absurd q gx, fun q => absurd q gy⟩ z⟩)))⟩
theorem fy_tellApart {post : SY → Prop} (P : fx_P a a' b e) (h : fy_S a b e yA yB yF) (hm : m < 2) (hp : ∀ yP' : Nat → Int32, (∀ x y, x < 32 → y < 32 → (fx_Q yP' (32 * x + y) ↔ ¬ fa_I (ff_st a m) (ff_g e m) x y)) → post (yA, yB, yF, yO, yS, yW, yP')) : wpY_tellApart post (yA, yB, yF, yO, yS, yW, yP) (nI m) :=
  ⟨_, fy_ta0 P h hm hp 1024 0 yP rfl (fun z hz => absurd hz (Nat.not_lt_zero _))⟩
theorem fy_sz_in {post : Int32 → SY → Prop} {J : Int32 → Int32 → Prop} {K n s : Nat} {R : Nat → Prop} (hK : K < 2 ^ 32) (hR : ∀ s, K.testBit s = true ↔ R s) (hs : s < 32)
    (hJ1 : fe_nb R (fun t s => ¬ fx_Q yP (32 * s + t)) s → J (nI (n + 1)) (nI (s + 1))) (hJ0 : ¬ fe_nb R (fun t s => ¬ fx_Q yP (32 * s + t)) s → J (nI n) (nI (s + 1))) :
    ∀ d o (y : Int32), o + d = s → fy_is (R s ∧ ∀ t, t < o → R t → fx_Q yP (32 * s + t)) y → wY_size_64 post J (lN K) (nI n) (nI s) yA yB yF yO yS yW yP (d + 1) y (nI o) := by
  intro d
  induction d with
  | zero =>
    intro o y ho hy
    have : o = s := by omega
    subst this
    refine pk_le o o (fun _ => ?_) (fun q => absurd q (by omega))
    rcases hy with ⟨rfl, g⟩ | ⟨rfl, g⟩
    · exact br_f fx_n1 (nm_r (nI_1 n) (nm_r (nI_1 o) (hJ1 ⟨g.1, fun t ht hr z => z (g.2 t ht hr)⟩)))
    · exact br_t rfl (nm_r (nI_1 o) (hJ0 (fun z => g ⟨z.1, fun t ht hr => Classical.byContradiction fun w => z.2 t ht hr w⟩)))
  | succ d ih =>
    intro o y ho hy
    refine pk_le s o (fun q => absurd q (by omega)) (fun _ => ?_)
    rcases hy with ⟨rfl, g⟩ | ⟨rfl, g⟩
    · refine br_f fx_n1 (br_c (fun z => ?_) (fun z => ?_))
      · rw [fj_l0 (by omega) (by omega), hR] at z
        refine nm_r (nI_1 o) (ih (o + 1) 1 (by omega) (Or.inl ⟨rfl, g.1, fun t ht hr => ?_⟩))
        by_cases q : t = o
        · subst q; exact absurd hr z
        · exact g.2 t (by omega) hr
      · rw [fj_l0 (by omega) (by omega), hR] at z
        have hr : R o := Classical.byContradiction z
        rw [fy_c32]
        refine ⟨vp_in_nI (by omega) (by omega), ?_⟩
        rw [nI_clamp (by omega)]
        refine br_c (fun w => ?_) (fun w => ?_)
        · exact nm_r (nI_1 o) (ih (o + 1) 0 (by omega) (Or.inr ⟨rfl, fun v => v.2 o (by omega) hr w⟩))
        · refine nm_r (nI_1 o) (ih (o + 1) 1 (by omega) (Or.inl ⟨rfl, g.1, fun t ht hr' => ?_⟩))
          by_cases q : t = o
          · subst q; exact w
          · exact g.2 t (by omega) hr'
    · exact br_t rfl (nm_r (nI_1 o) (ih (o + 1) 0 (by omega) (Or.inr ⟨rfl, fun v => g ⟨v.1, fun t ht hr => v.2 t (by omega) hr⟩⟩)))
theorem fy_sz_go {post : Int32 → SY → Prop} {K : Nat} {R : Nat → Prop} (hK : K < 2 ^ 32) (hR : ∀ s, K.testBit s = true ↔ R s) (hp : post (nI (fa_ct (fe_nb R (fun t s => ¬ fx_Q yP (32 * s + t))) 32)) (yA, yB, yF, yO, yS, yW, yP)) :
    ∀ d s n, s + d = 32 → n = fa_ct (fe_nb R (fun t s => ¬ fx_Q yP (32 * s + t))) s → wY_size_36 post (lN K) yA yB yF yO yS yW yP (d + 1) (nI n) (nI s) := by
  intro d
  induction d with
  | zero =>
    intro s n hs hn
    have : s = 32 := by omega
    subst this
    refine pk_le 32 32 (fun _ => ?_) (fun q => absurd q (by omega))
    rw [hn]; exact hp
  | succ d ih =>
    intro s n hs hn
    have go : ∀ y : Int32, fy_is (R s ∧ ∀ t, t < 0 → R t → fx_Q yP (32 * s + t)) y → wY_size_64 post (wY_size_36 post (lN K) yA yB yF yO yS yW yP (d + 1)) (lN K) (nI n) (nI s) yA yB yF yO yS yW yP (s + 1) y (nI 0) := by
      intro y hy
      refine fy_sz_in hK hR (by omega) (fun g => ih (s + 1) (n + 1) (by omega) ?_) (fun g => ih (s + 1) n (by omega) ?_) s 0 y (by omega) hy
      · rw [fa_ct_t g, hn]
      · rw [fa_ct_f g, hn]
    refine pk_le 32 s (fun q => absurd q (by omega)) (fun _ => br_c (fun z => ⟨s + 1, go 1 ?_⟩) (fun z => ⟨s + 1, go 0 ?_⟩))
    · rw [fj_l1 (by omega) (by omega), hR] at z
      exact Or.inl ⟨rfl, z, fun t ht => absurd ht (Nat.not_lt_zero _)⟩
    · rw [fj_l1 (by omega) (by omega), hR] at z
      exact Or.inr ⟨rfl, fun w => z w.1⟩
def fy_ans (a b e : Nat → Nat) (v : Int32) (post : Int32 → SY → Prop) : Prop := ∀ (yA yB yF yO yS : Nat → Int32) (yW : Nat → Int64) (yP : Nat → Int32), fy_S a b e yA yB yF → post v (yA, yB, yF, yO, yS, yW, yP)
theorem fy_engine_t {post : Int32 → Prop} {g : Nat} (k : Nat) (hg : g ≤ k) (hk : k < 2 ^ 31) (hp : post 1) : wpY_engine post (yA, yB, yF, yO, yS, yW, yP) (nI g) (nI k) :=
  br_f (nI_pos (by omega)) (pk_lt k g (fun q => absurd q (by omega)) (fun _ => hp))
theorem fy_engine_f {post : Int32 → Prop} {x : Int32} (k : Nat) (hk : k + 1 < 2 ^ 31) (h : fx_bad x (k + 1)) (hp : post 0) : wpY_engine post (yA, yB, yF, yO, yS, yW, yP) x (nI k) := by
  rcases h with h | h
  · exact br_t h hp
  · by_cases h0 : x < 0
    · exact br_t h0 hp
    · exact br_f h0 (br_t (Int32.lt_of_lt_of_le (nI_lt (by omega) hk) h) hp)
theorem fy_size {post : Int32 → SY → Prop} (P : fx_P a a' b e) (h : fy_S a b e yA yB yF) (hm : m < 2) {g : Nat} (hg : g < 4) (hp : fy_ans a b e (nI (ff_N a b e m)) post) : wpY_size post (yA, yB, yF, yO, yS, yW, yP) (nI g) (nI m) := by
  unfold wpY_size
  dsimp only
  refine fy_engine_t 3 (by omega) (by omega) (br_f fx_n1 (fy_machine_t hm (br_f fx_n1 ?_)))
  refine fy_tellApart P h hm (fun yP' hq => fy_sets P h hm (fun K hK hR => ⟨_, fy_sz_go hK hR ?_ 32 0 0 rfl rfl⟩))
  have : fa_ct (fe_nb (fa_R (ff_st a m) (b m)) (fun t s => ¬ fx_Q yP' (32 * s + t))) 32 = ff_N a b e m := by
    refine fe_nb_congr (fun _ _ => Iff.rfl) (fun s t hs ht _ _ => ?_)
    rw [hq t s ht hs]
    exact ⟨fun z => fa_I_sm (Classical.byContradiction z), fun z w => w (fa_I_sm z)⟩
  rw [this]
  exact hp _ _ _ _ _ _ _ h
end
