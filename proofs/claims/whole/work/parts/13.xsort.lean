/-! X: sorting the nodes into kinds; size by kinds; equal by kinds -/
theorem fx_ix2 (m S : Nat) : nI m * 32 + nI S = nI (m * 32 + S) := by
  show nI m * nI 32 + nI S = _
  rw [pk_mul, nI_add]
theorem fx_32 : ¬ (32 : Int32) = 0 := by decide
theorem fx_d32 {x : Nat} (h : x < 2 ^ 31) : nI x / 32 = nI (x / 32) := pk_div (d := 32) h (by omega) (by omega)
theorem fx_r32 {x : Nat} (h : x < 2 ^ 31) : nI x - nI x / 32 * 32 = nI (x % 32) := pk_rem (d := 32) h (by omega) (by omega)
def fx_ar (t : Nat → Int32) (c : Nat → Nat) (n : Nat) : Prop := ∀ x, x < n → t x = nI (c x)
theorem fx_ar_s {t : Nat → Int32} {c : Nat → Nat} {n v : Nat} (h : fx_ar t c n) : fx_ar (upd t n (nI v)) (fd_up c n v) (n + 1) := by
  intro x hx
  by_cases q : x = n
  · subst q; rw [pk_us, fd_up_s]
  · rw [pk_un q, fd_up_n (by omega)]; exact h x (by omega)
theorem fx_ar_k {t : Nat → Int32} {c : Nat → Nat} {n : Nat} (h : fx_ar t c n) : fx_ar (upd t n (nI (c n))) c (n + 1) := by
  intro x hx
  by_cases q : x = n
  · subst q; rw [pk_us]
  · rw [pk_un q]; exact h x (by omega)
section
variable {a a' b e : Nat → Nat} {aO aB aS aE cC cF cS cA cG cL cM cN cP cW cT cQ : Nat → Int32} {m x l : Nat}
theorem fx_endNode {post : Int32 → Prop} (h : fx_S a a' b e aO aB aS aE) (hx : x < 64) (hp : fx_tv (ff_f e x) post) : wpX_isEndingNode post (aO, aB, aS, aE, cC, cF, cS, cA, cG, cL, cM, cN, cP, cW, cT, cQ) (nI x) := by
  refine ⟨fx_32, fx_32, ?_⟩
  rw [fx_r32 (by omega), fx_d32 (by omega)]
  exact fx_ending h (by omega) (by omega) (fx_tv_n hp)
theorem fx_nodeAfter {post : Int32 → Prop} (P : fx_P a a' b e) (h : fx_S a a' b e aO aB aS aE) (hx : x < 64) (hl : l < 2) (hp : post (nI (ff_d a x l))) : wpX_nodeAfter post (aO, aB, aS, aE, cC, cF, cS, cA, cG, cL, cM, cN, cP, cW, cT, cQ) (nI x) (nI l) := by
  have ei : nI x * 2 + nI l = nI (x * 2 + l) := by
    show nI x * nI 2 + nI l = _
    rw [pk_mul, nI_add]
  have et : aO (x * 2 + l) = nI (ff_st a (x / 32) (x % 32) l) := by
    have := h.1 (x / 32) (x % 32) l (by omega) (by omega) hl
    rw [show (x / 32 * 32 + x % 32) * 2 + l = x * 2 + l by omega] at this
    exact this
  unfold wpX_nodeAfter
  dsimp only
  rw [fx_r32 (by omega), ei, nI_clamp (by omega), et, pk_sub (Nat.mod_le _ _), nI_add]
  refine ⟨fx_32, vp_in_nI (by omega) (by omega), ?_⟩
  rw [show x - x % 32 + ff_st a (x / 32) (x % 32) l = ff_d a x l by unfold ff_d; omega]
  exact hp
theorem fx_like_go {post : Int32 → Prop} (hx : x < 64) (h1 : ∀ k, k < x → cS k = cS x → post (nI k)) (h0 : (∀ k, k < x → cS k ≠ cS x) → post (nI x)) : ∀ d c, c + d = x → (∀ k, k < c → cS k ≠ cS x) →
    wX_firstNodeLike_2 post (nI x) aO aB aS aE cC cF cS cA cG cL cM cN cP cW cT cQ (d + 1) (nI c) := by
  intro d
  induction d with
  | zero =>
    intro c hc hn
    have : c = x := by omega
    subst this
    exact pk_le c c (fun _ => h0 hn) (fun q => absurd q (by omega))
  | succ d ih =>
    intro c hc hn
    refine pk_le x c (fun q => absurd q (by omega)) (fun _ => ⟨vp_in_nI (by omega) (by omega), vp_in_nI hx (by omega), ?_⟩)
    rw [nI_clamp (by omega), nI_clamp (by omega)]
    refine br_c (fun q => h1 c (by omega) q) (fun q => nm_r (nI_1 c) (ih (c + 1) (by omega) (fun k hk => ?_)))
    by_cases g : k = c
    · subst g; exact q
    · exact hn k (by omega)
theorem fx_like {post : Int32 → Prop} (hx : x < 64) (h1 : ∀ k, k < x → cS k = cS x → post (nI k)) (h0 : (∀ k, k < x → cS k ≠ cS x) → post (nI x)) : wpX_firstNodeLike post (aO, aB, aS, aE, cC, cF, cS, cA, cG, cL, cM, cN, cP, cW, cT, cQ) (nI x) :=
  ⟨_, fx_like_go hx h1 h0 x 0 (by omega) (fun k hk => absurd hk (Nat.not_lt_zero _))⟩
theorem fx_split2 {post : Int32 → SX → Prop} {n : Nat} {fn : Nat → Nat} (hF : fx_ar cF fn 64) (hp : ∀ cC' : Nat → Int32, fx_ar cC' fn 64 → post (nI n) (aO, aB, aS, aE, cC', cF, cS, cA, cG, cL, cM, cN, cP, cW, cT, cQ)) : ∀ d c (cC : Nat → Int32), c + d = 64 → fx_ar cC fn c →
    wX_splitClasses_105 post (nI n) (d + 1) (nI c) aO aB aS aE cC cF cS cA cG cL cM cN cP cW cT cQ := by
  intro d
  induction d with
  | zero =>
    intro c cC hc hC
    have : c = 64 := by omega
    subst this
    exact pk_le 64 64 (fun _ => hp cC hC) (fun q => absurd q (by omega))
  | succ d ih =>
    intro c cC hc hC
    refine pk_le 64 c (fun q => absurd q (by omega)) (fun _ => ⟨vp_in_nI (by omega) (by omega), vp_in_nI (by omega) (by omega), nm_r (fx_put (by omega) ((fx_get (by omega)).trans (hF c (by omega)))) (nm_r (nI_1 c) ?_)⟩)
    exact ih (c + 1) _ (by omega) (fx_ar_k hC)
theorem fx_split_go {post : Int32 → SX → Prop} (P : fx_P a a' b e) (h : fx_S a a' b e aO aB aS aE) {r : Nat} {cl : Nat → Nat} (hC : fx_ar cC cl 64) (hcl : fg_cl (ff_d a) (ff_f e) r cl)
    (hp : ∀ (cC' cF' cS' : Nat → Int32) (n : Nat) (fn : Nat → Nat), fg_fn (ff_d a) (ff_f e) r 64 n fn → fx_ar cC' fn 64 → post (nI n) (aO, aB, aS, aE, cC', cF', cS', cA, cG, cL, cM, cN, cP, cW, cT, cQ)) : ∀ d c n (fn : Nat → Nat) (cF cS : Nat → Int32), c + d = 64 → fg_fn (ff_d a) (ff_f e) r c n fn → fx_ar cF fn c → fx_ar cS (fg_sg (ff_d a) cl) c →
    wX_splitClasses_4 post (d + 1) (nI n) (nI c) aO aB aS aE cC cF cS cA cG cL cM cN cP cW cT cQ := by
  have hcd := ff_d_c P.1
  intro d
  induction d with
  | zero =>
    intro c n fn cF cS hc hfn hF hS
    have : c = 64 := by omega
    subst this
    refine pk_le 64 64 (fun _ => ⟨_, fx_split2 hF (fun cC' hC' => hp cC' cF cS n fn hfn hC') 64 0 cC rfl (fun x hx => absurd hx (Nat.not_lt_zero _))⟩) (fun q => absurd q (by omega))
  | succ d ih =>
    intro c n fn cF cS hc hfn hF hS
    have hc64 : c < 64 := by omega
    have d0 := (hcd c hc64).1
    have d1 := (hcd c hc64).2
    refine pk_le 64 c (fun q => absurd q (by omega)) (fun _ => fx_nodeAfter (l := 0) P h hc64 (by omega) ⟨vp_in_nI d0 (by omega), nm_r ((fx_get (by omega)).trans (hC _ d0)) ?_⟩)
    refine fx_nodeAfter (l := 1) P h hc64 (by omega) ⟨vp_in_nI d1 (by omega), nm_r ((fx_get (by omega)).trans (hC _ d1)) ⟨vp_in_nI hc64 (by omega), vp_in_nI hc64 (by omega), nm_r (fx_put (y := nI (fg_sg (ff_d a) cl c)) (by omega) ?_) ?_⟩⟩
    · rw [nI_clamp (by omega), hC c hc64]
      show (nI (cl c) * nI 64 + nI (cl (ff_d a c 0))) * nI 64 + nI (cl (ff_d a c 1)) = _
      rw [pk_mul, nI_add, pk_mul, nI_add]; rfl
    have hS' : fx_ar (upd cS c (nI (fg_sg (ff_d a) cl c))) (fg_sg (ff_d a) cl) (c + 1) := fx_ar_k hS
    have eqS : ∀ k, k < c → (upd cS c (nI (fg_sg (ff_d a) cl c)) k = upd cS c (nI (fg_sg (ff_d a) cl c)) c ↔ fa_E (ff_d a) (ff_f e) (r + 1) k c) := by
      intro k hk
      rw [hS' k (by omega), hS' c (by omega), fm_inj (by have := fg_sg_lt hcl hcd (show k < 64 by omega); omega) (by have := fg_sg_lt hcl hcd hc64; omega)]
      exact fg_sg_E hcl hcd (by omega) hc64
    refine fx_like hc64 (fun k hk he => ?_) (fun hne => ?_)
    · refine pk_eq k c (fun q => absurd q (by omega)) (fun _ => ⟨vp_in_nI (by omega) (by omega), vp_in_nI hc64 (by omega), nm_r (fx_put (by omega) ((fx_get (by omega)).trans (hF k hk))) (nm_r (nI_1 c) ?_)⟩)
      exact ih (c + 1) n _ _ _ (by omega) (fg_fn_old hfn hk ((eqS k hk).mp he)) (fx_ar_s hF) hS'
    · refine pk_eq c c (fun _ => ⟨vp_in_nI hc64 (by omega), nm_r (fx_put (by omega) rfl) (nm_r (nI_1 n) (nm_r (nI_1 c) ?_))⟩) (fun q => absurd rfl q)
      exact ih (c + 1) (n + 1) _ _ _ (by omega) (fg_fn_new hfn (fun k hk z => hne k hk ((eqS k hk).mpr z))) (fx_ar_s hF) hS'
theorem fx_split {post : Int32 → SX → Prop} (P : fx_P a a' b e) (h : fx_S a a' b e aO aB aS aE) {r : Nat} {cl : Nat → Nat} (hC : fx_ar cC cl 64) (hcl : fg_cl (ff_d a) (ff_f e) r cl)
    (hp : ∀ (cC' cF' cS' : Nat → Int32) (n : Nat) (fn : Nat → Nat), fg_fn (ff_d a) (ff_f e) r 64 n fn → fx_ar cC' fn 64 → post (nI n) (aO, aB, aS, aE, cC', cF', cS', cA, cG, cL, cM, cN, cP, cW, cT, cQ)) : wpX_splitClasses post (aO, aB, aS, aE, cC, cF, cS, cA, cG, cL, cM, cN, cP, cW, cT, cQ) :=
  ⟨_, fx_split_go P h hC hcl hp 64 0 0 (fun _ => 0) cF cS rfl (fg_fn_0 r _) (fun x hx => absurd hx (Nat.not_lt_zero _)) (fun x hx => absurd hx (Nat.not_lt_zero _))⟩
theorem fx_sort_go {post : SX → Prop} (P : fx_P a a' b e) (h : fx_S a a' b e aO aB aS aE)
    (hp : ∀ (cC' cF' cS' : Nat → Int32) (cl : Nat → Nat), fx_ar cC' cl 64 → fg_fin (ff_d a) (ff_f e) cl → post (aO, aB, aS, aE, cC', cF', cS', cA, cG, cL, cM, cN, cP, cW, cT, cQ)) : ∀ d r k (cl : Nat → Nat) (cC cF cS : Nat → Int32), r + d = 64 → fx_ar cC cl 64 → fg_cl (ff_d a) (ff_f e) r cl →
    (k ≤ 64 ∧ (r = 0 ∧ k = 0 ∨ k = fa_ct (fa_rep (ff_d a) (ff_f e) r) 64)) → wX_sortIntoClasses_37 post (d + 1) (nI k) (nI r) aO aB aS aE cC cF cS cA cG cL cM cN cP cW cT cQ := by
  have hcd := ff_d_c P.1
  intro d
  induction d with
  | zero =>
    intro r k cl cC cF cS hr hC hcl _
    exact pk_le 64 r (fun _ => hp cC cF cS cl hC (fg_big (by omega) hcd hcl)) (fun q => absurd q (by omega))
  | succ d ih =>
    intro r k cl cC cF cS hr hC hcl hk
    refine pk_le 64 r (fun q => absurd q (by omega)) (fun _ => ?_)
    refine fx_split P h hC hcl (fun cC' cF' cS' n fn hfn hC' => ?_)
    have hn := fg_n1 hfn
    refine pk_eq n k (fun q => ?_) (fun _ => nm_r (nI_1 r) ?_)
    · refine hp cC' cF' cS' fn hC' (fg_brk hcd hfn ?_)
      rcases hk.2 with g | g
      · omega
      · rw [q]; exact g
    · exact ih (r + 1) n fn cC' cF' cS' (by omega) hC' (fg_fn_end hfn) ⟨hn.2, Or.inr hfn.1⟩
noncomputable def fx_c0 (e : Nat → Nat) (x : Nat) : Nat := @ite Nat (ff_f e x) (Classical.propDecidable _) 1 0
theorem fx_c0_t {e : Nat → Nat} {x : Nat} (h : ff_f e x) : fx_c0 e x = 1 := by unfold fx_c0; exact if_pos h
theorem fx_c0_f {e : Nat → Nat} {x : Nat} (h : ¬ ff_f e x) : fx_c0 e x = 0 := by unfold fx_c0; exact if_neg h
theorem fx_c0_cl (d : Nat → Nat → Nat) : fg_cl d (ff_f e) 0 (fx_c0 e) := by
  refine ⟨fun x _ => ?_, fun x y _ _ => ?_⟩
  · by_cases h : ff_f e x
    · rw [fx_c0_t h]; omega
    · rw [fx_c0_f h]; omega
  · show _ ↔ (ff_f e x ↔ ff_f e y)
    by_cases h : ff_f e x
    · by_cases g : ff_f e y
      · rw [fx_c0_t h, fx_c0_t g]; exact ⟨fun _ => ⟨fun _ => g, fun _ => h⟩, fun _ => rfl⟩
      · rw [fx_c0_t h, fx_c0_f g]; exact ⟨fun z => absurd z (by decide), fun z => absurd (z.mp h) g⟩
    · by_cases g : ff_f e y
      · rw [fx_c0_f h, fx_c0_t g]; exact ⟨fun z => absurd z (by decide), fun z => absurd (z.mpr g) h⟩
      · rw [fx_c0_f h, fx_c0_f g]; exact ⟨fun _ => ⟨fun z => absurd z h, fun z => absurd z g⟩, fun _ => rfl⟩
theorem fx_sort0_go {post : SX → Prop} (P : fx_P a a' b e) (h : fx_S a a' b e aO aB aS aE)
    (hp : ∀ (cC' cF' cS' : Nat → Int32) (cl : Nat → Nat), fx_ar cC' cl 64 → fg_fin (ff_d a) (ff_f e) cl → post (aO, aB, aS, aE, cC', cF', cS', cA, cG, cL, cM, cN, cP, cW, cT, cQ)) : ∀ d c (cC : Nat → Int32), c + d = 64 → fx_ar cC (fx_c0 e) c →
    wX_sortIntoClasses_2 post (d + 1) (nI c) aO aB aS aE cC cF cS cA cG cL cM cN cP cW cT cQ := by
  intro d
  induction d with
  | zero =>
    intro c cC hc hC
    have : c = 64 := by omega
    subst this
    exact pk_le 64 64 (fun _ => ⟨_, fx_sort_go P h hp 64 0 0 (fx_c0 e) cC cF cS rfl hC (fx_c0_cl _) ⟨by omega, Or.inl ⟨rfl, rfl⟩⟩⟩) (fun q => absurd q (by omega))
  | succ d ih =>
    intro c cC hc hC
    have hk := fx_ar_k hC
    refine pk_le 64 c (fun q => absurd q (by omega)) (fun _ => fx_endNode h (by omega) (fx_tv_c (fun g => ?_) (fun g => ?_)))
    · rw [fx_c0_t g] at hk
      exact ⟨vp_in_nI (by omega) (by omega), nm_r (fx_put (by omega) rfl) (nm_r (nI_1 c) (ih (c + 1) _ (by omega) hk))⟩
    · rw [fx_c0_f g] at hk
      exact ⟨vp_in_nI (by omega) (by omega), nm_r (fx_put (by omega) rfl) (nm_r (nI_1 c) (ih (c + 1) _ (by omega) hk))⟩
theorem fx_sort {post : SX → Prop} (P : fx_P a a' b e) (h : fx_S a a' b e aO aB aS aE)
    (hp : ∀ (cC' cF' cS' : Nat → Int32) (cl : Nat → Nat), fx_ar cC' cl 64 → fg_fin (ff_d a) (ff_f e) cl → post (aO, aB, aS, aE, cC', cF', cS', cA, cG, cL, cM, cN, cP, cW, cT, cQ)) : wpX_sortIntoClasses post (aO, aB, aS, aE, cC, cF, cS, cA, cG, cL, cM, cN, cP, cW, cT, cQ) :=
  ⟨_, fx_sort0_go P h hp 64 0 cC rfl (fun x hx => absurd hx (Nat.not_lt_zero _))⟩
theorem fx_byClasses {post : Int32 → SX → Prop} (P : fx_P a a' b e) (h : fx_S a a' b e aO aB aS aE)
    (h1 : fi_EQ a b e → ∀ cC' cF' cS' : Nat → Int32, post 1 (aO, aB, aS, aE, cC', cF', cS', cA, cG, cL, cM, cN, cP, cW, cT, cQ)) (h0 : ¬ fi_EQ a b e → ∀ cC' cF' cS' : Nat → Int32, post 0 (aO, aB, aS, aE, cC', cF', cS', cA, cG, cL, cM, cN, cP, cW, cT, cQ)) : wpX_isEqualByClasses post (aO, aB, aS, aE, cC, cF, cS, cA, cG, cL, cM, cN, cP, cW, cT, cQ) := by
  have hb0 := P.2.2.2.1 0 (by omega)
  have hb1 := P.2.2.2.1 1 (by omega)
  unfold wpX_isEqualByClasses
  dsimp only
  refine fx_sort P h (fun cC' cF' cS' cl hC hcl => ?_)
  have e0 : aS 0 = nI (b 0) := h.2.2.1 0 (by omega)
  have e1 : (32 : Int32) + aS 1 = nI (32 + b 1) := by
    rw [h.2.2.1 1 (by omega)]
    exact nI_add 32 (b 1)
  dsimp only
  rw [e0, e1]
  refine ⟨vp_in_nI (by omega) (by omega), vp_in_nI (by omega) (by omega), ?_⟩
  rw [nI_clamp (by omega), nI_clamp (by omega), hC _ (by omega), hC _ (by omega)]
  have hE := hcl.2 (b 0) (32 + b 1) (by omega) (by omega)
  have c0 := hcl.1 (b 0) (by omega)
  have c1 := hcl.1 (32 + b 1) (by omega)
  exact pk_eq (cl (b 0)) (cl (32 + b 1)) (fun q => h1 (hE.mp q) _ _ _) (fun q => h0 (fun z => q (hE.mpr z)) _ _ _)
end
