/-! X: engine 2 for size; size and agree -/
section
variable {a a' b e : Nat → Nat} {aO aB aS aE cC cF cS cA cG cL cM cN cP cW cT cQ : Nat → Int32} {m x l : Nat}
theorem fx_s2_in {post : Int32 → SX → Prop} {J : Int32 → Int32 → (Nat → Int32) → (Nat → Int32) → (Nat → Int32) → (Nat → Int32) → (Nat → Int32) → (Nat → Int32) → (Nat → Int32) → (Nat → Int32) → (Nat → Int32) → (Nat → Int32) → (Nat → Int32) → (Nat → Int32) → (Nat → Int32) → (Nat → Int32) → (Nat → Int32) → (Nat → Int32) → Prop}
    (P : fx_P a a' b e) (h : fx_S a a' b e aO aB aS aE) (hm : m < 2) {K i n s : Nat} (hK : K < 2 ^ 32) (hT : ∀ s, K.testBit s = true ↔ fa_R (ff_st a' m) (e m) s) (hi : i < n) (hi32 : i < 32)
    (hG : fm_G (fa_R (ff_st a m) (b m)) (fm_M K) n cG) (hs : s < 32) (hr : fa_R (ff_st a m) (b m) s) (es : cG i = nI (fm_M K s))
    (hJ : ∀ n' (cG' : Nat → Int32), fm_G (fa_R (ff_st a m) (b m)) (fm_M K) n' cG' → fx_xt n cG n' cG' → (∃ k, k < n' ∧ cG' k = nI (fm_M K (ff_st a m s 0))) → (∃ k, k < n' ∧ cG' k = nI (fm_M K (ff_st a m s 1))) → J (nI n') (nI (i + 1)) aO aB aS aE cC cF cS cA cG' cL cM cN cP cW cT cQ) :
    wX_sizeByTurningTwice_52 post J (nI m) (nI K) (nI i) 3 (nI n) 0 aO aB aS aE cC cF cS cA cG cL cM cN cP cW cT cQ := by
  refine pk_le 2 0 (fun q => absurd q (by omega)) (fun _ => ⟨vp_in_nI hi32 (by omega), ?_⟩)
  rw [nI_clamp (by omega), es]
  refine fx_group (l := 0) P h hm hK (fm_M_lt K s) (by omega) ?_
  rw [fm_q_M P.1 P.2.1 P.2.2.1 hm hT hs (by omega)]
  refine fx_note hG (ff_st_lt P.1 hm s 0) (fa_R_0 hr) (fun n1 cG1 hG1 hx1 hk1 => nm_r (e' := nI 1) (by decide) ?_)
  refine pk_le 2 1 (fun q => absurd q (by omega)) (fun _ => ⟨vp_in_nI hi32 (by omega), ?_⟩)
  rw [nI_clamp (by omega), (hx1.2 i hi).trans es]
  refine fx_group P h hm hK (fm_M_lt K s) (by omega) ?_
  rw [fm_q_M P.1 P.2.1 P.2.2.1 hm hT hs (by omega)]
  refine fx_note hG1 (ff_st_lt P.1 hm s 1) (fa_R_1 hr) (fun n2 cG2 hG2 hx2 hk2 => nm_r (e' := nI 2) (by decide) ?_)
  refine pk_le 2 2 (fun _ => nm_r (nI_1 i) ?_) (fun q => absurd q (by omega))
  obtain ⟨k, h1, h2⟩ := hk1
  exact hJ n2 cG2 hG2 ⟨Nat.le_trans hx1.1 hx2.1, fun k hk => (hx2.2 k (Nat.lt_of_lt_of_le hk hx1.1)).trans (hx1.2 k hk)⟩ ⟨k, Nat.lt_of_lt_of_le h1 hx2.1, (hx2.2 k h1).trans h2⟩ hk2
theorem fx_s2_go {post : Int32 → SX → Prop} (P : fx_P a a' b e) (h : fx_S a a' b e aO aB aS aE) (hm : m < 2) {K : Nat} (hK : K < 2 ^ 32) (hT : ∀ s, K.testBit s = true ↔ fa_R (ff_st a' m) (e m) s)
    (hp : fx_ans a a' b e (nI (ff_N a b e m)) post) : ∀ d i n (cG : Nat → Int32), i + d = 33 → i ≤ n → fm_G (fa_R (ff_st a m) (b m)) (fm_M K) n cG → fm_W (ff_st a m) (fm_M K) n i cG → (∃ k, k < n ∧ cG k = nI (fm_M K (b m))) →
    wX_sizeByTurningTwice_36 post (nI m) (nI K) (d + 1) (nI n) (nI i) aO aB aS aE cC cF cS cA cG cL cM cN cP cW cT cQ := by
  intro d
  induction d with
  | zero =>
    intro i n cG hi hin hG
    have := fm_G_32 hG
    omega
  | succ d ih =>
    intro i n cG hi hin hG hW hb
    have h32 := fm_G_32 hG
    refine pk_le n i (fun q => ?_) (fun q => pk_le 32 i (fun q' => absurd q' (by omega)) (fun _ => ?_))
    · have : i = n := by omega
      subst this
      rw [fm_G_end (fm_M_lt K) hG (fx_s2_end (fun _ => Iff.rfl) (ff_st_c P.1 hm) (P.2.2.2.1 m hm) hb hW), fx_N_M P hm hT]
      exact hp _ _ _ _ _ _ _ _ _ _ _ _ _ _ _ _ h
    · obtain ⟨s, hs, hr, es⟩ := hG.2 i q
      refine ⟨_, fx_s2_in P h hm hK hT q (by omega) hG hs hr es (fun n' cG' hG' hx k0 k1 => ?_)⟩
      refine ih (i + 1) n' cG' (by omega) (by have := hx.1; omega) hG' (fun j s' hj hs' ej => ?_) ?_
      · by_cases g : j = i
        · subst g
          rw [hx.2 j q, es, fm_inj (fm_M_lt _ _) (fm_M_lt _ _), fm_M_I P.1 P.2.1 P.2.2.1 hm (P.2.2.2.2 m hm) hT hs hs'] at ej
          have e0 := (fm_M_I P.1 P.2.1 P.2.2.1 hm (P.2.2.2.2 m hm) hT (ff_st_lt P.1 hm s 0) (ff_st_lt P.1 hm s' 0)).mpr (fa_I_s0 ej)
          have e1 := (fm_M_I P.1 P.2.1 P.2.2.1 hm (P.2.2.2.2 m hm) hT (ff_st_lt P.1 hm s 1) (ff_st_lt P.1 hm s' 1)).mpr (fa_I_s1 ej)
          rw [← e0, ← e1]
          exact ⟨k0, k1⟩
        · have hjn : j < n := by omega
          rw [hx.2 j hjn] at ej
          obtain ⟨⟨p, p1, p2⟩, ⟨r, r1, r2⟩⟩ := hW j s' (by omega) hs' ej
          exact ⟨⟨p, Nat.lt_of_lt_of_le p1 hx.1, (hx.2 p p1).trans p2⟩, ⟨r, Nat.lt_of_lt_of_le r1 hx.1, (hx.2 r r1).trans r2⟩⟩
      · obtain ⟨p, p1, p2⟩ := hb
        exact ⟨p, Nat.lt_of_lt_of_le p1 hx.1, (hx.2 p p1).trans p2⟩
theorem fx_size2 {post : Int32 → SX → Prop} (P : fx_P a a' b e) (h : fx_S a a' b e aO aB aS aE) (hm : m < 2) (hp : fx_ans a a' b e (nI (ff_N a b e m)) post) : wpX_sizeByTurningTwice post (aO, aB, aS, aE, cC, cF, cS, cA, cG, cL, cM, cN, cP, cW, cT, cQ) (nI m) := by
  have hb := P.2.2.2.1 m hm
  have he := P.2.2.2.2 m hm
  refine ⟨vp_in_nI hm (by omega), ?_⟩
  rw [fx_vec h.2.2.2 hm]
  refine fx_st_b P h hm he (fun K hK hT => ⟨vp_in_nI hm (by omega), ?_⟩)
  rw [fx_vec h.2.2.1 hm]
  refine fx_meet hK hb (nm_e ⟨_, fx_s2_go P h hm hK hT hp 33 0 1 _ rfl (by omega) ?_ (fun j s hj => absurd hj (Nat.not_lt_zero _)) ⟨0, by omega, pk_us⟩⟩)
  exact fm_G_new (n := 0) ⟨fun i j hi => absurd hi (Nat.not_lt_zero _), fun i hi => absurd hi (Nat.not_lt_zero _)⟩ hb fa_R_b (fun i hi => absurd hi (Nat.not_lt_zero _))
theorem fx_found {post : Int32 → SX → Prop} (P : fx_P a a' b e) (h : fx_S a a' b e aO aB aS aE) (hm : m < 2) {g : Nat} (hg : g < 4) (hp : fx_ans a a' b e (nI (ff_N a b e m)) post) : wpX_sizeFoundBy post (aO, aB, aS, aE, cC, cF, cS, cA, cG, cL, cM, cN, cP, cW, cT, cQ) (nI g) (nI m) := by
  refine br_f (nI_pos (by omega)) (pk_lt 2 g (fun _ => ?_) (fun q => pk_eq g 0 (fun q0 => ?_) (fun q0 => pk_eq g 1 (fun q1 => ?_) (fun q1 => pk_eq g 2 (fun q2 => ?_) (fun q2 => trivial)))))
  · exact fx_size3 P h hm hp
  · exact fx_size0 P h hm hp
  · exact fx_size1 P h hm hp
  · exact fx_size2 P h hm hp
theorem fx_agree {post : Int32 → SX → Prop} (P : fx_P a a' b e) (h : fx_S a a' b e aO aB aS aE) {g g' : Nat} (hg : g < 4) (hg' : g' < 4) (hp : fx_ans a a' b e 1 post) : ∃ n, wX_agree_20 post (nI g) (nI g') n 0 aO aB aS aE cC cF cS cA cG cL cM cN cP cW cT cQ := by
  refine ⟨3, pk_le 2 0 (fun q => absurd q (by omega)) (fun _ => ?_)⟩
  refine fx_found (m := 0) P h (by omega) hg (fun aO aB aS aE cC cF cS cA cG cL cM cN cP cW cT cQ h1 => ?_)
  refine fx_found (m := 0) P h1 (by omega) hg' (fun aO aB aS aE cC cF cS cA cG cL cM cN cP cW cT cQ h2 => ?_)
  refine br_t rfl (nm_r (e' := nI 1) (by decide) (pk_le 2 1 (fun q => absurd q (by omega)) (fun _ => ?_)))
  refine fx_found P h2 (by omega) hg (fun aO aB aS aE cC cF cS cA cG cL cM cN cP cW cT cQ h3 => ?_)
  refine fx_found P h3 (by omega) hg' (fun aO aB aS aE cC cF cS cA cG cL cM cN cP cW cT cQ h4 => ?_)
  refine br_t rfl (nm_r (e' := nI 2) (by decide) (pk_le 2 2 (fun _ => ?_) (fun q => absurd q (by omega))))
  exact hp _ _ _ _ _ _ _ _ _ _ _ _ _ _ _ _ h4
end
