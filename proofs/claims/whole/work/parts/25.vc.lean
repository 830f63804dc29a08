/-! the owed statements, the questions -/
theorem i_vc_accepts {k : Nat} {u : SX} {v : SY} (I : i_Rel k u v) (hk : k + 5 ≤ 2560) (v1 : Int32) (v2 : Int32) : wpX_accepts (fun r => wpY_accepts (fun r' => r' = r ∧ i_Rel (k + 5) u v) v v1 v2) u v1 v2 := by
  obtain ⟨aO, aB, aS, aE, cC, cF, cS, cA, cG, cL, cM, cN, cP, cW, cT, cQ⟩ := u
  obtain ⟨yA, yB, yF, yO, yS, yW, yP⟩ := v
  have I' := i_up I
  obtain ⟨a, a', b, e, P, h, g⟩ := I
  dsimp only at h g
  unfold wpX_accepts wpY_accepts
  dsimp only
  rcases fx_ix3 v1 (n := 2) (by omega) with bad | ⟨m, hm, rfl⟩
  · exact fx_bel_f (n := 2) bad (fy_machine_f bad (br_t rfl ⟨rfl, I'⟩))
  refine fx_bel_t 2 hm (by omega) ?_
  rcases fx_wordx v2 with bad | ⟨w, h1, h2, rfl⟩
  · exact fx_isWord_f bad (br_t rfl (fy_machine_t hm (br_f fx_n1 (fy_isWord_f bad (br_t rfl ⟨rfl, I'⟩)))))
  refine fx_isWord_t h1 h2 (br_f fx_n1 (fx_acceptsWord P h hm h1 (by omega) (fx_tv_n (fx_tv_m (fun q => ?_) (fun q => ?_)))))
  · exact fy_machine_t hm (br_f fx_n1 (fy_isWord_t h1 h2 (br_f fx_n1 (fy_rw P g hm h1 (by omega) (fx_tv_c (fun _ => ⟨rfl, I'⟩) (fun q' => absurd q q'))))))
  · exact fy_machine_t hm (br_f fx_n1 (fy_isWord_t h1 h2 (br_f fx_n1 (fy_rw P g hm h1 (by omega) (fx_tv_c (fun q' => absurd q' q) (fun _ => ⟨rfl, I'⟩))))))
theorem i_vc_after {k : Nat} {u : SX} {v : SY} (I : i_Rel k u v) (hk : k + 5 ≤ 2560) (v1 : Int32) (v2 : Int32) : wpX_after (fun r => wpY_after (fun r' => r' = r ∧ i_Rel (k + 5) u v) v v1 v2) u v1 v2 := by
  obtain ⟨aO, aB, aS, aE, cC, cF, cS, cA, cG, cL, cM, cN, cP, cW, cT, cQ⟩ := u
  obtain ⟨yA, yB, yF, yO, yS, yW, yP⟩ := v
  have I' := i_up I
  obtain ⟨a, a', b, e, P, h, g⟩ := I
  dsimp only at h g
  unfold wpX_after wpY_after
  dsimp only
  rcases fx_ix3 v1 (n := 2) (by omega) with bad | ⟨m, hm, rfl⟩
  · exact fx_bel_f (n := 2) bad (fy_machine_f bad (br_t rfl ⟨rfl, I'⟩))
  refine fx_bel_t 2 hm (by omega) ?_
  rcases fx_wordx v2 with bad | ⟨w, h1, h2, rfl⟩
  · exact fx_isWord_f bad (br_t rfl (fy_machine_t hm (br_f fx_n1 (fy_isWord_f bad (br_t rfl ⟨rfl, I'⟩)))))
  exact fx_isWord_t h1 h2 (br_f fx_n1 (fx_statesAfter P h hm h1 (by omega) (fy_machine_t hm (br_f fx_n1 (fy_isWord_t h1 h2 (br_f fx_n1 (fy_reached P g hm h1 (by omega) ⟨rfl, I'⟩)))))))
theorem i_vc_size {k : Nat} {u : SX} {v : SY} (I : i_Rel k u v) (hk : k + 5 ≤ 2560) (v1 : Int32) (v2 : Int32) : wpX_size (fun r u' => wpY_size (fun r' v' => r' = r ∧ i_Rel (k + 5) u' v') v v1 v2) u v1 v2 := by
  obtain ⟨aO, aB, aS, aE, cC, cF, cS, cA, cG, cL, cM, cN, cP, cW, cT, cQ⟩ := u
  obtain ⟨yA, yB, yF, yO, yS, yW, yP⟩ := v
  obtain ⟨a, a', b, e, P, h, g⟩ := I
  dsimp only at h g
  unfold wpX_size
  dsimp only
  rcases fx_ix3 v1 (n := 4) (by omega) with bad | ⟨n, hn, rfl⟩
  · unfold wpY_size
    dsimp only
    exact fx_bel_f (n := 4) bad (fy_engine_f 3 (by omega) bad (br_t rfl ⟨rfl, fz_r P h g⟩))
  refine fx_bel_t 4 hn (by omega) ?_
  rcases fx_ix3 v2 (n := 2) (by omega) with bad | ⟨m, hm, rfl⟩
  · unfold wpY_size
    dsimp only
    exact fx_bel_f (n := 2) bad (fy_engine_t 3 (by omega) (by omega) (br_f fx_n1 (fy_machine_f bad (br_t rfl ⟨rfl, fz_r P h g⟩))))
  exact fx_bel_t 2 hm (by omega) (fx_found P h hm hn (fun _ _ _ _ _ _ _ _ _ _ _ _ _ _ _ _ h' => fy_size P g hm hn (fun _ _ _ _ _ _ _ g' => ⟨rfl, fz_r P h' g'⟩)))
theorem i_vc_agree {k : Nat} {u : SX} {v : SY} (I : i_Rel k u v) (hk : k + 5 ≤ 2560) (v1 : Int32) (v2 : Int32) : wpX_agree (fun r u' => wpY_agree (fun r' => r' = r ∧ i_Rel (k + 5) u' v) v v1 v2) u v1 v2 := by
  obtain ⟨aO, aB, aS, aE, cC, cF, cS, cA, cG, cL, cM, cN, cP, cW, cT, cQ⟩ := u
  obtain ⟨yA, yB, yF, yO, yS, yW, yP⟩ := v
  obtain ⟨a, a', b, e, P, h, g⟩ := I
  dsimp only at h g
  unfold wpX_agree wpY_agree
  dsimp only
  rcases fx_ix3 v1 (n := 4) (by omega) with bad | ⟨n, hn, rfl⟩
  · exact fx_bel_f (n := 4) bad (fy_engine_f 3 (by omega) bad (br_t rfl ⟨rfl, fz_r P h g⟩))
  refine fx_bel_t 4 hn (by omega) ?_
  rcases fx_ix3 v2 (n := 4) (by omega) with bad | ⟨n', hn', rfl⟩
  · exact fx_bel_f (n := 4) bad (fy_engine_t 3 (by omega) (by omega) (br_f fx_n1 (fy_engine_f 3 (by omega) bad (br_t rfl ⟨rfl, fz_r P h g⟩))))
  exact fx_bel_t 4 hn' (by omega) (fx_agree P h hn hn' (fun _ _ _ _ _ _ _ _ _ _ _ _ _ _ _ _ h' => fy_engine_t 3 (by omega) (by omega) (br_f fx_n1 (fy_engine_t 3 (by omega) (by omega) (br_f fx_n1 ⟨rfl, fz_r P h' g⟩)))))
theorem i_vc_equal {k : Nat} {u : SX} {v : SY} (I : i_Rel k u v) (hk : k + 5 ≤ 2560) (v1 : Int32) : wpX_equal (fun r u' => wpY_equal (fun r' v' => r' = r ∧ i_Rel (k + 5) u' v') v v1) u v1 := by
  obtain ⟨aO, aB, aS, aE, cC, cF, cS, cA, cG, cL, cM, cN, cP, cW, cT, cQ⟩ := u
  obtain ⟨yA, yB, yF, yO, yS, yW, yP⟩ := v
  obtain ⟨a, a', b, e, P, h, g⟩ := I
  dsimp only at h g
  have hb0 := P.2.2.2.1 0 (by omega)
  have hb1 := P.2.2.2.1 1 (by omega)
  rcases fx_ix3 v1 (n := 3) (by omega) with bad | ⟨n, hn, rfl⟩
  · unfold wpX_equal wpY_equal
    dsimp only
    exact fx_bel_f (n := 3) bad (fy_engine_f 2 (by omega) bad (br_t rfl ⟨rfl, fz_r P h g⟩))
  · unfold wpY_equal
    dsimp only
    refine fx_equal P h hn (fun q _ _ _ _ _ _ _ _ _ _ _ _ _ _ _ _ h' => ?_) (fun q _ _ _ _ _ _ _ _ _ _ _ _ _ _ _ _ h' => ?_)
    · refine fy_engine_t 2 (by omega) (by omega) (br_f fx_n1 (fy_search (k := 2) P g (by omega) (fun F j hF hj hs _ => ?_) (fun _ yO' yS' yW' => br_f (by decide) ⟨rfl, fz_r P h' g⟩)))
      exact absurd ⟨F, j, hF, hj, hs⟩ ((fi_C_2 P.1 hb0 hb1).mpr q)
    · refine fy_engine_t 2 (by omega) (by omega) (br_f fx_n1 (fy_search (k := 2) P g (by omega) (fun F j hF hj hs _ yO' yS' yW' _ => br_t (nI_pos' (by have := hF.1; omega)) ⟨rfl, fz_r P h' g⟩) (fun hn => ?_)))
      exact absurd ((fi_C_2 P.1 hb0 hb1).mp hn) q
theorem i_vc_covers {k : Nat} {u : SX} {v : SY} (I : i_Rel k u v) (hk : k + 5 ≤ 2560) (v1 : Int32) : wpX_covers (fun r u' => wpY_covers (fun r' v' => r' = r ∧ i_Rel (k + 5) u' v') v v1) u v1 := by
  obtain ⟨aO, aB, aS, aE, cC, cF, cS, cA, cG, cL, cM, cN, cP, cW, cT, cQ⟩ := u
  obtain ⟨yA, yB, yF, yO, yS, yW, yP⟩ := v
  obtain ⟨a, a', b, e, P, h, g⟩ := I
  dsimp only at h g
  rcases fx_ix3 v1 (n := 2) (by omega) with bad | ⟨m, hm, rfl⟩
  · unfold wpX_covers wpY_covers
    dsimp only
    exact fx_bel_f (n := 2) bad (fy_machine_f bad (br_t rfl ⟨rfl, fz_r P h g⟩))
  · unfold wpY_covers
    dsimp only
    refine fx_covers P h hm (fun q _ _ _ _ _ _ _ _ _ _ _ _ _ _ _ _ h' => ?_) (fun q _ _ _ _ _ _ _ _ _ _ _ _ _ _ _ _ h' => ?_)
    · refine fy_machine_t hm (br_f fx_n1 (fy_search P g (by omega) (fun F j hF hj hs _ => ?_) (fun _ yO' yS' yW' => br_f (by decide) ⟨rfl, fz_r P h' g⟩)))
      exact absurd ⟨F, j, hF, hj, hs⟩ q
    · refine fy_machine_t hm (br_f fx_n1 (fy_search P g (by omega) (fun F j hF hj hs _ yO' yS' yW' _ => br_t (nI_pos' (by have := hF.1; omega)) ⟨rfl, fz_r P h' g⟩) (fun hn => ?_)))
      exact absurd q hn
theorem i_vc_count {k : Nat} {u : SX} {v : SY} (I : i_Rel k u v) (hk : k + 5 ≤ 2560) (v1 : Int32) (v2 : Int32) : wpX_count (fun r => wpY_count (fun r' => r' = r ∧ i_Rel (k + 5) u v) v v1 v2) u v1 v2 := by
  obtain ⟨aO, aB, aS, aE, cC, cF, cS, cA, cG, cL, cM, cN, cP, cW, cT, cQ⟩ := u
  obtain ⟨yA, yB, yF, yO, yS, yW, yP⟩ := v
  have I' := i_up I
  obtain ⟨a, a', b, e, P, h, g⟩ := I
  dsimp only at h g
  unfold wpX_count wpY_count
  dsimp only
  rcases fx_ix3 v1 (n := 2) (by omega) with bad | ⟨m, hm, rfl⟩
  · exact fx_bel_f (n := 2) bad (fy_machine_f bad (br_t rfl ⟨rfl, I'⟩))
  refine fx_bel_t 2 hm (by omega) ?_
  rcases fx_ix3 v2 (n := 13) (by omega) with bad | ⟨n, hn, rfl⟩
  · refine fx_bel_f (n := 13) bad (fy_machine_t hm (br_f fx_n1 ?_))
    rcases bad with q | q
    · exact br_t q ⟨rfl, I'⟩
    · by_cases q0 : v2 < 0
      · exact br_t q0 ⟨rfl, I'⟩
      · exact br_f q0 (br_f (fun w => Int32.not_le.mpr (Int32.lt_of_lt_of_le (by decide : (12 : Int32) < nI 13) q) w) ⟨rfl, I'⟩)
  have hp2 : 2 ^ n ≤ 2 ^ 12 := Nat.pow_le_pow_right (by omega) (by omega)
  have hp1 : 1 ≤ 2 ^ n := Nat.two_pow_pos n
  have e2 : (2 : Int32) <<< (nI n &&& 31) = nI (2 * 2 ^ n) := pk_shlN (n := 2) (nI n &&& 31) n (s_l n (by omega)) (by omega)
  refine fx_bel_t 13 hn (by omega) ?_
  rw [fj_one (by omega), e2]
  refine fx_between P h hm (by omega) hp1 (by omega) ?_
  refine fy_machine_t hm (br_f fx_n1 (br_f (nI_pos (by omega)) (pk_le n 12 (fun _ => nm_e ⟨2 ^ n + 1, ?_⟩) (fun q => absurd q (by omega)))))
  refine fy_count_go P g hm (by omega) (2 ^ n) (2 ^ n) 0 hp1 (by omega) ?_
  rw [Nat.zero_add, show 2 * 2 ^ n - 2 ^ n = 2 ^ n by omega]
  exact ⟨rfl, I'⟩
theorem fz_least {a a' b e : Nat → Nat} {m : Nat} (P : fx_P a a' b e) (hm : m < 2) (hn : ∀ w, 1 ≤ w → w < 32 → ¬ fx_acc a b e m w) : ∀ w, 1 ≤ w → w < 64 → ¬ fx_acc a b e m w := by
  intro w h1 h2
  by_cases q : w < 32
  · exact hn w h1 q
  · exact fb_short (ff_B P.1 hm (by omega)) (ff_B P.1 hm (by omega)) (P.2.2.2.1 m hm) hn w (by omega) h2
theorem i_vc_least {k : Nat} {u : SX} {v : SY} (I : i_Rel k u v) (hk : k + 5 ≤ 2560) (v1 : Int32) : wpX_least (fun r => wpY_least (fun r' => r' = r ∧ i_Rel (k + 5) u v) v v1) u v1 := by
  obtain ⟨aO, aB, aS, aE, cC, cF, cS, cA, cG, cL, cM, cN, cP, cW, cT, cQ⟩ := u
  obtain ⟨yA, yB, yF, yO, yS, yW, yP⟩ := v
  have I' := i_up I
  obtain ⟨a, a', b, e, P, h, g⟩ := I
  dsimp only at h g
  unfold wpX_least wpY_least
  dsimp only
  rcases fx_ix3 v1 (n := 2) (by omega) with bad | ⟨m, hm, rfl⟩
  · exact fx_bel_f (n := 2) bad (fy_machine_f bad (br_t rfl ⟨rfl, I'⟩))
  refine fx_bel_t 2 hm (by omega) ⟨32, fx_least_go P h hm (fun w h1 h2 hacc hno => ?_) (fun hno => ?_) 31 1 rfl (Nat.le_refl _) (fun v hv1 hv => by omega)⟩
  · refine fy_machine_t hm (br_f fx_n1 ⟨64, fy_least_go P g hm (fun w' g1 g2 gacc gno => ⟨?_, I'⟩) (fun gno => absurd hacc (gno w h1 (by omega))) 63 1 rfl (Nat.le_refl _) (fun v hv1 hv => by omega)⟩)
    rcases Nat.lt_trichotomy w w' with q | q | q
    · exact absurd hacc (gno w h1 q)
    · rw [q]
    · exact absurd gacc (hno w' g1 q)
  · exact fy_machine_t hm (br_f fx_n1 ⟨64, fy_least_go P g hm (fun w' g1 g2 gacc gno => absurd gacc (fz_least P hm hno w' g1 g2)) (fun gno => ⟨rfl, I'⟩) 63 1 rfl (Nat.le_refl _) (fun v hv1 hv => by omega)⟩)
theorem i_vc_difference {k : Nat} {u : SX} {v : SY} (I : i_Rel k u v) (hk : k + 5 ≤ 2560) : wpX_difference (fun r u' => wpY_difference (fun r' v' => r' = r ∧ i_Rel (k + 5) u' v') v) u := by
  obtain ⟨aO, aB, aS, aE, cC, cF, cS, cA, cG, cL, cM, cN, cP, cW, cT, cQ⟩ := u
  obtain ⟨yA, yB, yF, yO, yS, yW, yP⟩ := v
  obtain ⟨a, a', b, e, P, h, g⟩ := I
  dsimp only at h g
  have hb0 := P.2.2.2.1 0 (by omega)
  have hb1 := P.2.2.2.1 1 (by omega)
  unfold wpY_difference
  dsimp only
  refine fx_diff P h (fun r hr _ _ _ _ _ _ _ _ _ _ _ _ _ _ _ _ h' => ?_)
  refine fy_search (k := 2) P g (by omega) (fun F j hF hj hs hn yO' yS' yW' hy => ?_) (fun hn yO' yS' yW' => br_f (by decide) ⟨?_, fz_r P h' g⟩)
  · obtain ⟨y, ey, hw⟩ := hy
    have hF1 := hF.1
    have J0 := fd_J_bf (fx_q_lt P) (fi_s_lt P.1) F hF.2.2
    have hj' : j < (fd_bf (fi_s a) (fi_q b) F).1 := by rw [hF.2.1]; exact hj
    obtain ⟨w1, w2, _⟩ := J0.2.2.2.1 j hj'
    have hne : (fd_bf (fi_s a) (fi_q b) F).2.2.1 j ≠ 2 ^ 30 := by
      intro z
      exact hs (fi_30 P.1 hb0 hb1 J0 hj' z (fun i hi => Classical.byContradiction fun w => hn i hi w))
    have hd := fk_w_d hw w1 w2 hne
    have hylt := hw.2.2
    have hin : vp_in (nI j) 1024 := vp_in_nI (by omega) (by omega)
    dsimp only
    refine br_t (nI_pos' (by omega)) ⟨hin, ?_⟩
    rw [nI_clamp (by omega), ey]
    refine br_c (fun z => ⟨hin, ?_⟩) (fun z => ⟨?_, fz_r P h' g⟩)
    · have z' : y ≤ 1073741824 := (pk_lLE (a := y) (b := 1073741824) (by omega) (by omega)).mp z
      have hL : (fd_bf (fi_s a) (fi_q b) F).2.2.2 j ≤ 29 := by
        apply Classical.byContradiction
        intro w
        have := hd.2 (by omega)
        omega
      refine ⟨?_, fz_r P h' g⟩
      rw [lN_i, (hd.1 hL).1]
      exact fi_D_un P.1 hb0 hb1 hr (Or.inr ⟨F, j, hF, hj, hs, hn, Or.inl ⟨hL, rfl⟩⟩)
    · have z' : 1073741824 < y := by
        apply Classical.byContradiction
        intro w
        exact z ((pk_lLE (a := y) (b := 1073741824) (by omega) (by omega)).mpr (by omega))
      have hL : 29 < (fd_bf (fi_s a) (fi_q b) F).2.2.2 j := by
        apply Classical.byContradiction
        intro w
        have := (hd.1 (by omega)).2
        omega
      exact fi_D_un P.1 hb0 hb1 hr (Or.inr ⟨F, j, hF, hj, hs, hn, Or.inr ⟨hL, rfl⟩⟩)
  · exact fi_D_un P.1 hb0 hb1 hr (Or.inl ⟨(fi_C_2 P.1 hb0 hb1).mp hn, rfl⟩)
theorem i_vc_rank {k : Nat} {u : SX} {v : SY} (I : i_Rel k u v) (hk : k + 5 ≤ 2560) (v1 : Int32) (v2 : Int32) : wpX_rank (fun r => wpY_rank (fun r' => r' = r ∧ i_Rel (k + 5) u v) v v1 v2) u v1 v2 := by
  obtain ⟨aO, aB, aS, aE, cC, cF, cS, cA, cG, cL, cM, cN, cP, cW, cT, cQ⟩ := u
  obtain ⟨yA, yB, yF, yO, yS, yW, yP⟩ := v
  have I' := i_up I
  obtain ⟨a, a', b, e, P, h, g⟩ := I
  dsimp only at h g
  unfold wpX_rank wpY_rank
  dsimp only
  rcases fx_ix3 v1 (n := 2) (by omega) with bad | ⟨m, hm, rfl⟩
  · exact fx_bel_f (n := 2) bad (fy_machine_f bad (br_t rfl ⟨rfl, I'⟩))
  refine fx_bel_t 2 hm (by omega) ?_
  rcases fx_wordx v2 with bad | ⟨w, h1, h2, rfl⟩
  · exact fx_isWord_f bad (br_t rfl (fy_machine_t hm (br_f fx_n1 (fy_isWord_f bad (br_t rfl ⟨rfl, I'⟩)))))
  refine fx_isWord_t h1 h2 (br_f fx_n1 (fx_between (w := 1) P h hm (by omega) (Nat.le_refl _) h1 ?_))
  refine fy_machine_t hm (br_f fx_n1 (fy_isWord_t h1 h2 (br_f fx_n1 ⟨w - 1 + 1, fy_rank_go P g hm (by omega) (w - 1) 1 0 (Nat.le_refl _) (by omega) ?_⟩)))
  rw [Nat.zero_add]
  exact ⟨rfl, I'⟩
theorem i_vc_endless {k : Nat} {u : SX} {v : SY} (I : i_Rel k u v) (hk : k + 5 ≤ 2560) (v1 : Int32) : wpX_endless (fun r => wpY_endless (fun r' => r' = r ∧ i_Rel (k + 5) u v) v v1) u v1 := by
  obtain ⟨aO, aB, aS, aE, cC, cF, cS, cA, cG, cL, cM, cN, cP, cW, cT, cQ⟩ := u
  obtain ⟨yA, yB, yF, yO, yS, yW, yP⟩ := v
  have I' := i_up I
  obtain ⟨a, a', b, e, P, h, g⟩ := I
  dsimp only at h g
  unfold wpX_endless
  dsimp only
  rcases fx_ix3 v1 (n := 2) (by omega) with bad | ⟨m, hm, rfl⟩
  · exact fx_bel_f (n := 2) bad (fy_endless_f bad ⟨rfl, I'⟩)
  refine fx_bel_t 2 hm (by omega) (fx_live P h hm ⟨6, fx_endless_go P h hm (fx_tv_m (fun q => ?_) (fun q => ?_)) 5 0 rfl (fun t ht => absurd ht (Nat.not_lt_zero _))⟩)
  · exact ⟨6, fy_endless_go P g hm (fx_tv_m (fun _ => ⟨rfl, I'⟩) (fun q' => absurd q q')) 5 0 0 rfl (Or.inr ⟨rfl, fun ⟨t, ht, _⟩ => absurd ht (Nat.not_lt_zero _)⟩)⟩
  · exact ⟨6, fy_endless_go P g hm (fx_tv_m (fun q' => absurd q' q) (fun _ => ⟨rfl, I'⟩)) 5 0 0 rfl (Or.inr ⟨rfl, fun ⟨t, ht, _⟩ => absurd ht (Nat.not_lt_zero _)⟩)⟩
theorem i_vc_live {k : Nat} {u : SX} {v : SY} (I : i_Rel k u v) (hk : k + 5 ≤ 2560) (v1 : Int32) : wpX_live (fun r => wpY_live (fun r' => r' = r ∧ i_Rel (k + 5) u v) v v1) u v1 := by
  obtain ⟨aO, aB, aS, aE, cC, cF, cS, cA, cG, cL, cM, cN, cP, cW, cT, cQ⟩ := u
  obtain ⟨yA, yB, yF, yO, yS, yW, yP⟩ := v
  have I' := i_up I
  obtain ⟨a, a', b, e, P, h, g⟩ := I
  dsimp only at h g
  unfold wpX_live
  dsimp only
  rcases fx_ix3 v1 (n := 2) (by omega) with bad | ⟨m, hm, rfl⟩
  · unfold wpY_live
    dsimp only
    exact fx_bel_f (n := 2) bad (fy_machine_f bad (br_t rfl ⟨rfl, I'⟩))
  exact fx_bel_t 2 hm (by omega) (fx_live P h hm (fy_live P g hm ⟨rfl, I'⟩))
