/-! the relation, and the owed statements -/
def i_Rel (k : Nat) (u : SX) (v : SY) : Prop := ∃ a a' b e : Nat → Nat, fx_P a a' b e ∧ fx_S a a' b e u.1 u.2.1 u.2.2.1 u.2.2.2.1 ∧ fy_S a b e v.1 v.2.1 v.2.2.1
theorem i_up {k : Nat} {u : SX} {v : SY} (h : i_Rel k u v) : i_Rel (k + 5) u v := h
theorem fz_0 (S : Nat) : ∀ n, fb_uo (fun _ => 0) S n = 0 := by
  intro n
  induction n with
  | zero => rfl
  | succ n ih =>
    show (if S.testBit n = true then fb_uo (fun _ => 0) S n ||| 0 else fb_uo (fun _ => 0) S n) = 0
    rw [ih]
    split <;> rfl
theorem fz_st (m S l : Nat) (hl : l < 2) : ff_st (fun _ => 0) m S l = 0 := by
  rw [ff_st_u _ m S hl]
  exact fz_0 S 5
theorem fz_T0 : fk_T (fun _ => 0) (fun _ => 0) := by
  intro m S l _ _ hl
  rw [fz_st m S l hl]
  exact nI_0.symm
theorem fz_V0 : fk_V (fun _ => 0) (fun _ => 0) := fun _ _ => nI_0.symm
theorem fz_P0 : fx_P (fun _ => 0) (fun _ => 0) (fun _ => 0) (fun _ => 0) := by
  have z : (0 : Nat) < 32 := by decide
  refine ⟨fun _ _ => z, fun _ _ => z, fun m l _ _ s t _ _ => ?_, fun _ _ => z, fun _ _ => z⟩
  show (0 : Nat).testBit t = true ↔ (0 : Nat).testBit s = true
  rw [Nat.zero_testBit, Nat.zero_testBit]
theorem i_vc0 : wpX_init (fun u => wpY_init (fun v => i_Rel 0 u v)) :=
  ⟨fun _ => 0, fun _ => 0, fun _ => 0, fun _ => 0, fz_P0, ⟨fz_T0, fz_T0, fz_V0, fz_V0⟩, ⟨fun _ _ => nI_0.symm, fz_V0, fz_V0⟩⟩
section
variable {a a' b e : Nat → Nat} {aO aB aS aE cC cF cS cA cG cL cM cN cP cW cT cQ : Nat → Int32} {yA yB yF yO yS yP : Nat → Int32} {yW : Nat → Int64}
theorem fz_r {k : Nat} (P : fx_P a a' b e) (h : fx_S a a' b e aO aB aS aE) (g : fy_S a b e yA yB yF) : i_Rel k (aO, aB, aS, aE, cC, cF, cS, cA, cG, cL, cM, cN, cP, cW, cT, cQ) (yA, yB, yF, yO, yS, yW, yP) := ⟨a, a', b, e, P, h, g⟩
theorem fz_fl {k m s l t : Nat} (P : fx_P a a' b e) (h : fx_S a a' b e aO aB aS aE) (g : fy_S a b e yA yB yF) (hs : s < 5) (hl : l < 2) (ht : t < 5) {aO' aB' yA' : Nat → Int32} (hO : fk_T aO' (fk_fl a (10 * m + 2 * s + l) t)) (hB : fk_T aB' (fk_fl a' (10 * m + 2 * t + l) s)) (hA : fk_A yA' (fk_fl a (10 * m + 2 * s + l) t)) : i_Rel k (aO', aB', aS, aE, cC, cF, cS, cA, cG, cL, cM, cN, cP, cW, cT, cQ) (yA', yB, yF, yO, yS, yW, yP) :=
  ⟨_, _, b, e, fx_flip_P P hs hl ht, ⟨hO, hB, h.2.2.1, h.2.2.2⟩, ⟨hA, g.2.1, g.2.2⟩⟩
end
theorem i_vc_arrow {k : Nat} {u : SX} {v : SY} (I : i_Rel k u v) (hk : k + 5 ≤ 2560) (v1 : Int32) (v2 : Int32) (v3 : Int32) (v4 : Int32) : wpX_arrow (fun r u' => wpY_arrow (fun r' v' => r' = r ∧ i_Rel (k + 5) u' v') v v1 v2 v3 v4) u v1 v2 v3 v4 := by
  obtain ⟨aO, aB, aS, aE, cC, cF, cS, cA, cG, cL, cM, cN, cP, cW, cT, cQ⟩ := u
  obtain ⟨yA, yB, yF, yO, yS, yW, yP⟩ := v
  obtain ⟨a, a', b, e, P, h, g⟩ := I
  dsimp only at h g
  unfold wpX_arrow
  dsimp only
  rcases fx_four_x v1 v2 v3 v4 with bad | ⟨m, s, l, t, hm, hs, hl, ht, rfl, rfl, rfl, rfl⟩
  · refine fx_range_f bad (br_t rfl ?_)
    unfold wpY_arrow
    dsimp only
    exact fy_fits_f bad (br_t rfl ⟨rfl, fz_r P h g⟩)
  · refine fx_range_t hm hs hl ht (br_f fx_n1 (fx_hasArrow P h hm hs hl ht (fx_tv_c (fun q => ?_) (fun q => fx_flip P h hm hs hl ht (fun aO' aB' hO hB => ?_)))))
    · exact fy_arrow P g hm hs hl ht (fun _ => ⟨rfl, fz_r P h g⟩) (fun q' => absurd q q')
    · exact fy_arrow P g hm hs hl ht (fun q' => absurd q' q) (fun _ yA' hA => ⟨rfl, fz_fl P h g hs hl ht hO hB hA⟩)
theorem i_vc_cut {k : Nat} {u : SX} {v : SY} (I : i_Rel k u v) (hk : k + 5 ≤ 2560) (v1 : Int32) (v2 : Int32) (v3 : Int32) (v4 : Int32) : wpX_cut (fun r u' => wpY_cut (fun r' v' => r' = r ∧ i_Rel (k + 5) u' v') v v1 v2 v3 v4) u v1 v2 v3 v4 := by
  obtain ⟨aO, aB, aS, aE, cC, cF, cS, cA, cG, cL, cM, cN, cP, cW, cT, cQ⟩ := u
  obtain ⟨yA, yB, yF, yO, yS, yW, yP⟩ := v
  obtain ⟨a, a', b, e, P, h, g⟩ := I
  dsimp only at h g
  unfold wpX_cut
  dsimp only
  rcases fx_four_x v1 v2 v3 v4 with bad | ⟨m, s, l, t, hm, hs, hl, ht, rfl, rfl, rfl, rfl⟩
  · refine fx_range_f bad (br_t rfl ?_)
    unfold wpY_cut
    dsimp only
    exact fy_fits_f bad (br_t rfl ⟨rfl, fz_r P h g⟩)
  · refine fx_range_t hm hs hl ht (br_f fx_n1 (fx_hasArrow P h hm hs hl ht (fx_tv_c (fun q => fx_flip P h hm hs hl ht (fun aO' aB' hO hB => ?_)) (fun q => ?_))))
    · exact fy_cut P g hm hs hl ht (fun q' => absurd q q') (fun _ yA' hA => ⟨rfl, fz_fl P h g hs hl ht hO hB hA⟩)
    · exact fy_cut P g hm hs hl ht (fun _ => ⟨rfl, fz_r P h g⟩) (fun q' => absurd q' q)
def fd_up' (b : Nat → Nat) (m v : Nat) : Nat → Nat := fun j => if j = m then v else b j
theorem fz_up {t : Nat → Int32} {b : Nat → Nat} {m v : Nat} (h : fk_V t b) : fk_V (upd t m (nI v)) (fd_up' b m v) := by
  intro j hj
  unfold fd_up'
  by_cases q : j = m
  · subst q; rw [pk_us, if_pos rfl]
  · rw [pk_un q, if_neg q]; exact h j hj
theorem fz_upok {b : Nat → Nat} {m v : Nat} (h : fk_ok b) (hv : v < 32) : fk_ok (fd_up' b m v) := by
  intro j hj
  unfold fd_up'
  split
  · exact hv
  · exact h j hj
theorem i_vc_ends {k : Nat} {u : SX} {v : SY} (I : i_Rel k u v) (hk : k + 5 ≤ 2560) (v1 : Int32) (v2 : Int32) (v3 : Int32) : wpX_ends (fun r u' => wpY_ends (fun r' v' => r' = r ∧ i_Rel (k + 5) u' v') v v1 v2 v3) u v1 v2 v3 := by
  obtain ⟨aO, aB, aS, aE, cC, cF, cS, cA, cG, cL, cM, cN, cP, cW, cT, cQ⟩ := u
  obtain ⟨yA, yB, yF, yO, yS, yW, yP⟩ := v
  obtain ⟨a, a', b, e, P, h, g⟩ := I
  dsimp only at h g
  unfold wpX_ends wpY_ends
  dsimp only
  rcases fx_ix3 v1 (n := 2) (by omega) with bad | ⟨m, hm, rfl⟩
  · exact fx_bel_f (n := 2) bad (fy_machine_f bad (br_t rfl ⟨rfl, fz_r P h g⟩))
  refine fx_bel_t 2 hm (by omega) ?_
  rcases fx_ix3 v2 (n := 32) (by omega) with bad | ⟨x, hx, rfl⟩
  · refine fx_bel_f (n := 32) bad (fy_machine_t hm (br_f fx_n1 ?_))
    rcases bad with q | q
    · exact br_t q ⟨rfl, fz_r P h g⟩
    · by_cases q0 : v2 < 0
      · exact br_t q0 ⟨rfl, fz_r P h g⟩
      · exact br_f q0 (br_t (Int32.lt_of_lt_of_le (by decide : (31 : Int32) < nI 32) q) ⟨rfl, fz_r P h g⟩)
  refine fx_bel_t 32 hx (by omega) ?_
  rcases fx_ix3 v3 (n := 32) (by omega) with bad | ⟨y, hy, rfl⟩
  · refine fx_bel_f (n := 32) bad (fy_machine_t hm (br_f fx_n1 (br_f (nI_pos (by omega)) (pk_lt 31 x (fun q => absurd q (by omega)) (fun _ => ?_)))))
    rcases bad with q | q
    · exact br_t q ⟨rfl, fz_r P h g⟩
    · by_cases q0 : v3 < 0
      · exact br_t q0 ⟨rfl, fz_r P h g⟩
      · exact br_f q0 (br_f (fun w => Int32.not_le.mpr (Int32.lt_of_lt_of_le (by decide : (31 : Int32) < nI 32) q) w) ⟨rfl, fz_r P h g⟩)
  have hin : vp_in (nI m) 2 := vp_in_nI hm (by omega)
  refine fx_bel_t 32 hy (by omega) ⟨hin, nm_r (fx_put (by omega) rfl) ⟨hin, nm_r (fx_put (by omega) rfl) ?_⟩⟩
  refine fy_machine_t hm (br_f fx_n1 (br_f (nI_pos (by omega)) (pk_lt 31 x (fun q => absurd q (by omega)) (fun _ => br_f (nI_pos (by omega)) (pk_le y 31 (fun _ => ⟨hin, nm_r (fx_put (by omega) rfl) ⟨hin, nm_r (fx_put (by omega) rfl) ⟨rfl, ?_⟩⟩⟩) (fun q => absurd q (by omega)))))))
  exact fz_r (a := a) (a' := a') (b := fd_up' b m x) (e := fd_up' e m y) ⟨P.1, P.2.1, P.2.2.1, fz_upok P.2.2.2.1 hx, fz_upok P.2.2.2.2 hy⟩ ⟨h.1, h.2.1, fz_up h.2.2.1, fz_up h.2.2.2⟩ ⟨g.1, fz_up g.2.1, fz_up g.2.2⟩
theorem i_vc_turn {k : Nat} {u : SX} {v : SY} (I : i_Rel k u v) (hk : k + 5 ≤ 2560) (v1 : Int32) : wpX_turn (fun r u' => wpY_turn (fun r' v' => r' = r ∧ i_Rel (k + 5) u' v') v v1) u v1 := by
  obtain ⟨aO, aB, aS, aE, cC, cF, cS, cA, cG, cL, cM, cN, cP, cW, cT, cQ⟩ := u
  obtain ⟨yA, yB, yF, yO, yS, yW, yP⟩ := v
  obtain ⟨a, a', b, e, P, h, g⟩ := I
  dsimp only at h g
  rcases fx_ix3 v1 (n := 2) (by omega) with bad | ⟨m, hm, rfl⟩
  · unfold wpX_turn wpY_turn
    dsimp only
    exact fx_bel_f (n := 2) bad (fy_machine_f bad (br_t rfl ⟨rfl, fz_r P h g⟩))
  · exact fx_turn h hm (fun aO' aB' aS' aE' h' => fy_turn P g hm (fun yA' yB' yF' g' => ⟨rfl, fz_r (fx_turn_P P m) h' g'⟩))
