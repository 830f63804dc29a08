/-! Y: the search over pairs -/
def fy_ps (yO yS : Nat → Int32) (yW : Nat → Int64) (s : fd_S) : Prop :=
  (∀ j, j < s.1 → yO j = nI (s.2.1 j) ∧ ∃ y, yW j = lN y ∧ fk_w y (s.2.2.1 j) (s.2.2.2 j)) ∧ (∀ q, q < 1024 → (yS q ≠ 0 ↔ fd_in q s))
section
variable {a a' b e : Nat → Nat} {yA yB yF yO yS yP : Nat → Int32} {yW : Nat → Int64} {m s l t : Nat}
theorem fy_ps_new {s : fd_S} {q w t y : Nat} (h : fy_ps yO yS yW s) (hq : q < 1024) (hn : ¬ fd_in q s) (hw : fk_w y w t) : fy_ps (upd yO s.1 (nI q)) (upd yS q 1) (vp_updL yW s.1 (lN y)) (fd_nt q w t s) := by
  refine ⟨fun j hj => ?_, fun x hx => ?_⟩
  · rw [fd_nt_f hn] at hj ⊢
    have hj' : j < s.1 + 1 := hj
    show upd yO s.1 (nI q) j = nI (fd_up s.2.1 s.1 q j) ∧ ∃ y', vp_updL yW s.1 (lN y) j = lN y' ∧ fk_w y' (fd_up s.2.2.1 s.1 w j) (fd_up s.2.2.2 s.1 t j)
    by_cases g : j = s.1
    · rw [g, pk_us, pk_uLs, fd_up_s, fd_up_s, fd_up_s]; exact ⟨rfl, y, rfl, hw⟩
    · rw [pk_un g, pk_uLn g, fd_up_n (by omega), fd_up_n (by omega), fd_up_n (by omega)]
      exact h.1 j (by omega)
  · rw [fd_in_nt_iff]
    by_cases g : x = q
    · subst g; rw [pk_us]; exact ⟨fun _ => Or.inr rfl, fun _ => fx_n1⟩
    · rw [pk_un g, h.2 x hx]
      exact ⟨fun z => Or.inl z, fun z => z.elim id (fun y => absurd y g)⟩
/-- one letter of the inner loop -/
theorem fy_one {C : Int32 → (Nat → Int32) → (Nat → Int32) → (Nat → Int64) → Prop} {s : fd_S} {q0 i l : Nat} (J0 : fd_J (fi_s a) q0 s) (hi : i < s.1) (hl : l < 2) (hs : fy_ps yO yS yW s) (hst : ∀ q l, fi_s a q l < 1024)
    (hn : (fd_nt (fi_s a (s.2.1 i) l) (2 * s.2.2.1 i + l) (s.2.2.2 i + 1) s).1 ≤ 1024)
    (hC : ∀ (yO' yS' : Nat → Int32) (yW' : Nat → Int64), fy_ps yO' yS' yW' (fd_nt (fi_s a (s.2.1 i) l) (2 * s.2.2.1 i + l) (s.2.2.2 i + 1) s) → C (nI (fd_nt (fi_s a (s.2.1 i) l) (2 * s.2.2.1 i + l) (s.2.2.2 i + 1) s).1) yO' yS' yW') :
    vp_in (nI (fi_s a (s.2.1 i) l)) 1024 ∧ ((yS (nI (fi_s a (s.2.1 i) l)).toNatClampNeg = 0 → (vp_in (nI (fi_s a (s.2.1 i) l)) 1024 ∧ ∀ yS', yS' = upd yS (nI (fi_s a (s.2.1 i) l)).toNatClampNeg (vp_nar .boolean 1) → (vp_in (nI s.1) 1024 ∧ ∀ yO', yO' = upd yO (nI s.1).toNatClampNeg (nI (fi_s a (s.2.1 i) l)) →
      (vp_in (nI i) 1024 ∧ ((yW (nI i).toNatClampNeg ≤ 1099511627776 → (vp_in (nI i) 1024 ∧ (vp_in (nI s.1) 1024 ∧ ∀ yW', yW' = vp_updL yW (nI s.1).toNatClampNeg ((2 * (yW (nI i).toNatClampNeg)) + (nI l).toInt64) → ∀ x, x = nI s.1 + 1 → C x yO' yS' yW'))) ∧
        (¬ yW (nI i).toNatClampNeg ≤ 1099511627776 → (vp_in (nI i) 1024 ∧ (vp_in (nI s.1) 1024 ∧ ∀ yW', yW' = vp_updL yW (nI s.1).toNatClampNeg (yW (nI i).toNatClampNeg) → ∀ x, x = nI s.1 + 1 → C x yO' yS' yW'))))))))
      ∧ (¬ yS (nI (fi_s a (s.2.1 i) l)).toNatClampNeg = 0 → C (nI s.1) yO yS yW)) := by
  have hq := hst (s.2.1 i) l
  have hin : vp_in (nI (fi_s a (s.2.1 i) l)) 1024 := vp_in_nI hq (by omega)
  have n0 := fd_J_n J0
  have hini : vp_in (nI i) 1024 := vp_in_nI (by omega) (by omega)
  refine ⟨hin, ?_⟩
  rw [nI_clamp (n := fi_s a (s.2.1 i) l) (by omega), nI_clamp (n := s.1) (by omega), nI_clamp (n := i) (by omega)]
  refine br_c (fun z => ?_) (fun z => ?_)
  · have hno : ¬ fd_in (fi_s a (s.2.1 i) l) s := fun y => (hs.2 _ hq).mpr y z
    have hb' : s.1 + 1 ≤ 1024 := by rw [fd_nt_f hno] at hn; exact hn
    have hins : vp_in (nI s.1) 1024 := vp_in_nI (by omega) (by omega)
    have e1 : nI s.1 + 1 = nI (fd_nt (fi_s a (s.2.1 i) l) (2 * s.2.2.1 i + l) (s.2.2.2 i + 1) s).1 := by rw [fd_nt_f hno, nI_1]
    obtain ⟨y, ey, hw⟩ := (hs.1 i hi).2
    obtain ⟨w1, w2, _⟩ := J0.2.2.2.1 i hi
    have hy := hw.2.2
    rw [ey]
    refine ⟨hin, nm_r (e' := upd yS (fi_s a (s.2.1 i) l) 1) rfl ⟨hins, nm_e ⟨hini, br_c (fun g => ⟨hini, hins, ?_⟩) (fun g => ⟨hini, hins, ?_⟩)⟩⟩⟩
    · have g' : ¬ 1099511627776 < y := by
        have := (pk_lLE (a := y) (b := 1099511627776) (by omega) (by omega)).mp g
        omega
      refine nm_r (e' := vp_updL yW s.1 (lN (2 * y + l))) ?_ (nm_r e1 ?_)
      · rw [nI_l (by omega)]
        show vp_updL yW s.1 (lN 2 * lN y + lN l) = _
        rw [lN_mul, lN_add]
      · exact hC _ _ _ (fy_ps_new hs hq hno (fk_w_f hw hl w1 g'))
    · have g' : 1099511627776 < y := by
        apply Classical.byContradiction
        intro w
        exact g ((pk_lLE (a := y) (b := 1099511627776) (by omega) (by omega)).mpr (by omega))
      exact nm_e (nm_r e1 (hC _ _ _ (fy_ps_new hs hq hno (fk_w_t hw w2 g'))))
  · have hi' : fd_in (fi_s a (s.2.1 i) l) s := (hs.2 _ hq).mp z
    have key := hC yO yS yW (by rw [fd_nt_t hi']; exact hs)
    rw [fd_nt_t hi'] at key
    exact key
theorem fy_in {post : Int32 → SY → Prop} {J : Int32 → Int32 → (Nat → Int32) → (Nat → Int32) → (Nat → Int32) → (Nat → Int32) → (Nat → Int32) → (Nat → Int64) → (Nat → Int32) → Prop} (P : fx_P a a' b e) (h : fy_S a b e yA yB yF) {q0 i : Nat} {s : fd_S} (κ : Int32) (J0 : fd_J (fi_s a) q0 s) (hi : i < s.1) (hs : fy_ps yO yS yW s)
    (hJ : ∀ (yO' yS' : Nat → Int32) (yW' : Nat → Int64), fy_ps yO' yS' yW' (fd_g1 (fi_s a) (fd_g0 (fi_s a) s i) i) → J (nI (fd_g1 (fi_s a) (fd_g0 (fi_s a) s i) i).1) (nI (i + 1)) yA yB yF yO' yS' yW' yP) :
    wY_search_159 post J κ (nI i) (nI (s.2.1 i / 32)) (nI (s.2.1 i % 32)) 3 (nI s.1) 0 yA yB yF yO yS yW yP := by
  have hst := fi_s_lt P.1
  have n0 := fd_J_n J0
  have J1 := fd_J_g0 J0 hst hi
  have n1 := fd_J_n J1
  have hi1 : i < (fd_g0 (fi_s a) s i).1 := Nat.lt_of_lt_of_le hi (fd_le_g0 (stp := fi_s a) s i).1
  have J2 := fd_J_g1 J1 hst hi1
  have n2 := fd_J_n J2
  have hq := J0.2.1 i hi
  have eP : (fd_g0 (fi_s a) s i).2.1 i = s.2.1 i := ((fd_le_g0 (stp := fi_s a) s i).2 i hi).1
  refine pk_le 2 0 (fun z => absurd z (by omega)) (fun _ => ?_)
  refine fy_step (m := 0) (l := 0) P h (by omega) (by omega) (by omega) (fy_step (m := 1) (l := 0) P h (by omega) (by omega) (by omega) (nm_r (e' := nI (fi_s a (s.2.1 i) 0)) (fy_c32 _ _) ?_))
  refine fy_one (C := fun x yO' yS' yW' => ∀ x8, x8 = (0 : Int32) + 1 → wY_search_159 post J κ (nI i) (nI (s.2.1 i / 32)) (nI (s.2.1 i % 32)) 2 x x8 yA yB yF yO' yS' yW' yP) (l := 0) J0 hi (by omega) hs hst n1 (fun yO1 yS1 yW1 hs1 => nm_r (e' := nI 1) (by decide) ?_)
  refine pk_le 2 1 (fun z => absurd z (by omega)) (fun _ => ?_)
  refine fy_step (m := 0) (l := 1) P h (by omega) (by omega) (by omega) (fy_step (m := 1) (l := 1) P h (by omega) (by omega) (by omega) (nm_r (e' := nI (fi_s a ((fd_g0 (fi_s a) s i).2.1 i) 1)) (by rw [eP]; exact fy_c32 _ _) ?_))
  refine fy_one (C := fun x yO' yS' yW' => ∀ x8, x8 = (nI 1 : Int32) + 1 → wY_search_159 post J κ (nI i) (nI (s.2.1 i / 32)) (nI (s.2.1 i % 32)) 1 x x8 yA yB yF yO' yS' yW' yP) (s := fd_g0 (fi_s a) s i) (l := 1) J1 hi1 (by omega) hs1 hst n2 (fun yO2 yS2 yW2 hs2 => nm_r (e' := nI 2) (by decide) ?_)
  refine pk_le 2 2 (fun _ => nm_r (nI_1 i) ?_) (fun z => absurd z (by omega))
  exact hJ yO2 yS2 yW2 hs2
theorem fy_before (P : fx_P a a' b e) {F i : Nat} (hF : fi_F a b F) (ho : fd_on (fi_s a) (fi_q b) i) (hi : i < (fd_bf (fi_s a) (fi_q b) i).1) : i < F := by
  apply Classical.byContradiction
  intro hn
  by_cases q : F = i
  · subst q
    have := hF.2.1
    omega
  · have := ho F (by omega)
    have := hF.2.1
    omega
theorem fy_go {post : Int32 → SY → Prop} (P : fx_P a a' b e) (h : fy_S a b e yA yB yF) {k F : Nat} (hk : k < 3) (hF : fi_F a b F)
    (h1 : ∀ j, j < F → fi_sp e k ((fd_bf (fi_s a) (fi_q b) F).2.1 j) → (∀ i, i < j → ¬ fi_sp e k ((fd_bf (fi_s a) (fi_q b) F).2.1 i)) → ∀ (yO' yS' : Nat → Int32) (yW' : Nat → Int64), (∃ y, yW' j = lN y ∧ fk_w y ((fd_bf (fi_s a) (fi_q b) F).2.2.1 j) ((fd_bf (fi_s a) (fi_q b) F).2.2.2 j)) → post (nI j) (yA, yB, yF, yO', yS', yW', yP))
    (h0 : ¬ fi_C a b e k → ∀ (yO' yS' : Nat → Int32) (yW' : Nat → Int64), post (-1) (yA, yB, yF, yO', yS', yW', yP)) :
    ∀ d i (yO yS : Nat → Int32) (yW : Nat → Int64), i + d = 1025 → fd_on (fi_s a) (fi_q b) i → fy_ps yO yS yW (fd_bf (fi_s a) (fi_q b) i) → (∀ j, j < i → ¬ fi_sp e k ((fd_bf (fi_s a) (fi_q b) F).2.1 j)) →
    wY_search_67 post (nI k) (d + 1) (nI (fd_bf (fi_s a) (fi_q b) i).1) (nI i) yA yB yF yO yS yW yP := by
  have hst := fi_s_lt P.1
  have hq := fx_q_lt P
  intro d
  induction d with
  | zero =>
    intro i yO yS yW hi ho hs _
    have h1 := fd_J_n (fd_J_bf hq hst i ho)
    have h2 := ho (i - 1) (by omega)
    have h3 := (fd_le_bf (stp := fi_s a) (q0 := fi_q b) (i - 1)).1
    rw [show i - 1 + 1 = i by omega] at h3
    omega
  | succ d ih =>
    intro i yO yS yW hi ho hs hno
    have J0 := fd_J_bf hq hst i ho
    have hn := fd_J_n J0
    refine pk_le (fd_bf (fi_s a) (fi_q b) i).1 i (fun z => ?_) (fun z => ?_)
    · have hge : i ≤ (fd_bf (fi_s a) (fi_q b) i).1 := by
        cases i with
        | zero => exact Nat.zero_le _
        | succ i =>
          have h2 := ho i (by omega)
          have h3 := (fd_le_bf (stp := fi_s a) (q0 := fi_q b) i).1
          omega
      have he : (fd_bf (fi_s a) (fi_q b) i).1 = i := Nat.le_antisymm z hge
      have : F = i := fi_F_un hF ⟨by omega, he, ho⟩
      subst this
      exact h0 (fi_C_n hF hno) _ _ _
    · have hiF := fy_before P hF ho z
      obtain ⟨u, hu⟩ : ∃ u, F = i + u := ⟨F - i, by omega⟩
      have L := fd_le_far (stp := fi_s a) (q0 := fi_q b) i u
      rw [← hu] at L
      obtain ⟨eP, eW, eL⟩ := L.2 i z
      have hp := J0.2.1 i z
      have hin : vp_in (nI i) 1024 := vp_in_nI (by omega) (by omega)
      refine ⟨hin, fx_32, ?_⟩
      rw [nI_clamp (by omega), (hs.1 i z).1]
      refine nm_r (fx_d32 (by omega)) ⟨hin, fx_32, nm_r (fx_r32 (by omega)) ?_⟩
      have on : ¬ fi_sp e k ((fd_bf (fi_s a) (fi_q b) i).2.1 i) → ∃ n159, wY_search_159 post (wY_search_67 post (nI k) (d + 1)) (nI k) (nI i) (nI ((fd_bf (fi_s a) (fi_q b) i).2.1 i / 32)) (nI ((fd_bf (fi_s a) (fi_q b) i).2.1 i % 32)) n159 (nI (fd_bf (fi_s a) (fi_q b) i).1) 0 yA yB yF yO yS yW yP := by
        intro g
        refine ⟨3, fy_in P h (nI k) J0 z hs (fun yO' yS' yW' hs' => ih (i + 1) yO' yS' yW' (by omega) (fun j hj => ?_) hs' (fun j hj => ?_))⟩
        · by_cases q : j = i
          · subst q; exact z
          · exact ho j (by omega)
        · by_cases q : j = i
          · subst q; rw [eP]; exact g
          · exact hno j (by omega)
      have stop : fi_sp e k ((fd_bf (fi_s a) (fi_q b) i).2.1 i) → post (nI i) (yA, yB, yF, yO, yS, yW, yP) := by
        intro g
        refine h1 i hiF (by rw [eP]; exact g) hno yO yS yW ?_
        rw [eW, eL]; exact (hs.1 i z).2
      have hk' : k = 0 ∨ k = 1 ∨ k = 2 := by omega
      refine fy_good (m := 0) h (by omega) (by omega) (fx_tv_m (fun gx => fy_good (m := 1) h (by omega) (by omega) (fx_tv_m (fun gy => ?_) (fun gy => ?_))) (fun gx => fy_good (m := 1) h (by omega) (by omega) (fx_tv_m (fun gy => ?_) (fun gy => ?_))))
      · have no : ¬ fi_sp e k ((fd_bf (fi_s a) (fi_q b) i).2.1 i) := by
          rcases hk' with rfl | rfl | rfl
          · exact fun w => w.2 gx
          · exact fun w => w.2 gy
          · exact fun w => w ⟨fun _ => gy, fun _ => gx⟩
        exact pk_eq k 2 (fun _ => br_t rfl (on no)) (fun _ => pk_eq k 0 (fun _ => br_f fx_n1 (br_f fx_n1 (on no))) (fun _ => br_f fx_n1 (br_f fx_n1 (on no))))
      · refine pk_eq k 2 (fun q => br_f fx_n1 (stop ?_)) (fun q2 => pk_eq k 0 (fun q => br_t rfl (on ?_)) (fun q => br_f fx_n1 (br_t rfl (stop ?_))))
        · subst q; exact fun w => gy (w.mp gx)
        · subst q; exact fun w => gy w.1
        · have : k = 1 := by omega
          subst this; exact ⟨gx, gy⟩
      · refine pk_eq k 2 (fun q => br_f (fun w => fx_n1 w.symm) (stop ?_)) (fun q2 => pk_eq k 0 (fun q => br_f fx_n1 (br_t rfl (stop ?_))) (fun q => br_t rfl (on ?_)))
        · subst q; exact fun w => gx (w.mpr gy)
        · subst q; exact ⟨gy, gx⟩
        · have : k = 1 := by omega
          subst this; exact fun w => gx w.1
      · have no : ¬ fi_sp e k ((fd_bf (fi_s a) (fi_q b) i).2.1 i) := by
          rcases hk' with rfl | rfl | rfl
          · exact fun w => gy w.1
          · exact fun w => gx w.1
          · exact fun w => w ⟨fun q => absurd q gx, fun q => absurd q gy⟩
        exact pk_eq k 2 (fun _ => br_t rfl (on no)) (fun _ => pk_eq k 0 (fun _ => br_t rfl (on no)) (fun _ => br_t rfl (on no)))
theorem fy_se0 {post : Int32 → SY → Prop} (P : fx_P a a' b e) (h : fy_S a b e yA yB yF) {k F : Nat} (hk : k < 3) (hF : fi_F a b F)
    (h1 : ∀ j, j < F → fi_sp e k ((fd_bf (fi_s a) (fi_q b) F).2.1 j) → (∀ i, i < j → ¬ fi_sp e k ((fd_bf (fi_s a) (fi_q b) F).2.1 i)) → ∀ (yO' yS' : Nat → Int32) (yW' : Nat → Int64), (∃ y, yW' j = lN y ∧ fk_w y ((fd_bf (fi_s a) (fi_q b) F).2.2.1 j) ((fd_bf (fi_s a) (fi_q b) F).2.2.2 j)) → post (nI j) (yA, yB, yF, yO', yS', yW', yP))
    (h0 : ¬ fi_C a b e k → ∀ (yO' yS' : Nat → Int32) (yW' : Nat → Int64), post (-1) (yA, yB, yF, yO', yS', yW', yP)) :
    ∀ d c (yS : Nat → Int32), c + d = 1024 → (∀ x, x < c → yS x = 0) → wY_search_2 post (nI k) (d + 1) (nI c) yA yB yF yO yS yW yP := by
  have hq := fx_q_lt P
  intro d
  induction d with
  | zero =>
    intro c yS hc hz
    have : c = 1024 := by omega
    subst this
    refine pk_le 1024 1024 (fun _ => ?_) (fun z => absurd z (by omega))
    have e0 : (32 : Int32) * yB 0 + yB 1 = nI (fi_q b) := by
      rw [h.2.1 0 (by omega), h.2.1 1 (by omega), fy_c32]; rfl
    rw [e0]
    have hin : vp_in (upd yO 0 (nI (fi_q b)) 0) 1024 := by rw [pk_us]; exact vp_in_nI hq (by omega)
    have ec : (upd yO 0 (nI (fi_q b)) 0).toNatClampNeg = fi_q b := by rw [pk_us]; exact nI_clamp (by omega)
    refine nm_e (nm_e ⟨hin, nm_r (e' := upd yS (fi_q b) 1) (by rw [ec]; rfl) ⟨1026, ?_⟩⟩)
    refine fy_go P h hk hF h1 h0 1025 0 _ _ _ rfl (fun j hj => absurd hj (Nat.not_lt_zero _)) ⟨fun j hj => ?_, fun x hx => ?_⟩ (fun j hj => absurd hj (Nat.not_lt_zero _))
    · have hj' : j < 1 := hj
      have : j = 0 := by omega
      subst this
      exact ⟨rfl, 1, rfl, fk_w_0⟩
    · by_cases g : x = fi_q b
      · subst g; rw [pk_us]; exact ⟨fun _ => ⟨0, Nat.one_pos, rfl⟩, fun _ => fx_n1⟩
      · rw [pk_un g, hz x hx]
        exact ⟨fun z => absurd rfl z, fun ⟨j, _, y⟩ => absurd y.symm g⟩
  | succ d ih =>
    intro c yS hc hz
    refine pk_le 1024 c (fun z => absurd z (by omega)) (fun _ => ⟨vp_in_nI (by omega) (by omega), nm_r (fx_put (by omega) fx_nb0) (nm_r (nI_1 c) (ih (c + 1) _ (by omega) (fun x hx => ?_)))⟩)
    by_cases g : x = c
    · subst g; exact pk_us
    · rw [pk_un g]; exact hz x (by omega)
theorem fy_search {post : Int32 → SY → Prop} (P : fx_P a a' b e) (h : fy_S a b e yA yB yF) {k : Nat} (hk : k < 3)
    (h1 : ∀ F j, fi_F a b F → j < F → fi_sp e k ((fd_bf (fi_s a) (fi_q b) F).2.1 j) → (∀ i, i < j → ¬ fi_sp e k ((fd_bf (fi_s a) (fi_q b) F).2.1 i)) → ∀ (yO' yS' : Nat → Int32) (yW' : Nat → Int64), (∃ y, yW' j = lN y ∧ fk_w y ((fd_bf (fi_s a) (fi_q b) F).2.2.1 j) ((fd_bf (fi_s a) (fi_q b) F).2.2.2 j)) → post (nI j) (yA, yB, yF, yO', yS', yW', yP))
    (h0 : ¬ fi_C a b e k → ∀ (yO' yS' : Nat → Int32) (yW' : Nat → Int64), post (-1) (yA, yB, yF, yO', yS', yW', yP)) : wpY_search post (yA, yB, yF, yO, yS, yW, yP) (nI k) := by
  obtain ⟨F, g1, g2, g3⟩ := fd_F (q0 := fi_q b) (stp := fi_s a) (fx_q_lt P) (fi_s_lt P.1)
  exact ⟨_, fy_se0 P h hk ⟨g1, g2, g3⟩ (fun j => h1 F j ⟨g1, g2, g3⟩) h0 1024 0 yS rfl (fun x hx => absurd hx (Nat.not_lt_zero _))⟩
end
