/-! X: equal by merging; the four answers of X that compare the machines -/
section
variable {a a' b e : Nat → Nat} {aO aB aS aE cC cF cS cA cG cL cM cN cP cW cT cQ : Nat → Int32} {m x l : Nat}
theorem fx_mg_go {post : Int32 → SX → Prop} {n p q k o : Nat} {ld : Nat → Nat} (hn : n < 64) (hld : ∀ x, x < 64 → ld x < 64) (hk : k < 64) (ho : o < 64)
    (hp : ∀ cL' : Nat → Int32, fx_ar cL' (fh_ld ld k o) 64 → post (nI (n + 1)) (aO, aB, aS, aE, cC, cF, cS, cA, cG, cL', (upd cM n (nI p)), (upd cN n (nI q)), cP, cW, cT, cQ)) : ∀ d c (cL : Nat → Int32), c + d = 64 → (∀ x, x < 64 → cL x = nI (if x < c then fh_ld ld k o x else ld x)) →
    wX_merge_34 post (nI p) (nI q) (nI n) (nI k) (nI o) (d + 1) (nI c) aO aB aS aE cC cF cS cA cG cL cM cN cP cW cT cQ := by
  intro d
  induction d with
  | zero =>
    intro c cL hc hL
    have : c = 64 := by omega
    subst this
    have hin : vp_in (nI n) 64 := vp_in_nI hn (by omega)
    refine pk_le 64 64 (fun _ => ⟨hin, nm_r (fx_put (by omega) rfl) ⟨hin, nm_r (fx_put (by omega) rfl) ?_⟩⟩) (fun z => absurd z (by omega))
    rw [nI_1]
    refine hp cL (fun x hx => ?_)
    rw [hL x hx, if_pos hx]
  | succ d ih =>
    intro c cL hc hL
    have hc64 : c < 64 := by omega
    have hin : vp_in (nI c) 64 := vp_in_nI hc64 (by omega)
    refine pk_le 64 c (fun z => absurd z (by omega)) (fun _ => ⟨hin, ?_⟩)
    rw [nI_clamp (by omega)]
    have ec : cL c = nI (ld c) := by rw [hL c hc64, if_neg (by omega)]
    have hlc := hld c hc64
    rw [ec]
    refine pk_eq (ld c) k (fun z => ⟨hin, nm_r (e' := upd cL c (nI o)) rfl (nm_r (nI_1 c) (ih (c + 1) _ (by omega) (fun x hx => ?_)))⟩) (fun z => nm_r (nI_1 c) (ih (c + 1) cL (by omega) (fun x hx => ?_)))
    · by_cases g : x = c
      · subst g
        rw [pk_us, if_pos (by omega)]
        unfold fh_ld
        rw [if_pos z]
      · rw [pk_un g, hL x hx]
        by_cases g' : x < c
        · rw [if_pos g', if_pos (by omega)]
        · rw [if_neg g', if_neg (by omega)]
    · by_cases g : x = c
      · subst g
        rw [ec, if_pos (by omega)]
        unfold fh_ld
        rw [if_neg z]
      · rw [hL x hx]
        by_cases g' : x < c
        · rw [if_pos g', if_pos (by omega)]
        · rw [if_neg g', if_neg (by omega)]
/-- what a merging leaves -/
def fx_mv (d : Nat → Nat → Nat) (f : Nat → Prop) (x0 y0 n : Nat) (ld mo mt : Nat → Nat) (cL cM cN : Nat → Int32) : Prop :=
  fh_v d f x0 y0 n ld mo mt ∧ fx_ar cL ld 64 ∧ fx_ar cM mo n ∧ fx_ar cN mt n
def fx_mx (n : Nat) (ld mo mt : Nat → Nat) (n' : Nat) (ld' mo' mt' : Nat → Nat) : Prop :=
  n ≤ n' ∧ (∀ i, i < n → mo' i = mo i ∧ mt' i = mt i) ∧ (∀ x y, ld x = ld y → ld' x = ld' y)
theorem fx_merge {post : Int32 → SX → Prop} {d : Nat → Nat → Nat} {f : Nat → Prop} {x0 y0 n : Nat} {ld mo mt : Nat → Nat} (v : fx_mv d f x0 y0 n ld mo mt cL cM cN) {p q : Nat} (hp : p < 64) (hq : q < 64) (hI : fa_I d f x0 y0 → fa_I d f p q)
    (k : ∀ n' (ld' mo' mt' : Nat → Nat) (cL' cM' cN' : Nat → Int32), fx_mv d f x0 y0 n' ld' mo' mt' cL' cM' cN' → fx_mx n ld mo mt n' ld' mo' mt' → ld' p = ld' q → post (nI n') (aO, aB, aS, aE, cC, cF, cS, cA, cG, cL', cM', cN', cP, cW, cT, cQ)) : wpX_merge post (aO, aB, aS, aE, cC, cF, cS, cA, cG, cL, cM, cN, cP, cW, cT, cQ) (nI p) (nI q) (nI n) := by
  obtain ⟨hv, hL, hM, hN⟩ := v
  have hlp := (hv.1 p hp).1
  have hlq := (hv.1 q hq).1
  have hn := fh_v_n hv
  refine ⟨vp_in_nI hp (by omega), nm_r ((fx_get (by omega)).trans (hL p hp)) ⟨vp_in_nI hq (by omega), nm_r ((fx_get (by omega)).trans (hL q hq)) ?_⟩⟩
  refine pk_eq (ld p) (ld q) (fun z => ?_) (fun z => pk_lt n 64 (fun _ => ?_) (fun y => absurd y (by omega)))
  · exact k n ld mo mt cL cM cN ⟨hv, hL, hM, hN⟩ ⟨Nat.le_refl _, fun _ _ => ⟨rfl, rfl⟩, fun _ _ t => t⟩ z
  · refine ⟨_, fx_mg_go hn (fun x hx => (hv.1 x hx).1) hlp hlq (fun cL' hL' => ?_) 64 0 cL rfl (fun x hx => ?_)⟩
    · refine k (n + 1) (fh_ld ld (ld p) (ld q)) (fd_up mo n p) (fd_up mt n q) cL' _ _ ⟨fh_merge hv hp hq hI z, hL', fx_ar_s hM, fx_ar_s hN⟩ ⟨by omega, fun i hi => ⟨fd_up_n hi, fd_up_n hi⟩, fun x y t => ?_⟩ ?_
      · unfold fh_ld; rw [t]
      · unfold fh_ld; rw [if_pos rfl, if_neg (fun y => z y.symm)]
    · rw [if_neg (Nat.not_lt_zero _)]; exact hL x hx
theorem fx_mm_in {post : Int32 → SX → Prop} {J : Int32 → Int32 → (Nat → Int32) → (Nat → Int32) → (Nat → Int32) → (Nat → Int32) → (Nat → Int32) → (Nat → Int32) → (Nat → Int32) → (Nat → Int32) → (Nat → Int32) → (Nat → Int32) → (Nat → Int32) → (Nat → Int32) → (Nat → Int32) → (Nat → Int32) → (Nat → Int32) → (Nat → Int32) → Prop}
    (P : fx_P a a' b e) (h : fx_S a a' b e aO aB aS aE) {x0 y0 n i : Nat} {ld mo mt : Nat → Nat} (v : fx_mv (ff_d a) (ff_f e) x0 y0 n ld mo mt cL cM cN) (hi : i < n)
    (hJ : ∀ n' (ld' mo' mt' : Nat → Nat) (cL' cM' cN' : Nat → Int32), fx_mv (ff_d a) (ff_f e) x0 y0 n' ld' mo' mt' cL' cM' cN' → fx_mx n ld mo mt n' ld' mo' mt' → ld' (ff_d a (mo i) 0) = ld' (ff_d a (mt i) 0) → ld' (ff_d a (mo i) 1) = ld' (ff_d a (mt i) 1) → J (nI n') (nI (i + 1)) aO aB aS aE cC cF cS cA cG cL' cM' cN' cP cW cT cQ) :
    wX_isEqualByMerging_82 post J (nI i) 3 (nI n) 0 aO aB aS aE cC cF cS cA cG cL cM cN cP cW cT cQ := by
  have hn := fh_v_n v.1
  have g := v.1.2.2.1 i hi
  have gI := v.1.2.2.2.2 i hi
  have hin : vp_in (nI i) 64 := vp_in_nI (by omega) (by omega)
  refine pk_le 2 0 (fun z => absurd z (by omega)) (fun _ => ⟨hin, ?_⟩)
  rw [nI_clamp (by omega), v.2.2.1 i hi, v.2.2.2 i hi]
  refine fx_nodeAfter (l := 0) P h g.1 (by omega) ⟨hin, fx_nodeAfter (l := 0) P h g.2.1 (by omega) ?_⟩
  refine fx_merge v (ff_d_lt P.1 g.1 0) (ff_d_lt P.1 g.2.1 0) (fun z => fa_I_s0 (gI z)) (fun n1 ld1 mo1 mt1 cL1 cM1 cN1 v1 x1 e1 => nm_r (e' := nI 1) (by decide) ?_)
  have hi1 : i < n1 := Nat.lt_of_lt_of_le hi x1.1
  have em := (x1.2.1 i hi).1
  have et := (x1.2.1 i hi).2
  refine pk_le 2 1 (fun z => absurd z (by omega)) (fun _ => ⟨hin, ?_⟩)
  dsimp only
  rw [nI_clamp (by omega), v1.2.2.1 i hi1, v1.2.2.2 i hi1, em, et]
  refine fx_nodeAfter P h g.1 (by omega) ⟨hin, fx_nodeAfter P h g.2.1 (by omega) ?_⟩
  refine fx_merge v1 (ff_d_lt P.1 g.1 1) (ff_d_lt P.1 g.2.1 1) (fun z => fa_I_s1 (gI z)) (fun n2 ld2 mo2 mt2 cL2 cM2 cN2 v2 x2 e2 => nm_r (e' := nI 2) (by decide) ?_)
  refine pk_le 2 2 (fun _ => nm_r (nI_1 i) ?_) (fun z => absurd z (by omega))
  refine hJ n2 ld2 mo2 mt2 cL2 cM2 cN2 v2 ⟨Nat.le_trans x1.1 x2.1, fun j hj => ?_, fun x y t => x2.2.2 x y (x1.2.2 x y t)⟩ (x2.2.2 _ _ e1) e2
  have hj1 : j < n1 := Nat.lt_of_lt_of_le hj x1.1
  exact ⟨((x2.2.1 j hj1).1).trans (x1.2.1 j hj).1, ((x2.2.1 j hj1).2).trans (x1.2.1 j hj).2⟩
theorem fx_mm_go {post : Int32 → SX → Prop} (P : fx_P a a' b e) (h : fx_S a a' b e aO aB aS aE)
    (h1 : fi_EQ a b e → fx_ans a a' b e 1 post) (h0 : ¬ fi_EQ a b e → fx_ans a a' b e 0 post) : ∀ d i n (ld mo mt : Nat → Nat) (cL cM cN : Nat → Int32), i + d = 64 → i ≤ n → fx_mv (ff_d a) (ff_f e) (b 0) (32 + b 1) n ld mo mt cL cM cN → fh_p (ff_d a) (ff_f e) i ld mo mt → ld (b 0) = ld (32 + b 1) →
    wX_isEqualByMerging_44 post (d + 1) (nI n) (nI i) aO aB aS aE cC cF cS cA cG cL cM cN cP cW cT cQ := by
  have hb0 := P.2.2.2.1 0 (by omega)
  have hb1 := P.2.2.2.1 1 (by omega)
  intro d
  induction d with
  | zero =>
    intro i n ld mo mt cL cM cN hi hin v hp h00
    have hn := fh_v_n v.1
    omega
  | succ d ih =>
    intro i n ld mo mt cL cM cN hi hin v hp h00
    have hn := fh_v_n v.1
    refine pk_le n i (fun z => ?_) (fun z => pk_le 64 i (fun y => absurd y (by omega)) (fun _ => ?_))
    · have : i = n := by omega
      subst this
      exact h1 (fh_end (ff_d_c P.1) v.1 hp (by omega) (by omega) h00) _ _ _ _ _ _ _ _ _ _ _ _ _ _ _ _ h
    · have g := v.1.2.2.1 i z
      have gI := v.1.2.2.2.2 i z
      have hv : vp_in (nI i) 64 := vp_in_nI (by omega) (by omega)
      refine ⟨hv, ?_⟩
      rw [nI_clamp (by omega), v.2.2.1 i z, v.2.2.2 i z]
      have go : (ff_f e (mo i) ↔ ff_f e (mt i)) → ∃ n82, wX_isEqualByMerging_82 post (wX_isEqualByMerging_44 post (d + 1)) (nI i) n82 (nI n) 0 aO aB aS aE cC cF cS cA cG cL cM cN cP cW cT cQ := by
        intro gf
        refine ⟨3, fx_mm_in P h v z (fun n' ld' mo' mt' cL' cM' cN' v' x' e0 e1 => ?_)⟩
        refine ih (i + 1) n' ld' mo' mt' cL' cM' cN' (by omega) (by have := x'.1; omega) v' (fun j hj => ?_) (x'.2.2 _ _ h00)
        by_cases q : j = i
        · subst q
          rw [(x'.2.1 j z).1, (x'.2.1 j z).2]
          exact ⟨gf, e0, e1⟩
        · have hj' : j < n := by omega
          rw [(x'.2.1 j hj').1, (x'.2.1 j hj').2]
          obtain ⟨p1, p2, p3⟩ := hp j (by omega)
          exact ⟨p1, x'.2.2 _ _ p2, x'.2.2 _ _ p3⟩
      have no : ¬ (ff_f e (mo i) ↔ ff_f e (mt i)) → post 0 (aO, aB, aS, aE, cC, cF, cS, cA, cG, cL, cM, cN, cP, cW, cT, cQ) := fun gf => h0 (fun z => gf (fa_I_f (gI z))) _ _ _ _ _ _ _ _ _ _ _ _ _ _ _ _ h
      refine fx_endNode h g.1 (fx_tv_m (fun gx => ⟨hv, fx_endNode h g.2.1 (fx_tv_m (fun gy => ?_) (fun gy => ?_))⟩) (fun gx => ⟨hv, fx_endNode h g.2.1 (fx_tv_m (fun gy => ?_) (fun gy => ?_))⟩))
      · exact br_t rfl (go ⟨fun _ => gy, fun _ => gx⟩)
      · exact br_f fx_n1 (no (fun z => gy (z.mp gx)))
      · exact br_f (fun z => fx_n1 z.symm) (no (fun z => gx (z.mpr gy)))
      · exact br_t rfl (go ⟨fun z => absurd z gx, fun z => absurd z gy⟩)
theorem fx_mm0 {post : Int32 → SX → Prop} (P : fx_P a a' b e) (h : fx_S a a' b e aO aB aS aE)
    (h1 : fi_EQ a b e → fx_ans a a' b e 1 post) (h0 : ¬ fi_EQ a b e → fx_ans a a' b e 0 post) : ∀ d c (cL : Nat → Int32), c + d = 64 → fx_ar cL (fun x => x) c → wX_isEqualByMerging_2 post (d + 1) (nI c) aO aB aS aE cC cF cS cA cG cL cM cN cP cW cT cQ := by
  have hb0 := P.2.2.2.1 0 (by omega)
  have hb1 := P.2.2.2.1 1 (by omega)
  intro d
  induction d with
  | zero =>
    intro c cL hc hL
    have : c = 64 := by omega
    subst this
    refine pk_le 64 64 (fun _ => ?_) (fun z => absurd z (by omega))
    have e1 : (32 : Int32) + aS 1 = nI (32 + b 1) := by
      rw [h.2.2.1 1 (by omega)]
      exact nI_add 32 (b 1)
    rw [h.2.2.1 0 (by omega), e1]
    refine fx_merge (n := 0) ⟨fh_v_0 (d := ff_d a) (f := ff_f e) (b 0) (32 + b 1) (fun _ => 0) (fun _ => 0), hL, fun x hx => absurd hx (Nat.not_lt_zero _), fun x hx => absurd hx (Nat.not_lt_zero _)⟩ (by omega) (by omega) (fun z => z)
      (fun n' ld' mo' mt' cL' cM' cN' v' x' e' => ⟨65, fx_mm_go P h h1 h0 64 0 n' ld' mo' mt' cL' cM' cN' rfl (Nat.zero_le _) v' (fun j hj => absurd hj (Nat.not_lt_zero _)) e'⟩)
  | succ d ih =>
    intro c cL hc hL
    refine pk_le 64 c (fun z => absurd z (by omega)) (fun _ => ⟨vp_in_nI (by omega) (by omega), nm_r (fx_put (by omega) rfl) (nm_r (nI_1 c) (ih (c + 1) _ (by omega) (fx_ar_k hL)))⟩)
theorem fx_byMerging {post : Int32 → SX → Prop} (P : fx_P a a' b e) (h : fx_S a a' b e aO aB aS aE)
    (h1 : fi_EQ a b e → fx_ans a a' b e 1 post) (h0 : ¬ fi_EQ a b e → fx_ans a a' b e 0 post) : wpX_isEqualByMerging post (aO, aB, aS, aE, cC, cF, cS, cA, cG, cL, cM, cN, cP, cW, cT, cQ) :=
  ⟨_, fx_mm0 P h h1 h0 64 0 cL rfl (fun x hx => absurd hx (Nat.not_lt_zero _))⟩
theorem fx_equal {post : Int32 → SX → Prop} (P : fx_P a a' b e) (h : fx_S a a' b e aO aB aS aE) {g : Nat} (hg : g < 3)
    (h1 : fi_EQ a b e → fx_ans a a' b e 1 post) (h0 : ¬ fi_EQ a b e → fx_ans a a' b e 0 post) : wpX_equal post (aO, aB, aS, aE, cC, cF, cS, cA, cG, cL, cM, cN, cP, cW, cT, cQ) (nI g) := by
  unfold wpX_equal
  dsimp only
  refine fx_bel_t 3 hg (by omega) ?_
  refine pk_eq g 0 (fun _ => ?_) (fun _ => pk_eq g 1 (fun _ => ?_) (fun _ => ?_))
  · exact fx_byWalk P h (fun z aO aB aS aE cC cF cS cA cG cL cM cN cP cW cT cQ h' => ⟨rfl, h1 z _ _ _ _ _ _ _ _ _ _ _ _ _ _ _ _ h'⟩) (fun z aO aB aS aE cC cF cS cA cG cL cM cN cP cW cT cQ h' => ⟨rfl, h0 z _ _ _ _ _ _ _ _ _ _ _ _ _ _ _ _ h'⟩)
  · exact fx_byMerging P h (fun z aO aB aS aE cC cF cS cA cG cL cM cN cP cW cT cQ h' => ⟨rfl, h1 z _ _ _ _ _ _ _ _ _ _ _ _ _ _ _ _ h'⟩) (fun z aO aB aS aE cC cF cS cA cG cL cM cN cP cW cT cQ h' => ⟨rfl, h0 z _ _ _ _ _ _ _ _ _ _ _ _ _ _ _ _ h'⟩)
  · exact fx_byClasses P h (fun z cC' cF' cS' => ⟨rfl, h1 z _ _ _ _ _ _ _ _ _ _ _ _ _ _ _ _ h⟩) (fun z cC' cF' cS' => ⟨rfl, h0 z _ _ _ _ _ _ _ _ _ _ _ _ _ _ _ _ h⟩)
end
