/-! both machines' sets side by side; sorting into kinds; merging; the walk's ends -/
def ff_r (a : Nat → Nat) (m l s : Nat) : Nat := a (10 * m + 2 * s + l)
def ff_st (a : Nat → Nat) (m : Nat) : Nat → Nat → Nat := fb_st (ff_r a m 0) (ff_r a m 1)
def ff_d (a : Nat → Nat) (x l : Nat) : Nat := 32 * (x / 32) + ff_st a (x / 32) (x % 32) l
def ff_g (e : Nat → Nat) (m S : Nat) : Prop := fb_m S (e m)
def ff_f (e : Nat → Nat) (x : Nat) : Prop := ff_g e (x / 32) (x % 32)
def ff_ok (a : Nat → Nat) : Prop := ∀ i, i < 20 → a i < 32
def ff_cv (a a' : Nat → Nat) : Prop := ∀ m l, m < 2 → l < 2 → fb_cv (ff_r a m l) (ff_r a' m l)
theorem ff_B {a : Nat → Nat} (h : ff_ok a) {m l : Nat} (hm : m < 2) (hl : l < 2) : fb_B (ff_r a m l) :=
  fun s hs => h _ (by omega)
theorem ff_st_lt {a : Nat → Nat} (h : ff_ok a) {m : Nat} (hm : m < 2) (S l : Nat) : ff_st a m S l < 32 :=
  fb_st_lt (ff_B h hm (by omega)) (ff_B h hm (by omega)) S l
theorem ff_st_c {a : Nat → Nat} (h : ff_ok a) {m : Nat} (hm : m < 2) : ∀ x, x < 32 → ff_st a m x 0 < 32 ∧ ff_st a m x 1 < 32 :=
  fun x _ => ⟨ff_st_lt h hm x 0, ff_st_lt h hm x 1⟩
theorem ff_d_lt {a : Nat → Nat} (h : ff_ok a) {x : Nat} (hx : x < 64) (l : Nat) : ff_d a x l < 64 := by
  have := ff_st_lt h (show x / 32 < 2 by omega) (x % 32) l
  unfold ff_d; omega
theorem ff_d_c {a : Nat → Nat} (h : ff_ok a) : ∀ x, x < 64 → ff_d a x 0 < 64 ∧ ff_d a x 1 < 64 :=
  fun _ hx => ⟨ff_d_lt h hx 0, ff_d_lt h hx 1⟩
theorem ff_d_m {a : Nat → Nat} {m s : Nat} (l : Nat) (hs : s < 32) : ff_d a (32 * m + s) l = 32 * m + ff_st a m s l := by
  unfold ff_d; rw [show (32 * m + s) / 32 = m by omega, show (32 * m + s) % 32 = s by omega]
theorem ff_f_m {e : Nat → Nat} {m s : Nat} (hs : s < 32) : ff_f e (32 * m + s) ↔ ff_g e m s := by
  unfold ff_f; rw [show (32 * m + s) / 32 = m by omega, show (32 * m + s) % 32 = s by omega]
theorem ff_E {a e : Nat → Nat} (h : ff_ok a) {m : Nat} (hm : m < 2) : ∀ k s t, s < 32 → t < 32 → (fa_E (ff_d a) (ff_f e) k (32 * m + s) (32 * m + t) ↔ fa_E (ff_st a m) (ff_g e m) k s t) := by
  intro k
  induction k with
  | zero =>
    intro s t hs ht
    show (ff_f e (32 * m + s) ↔ ff_f e (32 * m + t)) ↔ (ff_g e m s ↔ ff_g e m t)
    rw [ff_f_m hs, ff_f_m ht]
  | succ k ih =>
    intro s t hs ht
    show (_ ∧ fa_E (ff_d a) (ff_f e) k (ff_d a (32 * m + s) 0) (ff_d a (32 * m + t) 0) ∧ fa_E (ff_d a) (ff_f e) k (ff_d a (32 * m + s) 1) (ff_d a (32 * m + t) 1)) ↔ _
    rw [ff_d_m 0 hs, ff_d_m 0 ht, ff_d_m 1 hs, ff_d_m 1 ht, ih s t hs ht, ih _ _ (ff_st_lt h hm _ _) (ff_st_lt h hm _ _), ih _ _ (ff_st_lt h hm _ _) (ff_st_lt h hm _ _)]
    exact Iff.rfl
theorem ff_I {a e : Nat → Nat} (h : ff_ok a) {m : Nat} (hm : m < 2) {s t : Nat} (hs : s < 32) (ht : t < 32) : fa_I (ff_d a) (ff_f e) (32 * m + s) (32 * m + t) ↔ fa_I (ff_st a m) (ff_g e m) s t :=
  ⟨fun g k => (ff_E h hm k s t hs ht).mp (g k), fun g k => (ff_E h hm k s t hs ht).mpr (g k)⟩
/-- the number that every engine finds -/
noncomputable def ff_N (a b e : Nat → Nat) (m : Nat) : Nat := fa_ct (fe_nb (fa_R (ff_st a m) (b m)) (fa_I (ff_st a m) (ff_g e m))) 32
/-! sorting into kinds -/
def fg_cl (d : Nat → Nat → Nat) (f : Nat → Prop) (r : Nat) (cl : Nat → Nat) : Prop :=
  (∀ x, x < 64 → cl x < 64) ∧ ∀ x y, x < 64 → y < 64 → (cl x = cl y ↔ fa_E d f r x y)
def fg_sg (d : Nat → Nat → Nat) (cl : Nat → Nat) (x : Nat) : Nat := (cl x * 64 + cl (d x 0)) * 64 + cl (d x 1)
def fg_fn (d : Nat → Nat → Nat) (f : Nat → Prop) (r c n : Nat) (fn : Nat → Nat) : Prop :=
  n = fa_ct (fa_rep d f (r + 1)) c ∧ (∀ x, x < c → fn x < n) ∧ ∀ x y, x < c → y < c → (fn x = fn y ↔ fa_E d f (r + 1) x y)
section
variable {d : Nat → Nat → Nat} {f : Nat → Prop}
theorem fg_sg_i {a b c a' b' c' : Nat} (hb : b < 64) (hc : c < 64) (hb' : b' < 64) (hc' : c' < 64) : (a * 64 + b) * 64 + c = (a' * 64 + b') * 64 + c' ↔ a = a' ∧ b = b' ∧ c = c' := by
  constructor
  · intro h; refine ⟨by omega, by omega, by omega⟩
  · rintro ⟨rfl, rfl, rfl⟩; rfl
theorem fg_sg_E {r : Nat} {cl : Nat → Nat} (h : fg_cl d f r cl) (hc : ∀ x, x < 64 → d x 0 < 64 ∧ d x 1 < 64) {x y : Nat} (hx : x < 64) (hy : y < 64) :
    fg_sg d cl x = fg_sg d cl y ↔ fa_E d f (r + 1) x y := by
  unfold fg_sg
  rw [fg_sg_i (h.1 _ (hc x hx).1) (h.1 _ (hc x hx).2) (h.1 _ (hc y hy).1) (h.1 _ (hc y hy).2), h.2 x y hx hy, h.2 _ _ (hc x hx).1 (hc y hy).1, h.2 _ _ (hc x hx).2 (hc y hy).2]
  exact Iff.rfl
theorem fg_sg_lt {r : Nat} {cl : Nat → Nat} (h : fg_cl d f r cl) (hc : ∀ x, x < 64 → d x 0 < 64 ∧ d x 1 < 64) {x : Nat} (hx : x < 64) : fg_sg d cl x < 262144 := by
  have h1 := h.1 x hx
  have h2 := h.1 _ (hc x hx).1
  have h3 := h.1 _ (hc x hx).2
  unfold fg_sg
  omega
theorem fg_fn_0 (r : Nat) (fn : Nat → Nat) : fg_fn d f r 0 0 fn :=
  ⟨rfl, fun _ h => absurd h (Nat.not_lt_zero _), fun _ _ h => absurd h (Nat.not_lt_zero _)⟩
theorem fg_fn_new {r c n : Nat} {fn : Nat → Nat} (h : fg_fn d f r c n fn) (hr : fa_rep d f (r + 1) c) : fg_fn d f r (c + 1) (n + 1) (fd_up fn c n) := by
  obtain ⟨h1, h2, h3⟩ := h
  refine ⟨by rw [fa_ct_t hr, ← h1], fun x hx => ?_, fun x y hx hy => ?_⟩
  · by_cases q : x = c
    · subst q; rw [fd_up_s]; omega
    · rw [fd_up_n (by omega)]; have := h2 x (by omega); omega
  · by_cases q : x = c
    · subst q
      by_cases q' : y = x
      · subst q'; exact ⟨fun _ => fa_E_rf _ _, fun _ => rfl⟩
      · rw [fd_up_s, fd_up_n (by omega)]
        have := h2 y (by omega)
        exact ⟨fun e => by omega, fun e => absurd (fa_E_sm _ _ _ e) (hr y (by omega))⟩
    · by_cases q' : y = c
      · subst q'
        rw [fd_up_s, fd_up_n (by omega)]
        have := h2 x (by omega)
        exact ⟨fun e => by omega, fun e => absurd e (hr x (by omega))⟩
      · rw [fd_up_n (by omega), fd_up_n (by omega)]
        exact h3 x y (by omega) (by omega)
theorem fg_fn_old {r c n k : Nat} {fn : Nat → Nat} (h : fg_fn d f r c n fn) (hk : k < c) (he : fa_E d f (r + 1) k c) : fg_fn d f r (c + 1) n (fd_up fn c (fn k)) := by
  obtain ⟨h1, h2, h3⟩ := h
  refine ⟨by rw [fa_ct_f (fun hr => hr k hk he)]; exact h1, fun x hx => ?_, fun x y hx hy => ?_⟩
  · by_cases q : x = c
    · subst q; rw [fd_up_s]; exact h2 k hk
    · rw [fd_up_n (by omega)]; exact h2 x (by omega)
  · by_cases q : x = c
    · subst q
      by_cases q' : y = x
      · subst q'; exact ⟨fun _ => fa_E_rf _ _, fun _ => rfl⟩
      · rw [fd_up_s, fd_up_n (by omega), h3 k y hk (by omega)]
        exact ⟨fun e => fa_E_tr _ _ _ _ (fa_E_sm _ _ _ he) e, fun e => fa_E_tr _ _ _ _ he e⟩
    · by_cases q' : y = c
      · subst q'
        rw [fd_up_s, fd_up_n (by omega), h3 x k (by omega) hk]
        exact ⟨fun e => fa_E_tr _ _ _ _ e he, fun e => fa_E_tr _ _ _ _ e (fa_E_sm _ _ _ he)⟩
      · rw [fd_up_n (by omega), fd_up_n (by omega)]
        exact h3 x y (by omega) (by omega)
theorem fg_fn_end {r n : Nat} {fn : Nat → Nat} (h : fg_fn d f r 64 n fn) : fg_cl d f (r + 1) fn := by
  refine ⟨fun x hx => ?_, h.2.2⟩
  have a := h.2.1 x hx
  have b := fa_ct_bd (p := fa_rep d f (r + 1)) 64
  have c := h.1
  omega
def fg_fin (d : Nat → Nat → Nat) (f : Nat → Prop) (cl : Nat → Nat) : Prop :=
  (∀ x, x < 64 → cl x < 64) ∧ ∀ x y, x < 64 → y < 64 → (cl x = cl y ↔ fa_I d f x y)
theorem fg_brk {r n : Nat} {fn : Nat → Nat} (hc : ∀ x, x < 64 → d x 0 < 64 ∧ d x 1 < 64) (h : fg_fn d f r 64 n fn) (hr : n = fa_ct (fa_rep d f r) 64) : fg_fin d f fn := by
  have e := fg_fn_end h
  refine ⟨e.1, fun x y hx hy => ?_⟩
  rw [e.2 x y hx hy]
  refine ⟨fun g => fa_E_ct hc (by rw [← hr, h.1]) x y hx hy g.1, fun g => g _⟩
theorem fg_big {cl : Nat → Nat} {r : Nat} (hr : 63 ≤ r) (hc : ∀ x, x < 64 → d x 0 < 64 ∧ d x 1 < 64) (h : fg_cl d f r cl) : fg_fin d f cl := by
  refine ⟨h.1, fun x y hx hy => ?_⟩
  rw [h.2 x y hx hy]
  exact ⟨fun g => fa_E_big (by omega) hc r (by omega) x y hx hy g, fun g => g _⟩
theorem fg_n1 {r n : Nat} {fn : Nat → Nat} (h : fg_fn d f r 64 n fn) : 1 ≤ n ∧ n ≤ 64 := by
  rw [h.1]
  exact ⟨fa_ct_pos (i := 0) (by omega) (fun i hi => absurd hi (Nat.not_lt_zero _)), fa_ct_bd 64⟩
/-! merging -/
def fh_v (d : Nat → Nat → Nat) (f : Nat → Prop) (x0 y0 n : Nat) (ld mo mt : Nat → Nat) : Prop :=
  (∀ x, x < 64 → ld x < 64 ∧ ld (ld x) = ld x) ∧ fa_ct (fun x => ld x = x) 64 + n ≤ 64 ∧
  (∀ i, i < n → mo i < 64 ∧ mt i < 64 ∧ ld (mo i) = ld (mt i)) ∧
  (∀ Q : Nat → Nat → Prop, (∀ x, Q x x) → (∀ x y, Q x y → Q y x) → (∀ x y z, Q x y → Q y z → Q x z) → (∀ i, i < n → Q (mo i) (mt i)) → ∀ x y, x < 64 → y < 64 → ld x = ld y → Q x y) ∧
  (∀ i, i < n → fa_I d f x0 y0 → fa_I d f (mo i) (mt i))
def fh_ld (ld : Nat → Nat) (l k : Nat) : Nat → Nat := fun x => if ld x = l then k else ld x
theorem fh_v_0 (x0 y0 : Nat) (mo mt : Nat → Nat) : fh_v d f x0 y0 0 (fun x => x) mo mt := by
  refine ⟨fun x hx => ⟨hx, rfl⟩, ?_, fun i hi => absurd hi (Nat.not_lt_zero _), ?_, fun i hi => absurd hi (Nat.not_lt_zero _)⟩
  · exact fa_ct_bd 64
  · intro Q h1 _ _ _ x y _ _ e
    have e' : x = y := e
    subst e'; exact h1 x
theorem fh_v_n {x0 y0 n : Nat} {ld mo mt : Nat → Nat} (h : fh_v d f x0 y0 n ld mo mt) : n < 64 := by
  have a := h.1 0 (by omega)
  have b : 1 ≤ fa_ct (fun x => ld x = x) 64 := fa_ct_pos a.1 a.2
  have c := h.2.1
  omega
theorem fh_v_eq {x0 y0 n : Nat} {ld ld' mo mo' mt mt' : Nat → Nat} (h : fh_v d f x0 y0 n ld mo mt) (h1 : ∀ x, x < 64 → ld' x = ld x) (h2 : ∀ i, i < n → mo' i = mo i) (h3 : ∀ i, i < n → mt' i = mt i) : fh_v d f x0 y0 n ld' mo' mt' := by
  obtain ⟨g1, g2, g3, g4, g5⟩ := h
  refine ⟨fun x hx => ?_, ?_, fun i hi => ?_, fun Q a b c hq x y hx hy e => ?_, fun i hi hI => ?_⟩
  · rw [h1 x hx, h1 _ (g1 x hx).1]; exact g1 x hx
  · rw [fa_ct_congr (q := fun x => ld x = x) (fun i hi => by rw [h1 i hi])]; exact g2
  · rw [h2 i hi, h3 i hi, h1 _ (g3 i hi).1, h1 _ (g3 i hi).2.1]; exact g3 i hi
  · refine g4 Q a b c (fun i hi => ?_) x y hx hy (by rw [← h1 x hx, ← h1 y hy]; exact e)
    have := hq i hi
    rw [h2 i hi, h3 i hi] at this; exact this
  · rw [h2 i hi, h3 i hi]; exact g5 i hi hI
theorem fh_merge {x0 y0 n : Nat} {ld mo mt : Nat → Nat} (h : fh_v d f x0 y0 n ld mo mt) {p q : Nat} (hp : p < 64) (hq : q < 64) (hI : fa_I d f x0 y0 → fa_I d f p q)
    (hne : ld p ≠ ld q) : fh_v d f x0 y0 (n + 1) (fh_ld ld (ld p) (ld q)) (fd_up mo n p) (fd_up mt n q) := by
  obtain ⟨g1, g2, g3, g4, g5⟩ := h
  have lt : ∀ x, ld x = ld p → fh_ld ld (ld p) (ld q) x = ld q := fun x e => if_pos e
  have lf : ∀ x, ld x ≠ ld p → fh_ld ld (ld p) (ld q) x = ld x := fun x e => if_neg e
  refine ⟨fun x hx => ?_, ?_, fun i hi => ?_, fun Q a b c hQ x y hx hy e => ?_, fun i hi hh => ?_⟩
  · by_cases k : ld x = ld p
    · rw [lt x k, lf (ld q) (by rw [(g1 q hq).2]; exact Ne.symm hne)]
      exact ⟨(g1 q hq).1, (g1 q hq).2⟩
    · rw [lf x k, lf (ld x) (by rw [(g1 x hx).2]; exact k)]
      exact g1 x hx
  · have : fa_ct (fun x => fh_ld ld (ld p) (ld q) x = x) 64 < fa_ct (fun x => ld x = x) 64 := by
      refine fa_ct_lt 64 (fun x hx e => ?_) (ld p) (g1 p hp).1 (g1 p hp).2 (fun e => ?_)
      · by_cases k : ld x = ld p
        · have e' : fh_ld ld (ld p) (ld q) x = x := e
          rw [lt x k] at e'
          rw [← e', (g1 q hq).2] at k
          exact absurd k.symm hne
        · have e' : fh_ld ld (ld p) (ld q) x = x := e
          rw [lf x k] at e'; exact e'
      · have e' : fh_ld ld (ld p) (ld q) (ld p) = ld p := e
        rw [lt _ (g1 p hp).2] at e'
        exact hne e'.symm
    omega
  · by_cases k : i < n
    · rw [fd_up_n k, fd_up_n k]
      refine ⟨(g3 i k).1, (g3 i k).2.1, ?_⟩
      unfold fh_ld; rw [(g3 i k).2.2]
    · have : i = n := by omega
      subst this
      rw [fd_up_s, fd_up_s]
      exact ⟨hp, hq, by rw [lt p rfl, lf q (Ne.symm hne)]⟩
  · have hQ' : ∀ i, i < n → Q (mo i) (mt i) := by
      intro i hi
      have := hQ i (by omega)
      rw [fd_up_n hi, fd_up_n hi] at this; exact this
    have hpq : Q p q := by
      have := hQ n (by omega)
      rw [fd_up_s, fd_up_s] at this; exact this
    have G := g4 Q a b c hQ'
    by_cases k : ld x = ld p
    · by_cases k' : ld y = ld p
      · exact G x y hx hy (k.trans k'.symm)
      · rw [lt x k, lf y k'] at e
        exact c _ _ _ (G x p hx hp k) (c _ _ _ hpq (G q y hq hy e))
    · by_cases k' : ld y = ld p
      · rw [lf x k, lt y k'] at e
        exact c _ _ _ (G x q hx hq e) (c _ _ _ (b _ _ hpq) (G p y hp hy k'.symm))
      · rw [lf x k, lf y k'] at e
        exact G x y hx hy e
  · by_cases k : i < n
    · rw [fd_up_n k, fd_up_n k]; exact g5 i k hh
    · have : i = n := by omega
      subst this
      rw [fd_up_s, fd_up_s]; exact hI hh
/-- what has been worked off -/
def fh_p (d : Nat → Nat → Nat) (f : Nat → Prop) (i : Nat) (ld mo mt : Nat → Nat) : Prop :=
  ∀ j, j < i → (f (mo j) ↔ f (mt j)) ∧ ld (d (mo j) 0) = ld (d (mt j) 0) ∧ ld (d (mo j) 1) = ld (d (mt j) 1)
theorem fh_end {x0 y0 n : Nat} {ld mo mt : Nat → Nat} (hc : ∀ x, x < 64 → d x 0 < 64 ∧ d x 1 < 64) (h : fh_v d f x0 y0 n ld mo mt) (hp : fh_p d f n ld mo mt) (hx : x0 < 64) (hy : y0 < 64) (h0 : ld x0 = ld y0) : fa_I d f x0 y0 := by
  have key := h.2.2.2.1 (fun x y => (f x ↔ f y) ∧ ld (d x 0) = ld (d y 0) ∧ ld (d x 1) = ld (d y 1)) (fun x => ⟨Iff.rfl, rfl, rfl⟩)
    (fun x y g => ⟨g.1.symm, g.2.1.symm, g.2.2.symm⟩) (fun x y z g k => ⟨g.1.trans k.1, g.2.1.trans k.2.1, g.2.2.trans k.2.2⟩) hp
  refine fa_I_of (fun x y => x < 64 ∧ y < 64 ∧ ld x = ld y) ?_ ?_ ?_ x0 y0 ⟨hx, hy, h0⟩
  · rintro x y ⟨hx, hy, e⟩; exact (key x y hx hy e).1
  · rintro x y ⟨hx, hy, e⟩; exact ⟨(hc x hx).1, (hc y hy).1, (key x y hx hy e).2.1⟩
  · rintro x y ⟨hx, hy, e⟩; exact ⟨(hc x hx).2, (hc y hy).2, (key x y hx hy e).2.2⟩
end
/-! the walk over pairs of both machines -/
def fi_s (a : Nat → Nat) (q l : Nat) : Nat := 32 * ff_st a 0 (q / 32) l + ff_st a 1 (q % 32) l
theorem fi_s_lt {a : Nat → Nat} (h : ff_ok a) (q l : Nat) : fi_s a q l < 1024 := by
  have h0 := ff_st_lt h (show 0 < 2 by omega) (q / 32) l
  have h1 := ff_st_lt h (show 1 < 2 by omega) (q % 32) l
  unfold fi_s; omega
def fi_q (b : Nat → Nat) : Nat := 32 * b 0 + b 1
def fi_EQ (a b e : Nat → Nat) : Prop := fa_I (ff_d a) (ff_f e) (b 0) (32 + b 1)
def fi_x (e : Nat → Nat) (q : Nat) : Prop := ff_g e 0 (q / 32)
def fi_y (e : Nat → Nat) (q : Nat) : Prop := ff_g e 1 (q % 32)
theorem fi_none {a b e : Nat → Nat} (ha : ff_ok a) (hb0 : b 0 < 32) (hb1 : b 1 < 32) {F : Nat} (hF : (fd_bf (fi_s a) (fi_q b) F).1 = F) (ho : fd_on (fi_s a) (fi_q b) F) :
    (∀ j, j < F → (fi_x e ((fd_bf (fi_s a) (fi_q b) F).2.1 j) ↔ fi_y e ((fd_bf (fi_s a) (fi_q b) F).2.1 j))) ↔ fi_EQ a b e := by
  have hq : fi_q b < 1024 := by unfold fi_q; omega
  have J := fd_J_bf hq (fi_s_lt ha) F ho
  have fx : ∀ q, q < 1024 → (ff_f e (q / 32) ↔ fi_x e q) := by
    intro q hq
    have := ff_f_m (e := e) (m := 0) (s := q / 32) (by omega)
    rw [Nat.mul_zero, Nat.zero_add] at this
    exact this
  have fy : ∀ q, q < 1024 → (ff_f e (32 + q % 32) ↔ fi_y e q) := by
    intro q hq
    exact ff_f_m (e := e) (m := 1) (s := q % 32) (by omega)
  have dx : ∀ q l, q < 1024 → ff_d a (q / 32) l = fi_s a q l / 32 := by
    intro q l hq
    have := ff_d_m (a := a) (m := 0) (s := q / 32) l (by omega)
    rw [Nat.mul_zero, Nat.zero_add, Nat.zero_add] at this
    rw [this]
    have h1 := ff_st_lt ha (show 1 < 2 by omega) (q % 32) l
    unfold fi_s; omega
  have dy : ∀ q l, q < 1024 → ff_d a (32 + q % 32) l = 32 + fi_s a q l % 32 := by
    intro q l hq
    have := ff_d_m (a := a) (m := 1) (s := q % 32) l (by omega)
    rw [show 32 * 1 = 32 from rfl] at this
    rw [this]
    have h1 := ff_st_lt ha (show 1 < 2 by omega) (q % 32) l
    unfold fi_s; omega
  constructor
  · intro h
    refine fa_I_of (fun x y => ∃ q, q < 1024 ∧ fd_in q (fd_bf (fi_s a) (fi_q b) F) ∧ x = q / 32 ∧ y = 32 + q % 32) ?_ ?_ ?_ (b 0) (32 + b 1) ⟨fi_q b, hq, ?_, ?_, ?_⟩
    · rintro x y ⟨q, hq, ⟨j, hj, e1⟩, rfl, rfl⟩
      rw [fx q hq, fy q hq, ← e1]
      exact h j (by omega)
    · rintro x y ⟨q, hq, ⟨j, hj, e1⟩, rfl, rfl⟩
      refine ⟨fi_s a q 0, fi_s_lt ha _ _, ?_, dx q 0 hq, dy q 0 hq⟩
      have := fd_closed hF (show j < F by omega) ho 0 (by omega)
      rw [e1] at this; exact this
    · rintro x y ⟨q, hq, ⟨j, hj, e1⟩, rfl, rfl⟩
      refine ⟨fi_s a q 1, fi_s_lt ha _ _, ?_, dx q 1 hq, dy q 1 hq⟩
      have := fd_closed hF (show j < F by omega) ho 1 (by omega)
      rw [e1] at this; exact this
    · have := fd_le_far (stp := fi_s a) (q0 := fi_q b) 0 F
      rw [Nat.zero_add] at this
      exact fd_in_le this ⟨0, Nat.one_pos, rfl⟩
    · unfold fi_q; omega
    · unfold fi_q; omega
  · intro h j hj
    have key := fd_all J (fun q => q < 1024 ∧ fa_I (ff_d a) (ff_f e) (q / 32) (32 + q % 32)) ⟨hq, by
      rw [show fi_q b / 32 = b 0 by unfold fi_q; omega, show fi_q b % 32 = b 1 by unfold fi_q; omega]; exact h⟩ (fun q l hl g => ?_) j (by omega)
    · rw [← fx _ key.1, ← fy _ key.1]
      exact fa_I_f key.2
    · refine ⟨fi_s_lt ha _ _, ?_⟩
      rw [← dx q l g.1, ← dy q l g.1]
      have hl' : l = 0 ∨ l = 1 := by omega
      rcases hl' with rfl | rfl
      · exact fa_I_s0 g.2
      · exact fa_I_s1 g.2
theorem fi_z {a b : Nat → Nat} (ha : ff_ok a) (hb0 : b 0 < 32) (hb1 : b 1 < 32) : ∀ t, fd_z (fi_s a) (fi_q b) t = 32 * fb_it (ff_r a 0 0) t (b 0) + fb_it (ff_r a 1 0) t (b 1) := by
  intro t
  induction t with
  | zero => rfl
  | succ t ih =>
    have h0 := fb_it_lt (ff_B ha (show 0 < 2 by omega) (show 0 < 2 by omega)) hb0 t
    have h1 := fb_it_lt (ff_B ha (show 1 < 2 by omega) (show 0 < 2 by omega)) hb1 t
    rw [fd_z, ih]
    show 32 * fb_u (ff_r a 0 0) _ + fb_u (ff_r a 1 0) _ = _
    rw [show (32 * fb_it (ff_r a 0 0) t (b 0) + fb_it (ff_r a 1 0) t (b 1)) / 32 = fb_it (ff_r a 0 0) t (b 0) by omega,
      show (32 * fb_it (ff_r a 0 0) t (b 0) + fb_it (ff_r a 1 0) t (b 1)) % 32 = fb_it (ff_r a 1 0) t (b 1) by omega]
    rfl
/-- the word of thirty letters 0 is never the first that tells the machines apart -/
theorem fi_30 {a b e : Nat → Nat} (ha : ff_ok a) (hb0 : b 0 < 32) (hb1 : b 1 < 32) {s : fd_S} (J : fd_J (fi_s a) (fi_q b) s) {j : Nat} (hj : j < s.1) (hw : s.2.2.1 j = 2 ^ 30)
    (hn : ∀ i, i < j → (fi_x e (s.2.1 i) ↔ fi_y e (s.2.1 i))) : fi_x e (s.2.1 j) ↔ fi_y e (s.2.1 j) := by
  obtain ⟨e1, h1⟩ := fd_zero J 30 j hj hw
  have B0 := ff_B ha (show 0 < 2 by omega) (show 0 < 2 by omega)
  have B1 := ff_B ha (show 1 < 2 by omega) (show 0 < 2 by omega)
  have zx : ∀ t, fi_x e (fd_z (fi_s a) (fi_q b) t) ↔ fb_m (fb_it (ff_r a 0 0) t (b 0)) (e 0) := by
    intro t
    have := fb_it_lt B1 hb1 t
    unfold fi_x ff_g
    rw [fi_z ha hb0 hb1, show (32 * fb_it (ff_r a 0 0) t (b 0) + fb_it (ff_r a 1 0) t (b 1)) / 32 = fb_it (ff_r a 0 0) t (b 0) by omega]
  have zy : ∀ t, fi_y e (fd_z (fi_s a) (fi_q b) t) ↔ fb_m (fb_it (ff_r a 1 0) t (b 1)) (e 1) := by
    intro t
    have := fb_it_lt B1 hb1 t
    unfold fi_y ff_g
    rw [fi_z ha hb0 hb1, show (32 * fb_it (ff_r a 0 0) t (b 0) + fb_it (ff_r a 1 0) t (b 1)) % 32 = fb_it (ff_r a 1 0) t (b 1) by omega]
  rw [e1, zx, zy]
  refine fc_30 B0 B1 hb0 hb1 (e 0) (e 1) (fun k hk => ?_)
  obtain ⟨i, hi, ei⟩ := h1 k hk
  have := hn i hi
  rw [ei, zx, zy] at this
  exact this
