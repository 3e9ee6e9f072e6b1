/-! strip -/
def ds_wt (k : Nat) : Nat := if k = 0 then 0 else if k = 1 then 5 else if k = 2 then 4 else 2
def ds_gx (k : Nat) : Int := if k % 2 = 1 then -1 else 1
def ds_gy (k : Nat) : Int := if k < 2 then 1 else -1
def ds_wb (h k : Nat) : Int := if k < 2 then 0 else (h : Int) - 1
theorem wt_m : ∀ k, k < 4 → ds_m false (ds_wt k) 0 = ds_gx k ∧ ds_m false (ds_wt k) 1 = 0 ∧ ds_m false (ds_wt k) 2 = 0 ∧ ds_m false (ds_wt k) 3 = ds_gy k ∧ ds_iv false (ds_wt k) = ds_wt k ∧ ds_wt k < ds_nt false ∧ fX1_turningOfWay (nI k) = some (nI (ds_wt k)) ∧ ds_gx k * ds_gx k = 1 ∧ ds_gy k * ds_gy k = 1 := by decide +kernel
theorem wt_t {k : Nat} (hk : k < 4) (x y : Int) : ds_tx false (ds_wt k) x y = ds_gx k * x ∧ ds_ty2 false (ds_wt k) x y = ds_gy k * y := by
  obtain ⟨a, b, c, d, _⟩ := wt_m k hk
  unfold ds_tx ds_ty2
  rw [a, b, c, d]
  constructor <;> omega
def ds_str (w h : Nat) (o t : Int64) (k : Nat) (s : Int) : Prop := ∀ x y : Int, ds_P w h o t (ds_gx k * x + s) (ds_gy k * y + ds_wb h k) = ds_P w h o t x y
theorem b_255 : ∀ i, i < 64 → ds_b 255 i = decide (i < 8) := by decide +kernel
theorem n_pred {h : Nat} (h1 : 1 ≤ h) : nI h - 1 = nI (h - 1) := by
  rw [z_nI, z_nI, show (1 : Int32) = ds_z 1 from rfl, z_sub]
  congr 1; omega
theorem g_way {w h : Nat} (hk : ds_ok w h) {o t : Int64} (ho : ds_sub w h o) (ht : ds_sub w h t) (hex : Bool) {k : Nat} (hk4 : k < 4) : ∃ m o' t', fX7_shiftsOfWay (nI w) (nI h) (ds_q hex) o t (nI k) = some (m, nI w, nI h, ds_q hex, o', t') ∧ ∀ i, i < 64 → ds_b m i = (decide (i < w) && ds_d (ds_str w h o t k i)) := by
  obtain ⟨k1, k2, k3, k4⟩ := id hk
  obtain ⟨_, _, _, _, wi, wl, we, gx1, gy1⟩ := wt_m k hk4
  obtain ⟨q, o', t', e, so, st, hq, hP⟩ := p_turn hk ho ht false hex wl
  have qt : q = true := by
    rw [hq, wi]
    rw [(wt_t hk4 _ _).1, (wt_t hk4 _ _).2, (wt_t hk4 _ _).1, (wt_t hk4 _ _).2]
    constructor
    · have := St_mul (St_w (w := w) (h := h) (o := o) (t := t)) (ds_gx k)
      rw [Int.mul_zero] at this ⊢; exact this
    · have := St_mul (St_h (w := w) (h := h) (o := o) (t := t)) (ds_gy k)
      rw [Int.mul_zero] at this ⊢; exact this
  subst qt
  obtain ⟨c, ec, sc, hc⟩ := p_steps hk ho ht so st
  have hF : ∀ x y : Int, y = ds_wb h k → (ds_From w h o t o' t' x y ↔ ds_str w h o t k x) := by
    rintro x y rfl
    unfold ds_From ds_str
    constructor
    · intro hh u v
      have := hh (ds_gx k * u + x) (ds_gy k * v + ds_wb h k)
      rw [hP rfl, wi, (wt_t hk4 _ _).1, (wt_t hk4 _ _).2] at this
      rw [← this]
      congr 1
      · rw [show ds_gx k * (ds_gx k * u + x - x) = (ds_gx k * ds_gx k) * u by grind, gx1, Int.one_mul]
      · rw [show ds_gy k * (ds_gy k * v + ds_wb h k - ds_wb h k) = (ds_gy k * ds_gy k) * v by grind, gy1, Int.one_mul]
    · intro hh u v
      rw [hP rfl, wi, (wt_t hk4 _ _).1, (wt_t hk4 _ _).2, ← hh]
      congr 1
      · rw [show ds_gx k * (ds_gx k * (u - x)) + x = (ds_gx k * ds_gx k) * (u - x) + x by grind, gx1]; omega
      · rw [show ds_gy k * (ds_gy k * (v - ds_wb h k)) + ds_wb h k = (ds_gy k * ds_gy k) * (v - ds_wb h k) + ds_wb h k by grind, gy1]; omega
  have fin : ∀ r, r < h → (r : Int) = ds_wb h k → ∀ i, i < 64 → ds_b (ds_lushr c (nI (8 * r)) &&& 255) i = (decide (i < w) && ds_d (ds_str w h o t k i)) := by
    intro r hr er i hi
    rw [b_and, b_shr c (by omega), b_255 i hi]
    by_cases c1 : i < w
    · rw [decide_eq_true c1, decide_eq_true (show i < 8 by omega), Bool.and_true, Bool.true_and]
      have a := (hc i r c1 hr).trans (hF i r er)
      cases q : ds_b c (8 * r + i)
      · symm; apply d_false; intro z; rw [a.mpr z] at q; cases q
      · exact (d_true (a.mp q)).symm
    · rw [decide_eq_false c1, Bool.false_and]
      by_cases c2 : i < 8
      · cases q : ds_b c (8 * r + i)
        · rfl
        · have := (sc _ (by omega) q).1
          omega
      · rw [decide_eq_false c2, Bool.and_false]
  unfold fX7_shiftsOfWay fX7_shiftsOfWay_50
  rw [we, Option.bind_some, show (0 : Int32) = ds_q false from rfl, e, Option.bind_some]
  try dsimp only
  rw [if_neg (show ¬ ds_q true = ds_q false by decide), ec, Option.bind_some]
  by_cases c2 : k < 2
  · rw [if_pos (show nI k < 2 by rw [z_nI]; exact (z_lt (by omega) (by omega) (by omega) (by omega)).mpr (show (k : Int) < 2 by omega))]
    refine ⟨_, _, _, rfl, ?_⟩
    exact fin 0 (by omega) (by unfold ds_wb; rw [if_pos c2]; rfl)
  · rw [if_neg (show ¬ nI k < 2 by rw [z_nI]; intro z; have := (z_lt (by omega) (by omega) (by omega) (by omega)).mp (show ds_z k < ds_z 2 from z); omega)]
    refine ⟨_, _, _, rfl, ?_⟩
    rw [n_pred k3, sh_8]
    exact fin (h - 1) (by omega) (by unfold ds_wb; rw [if_neg c2]; omega)
-- the reference
theorem P_co {w h : Nat} {o t : Int64} (x y u v : Int) : ds_co o t (ds_ix w h x y) = ds_co o t (ds_ix w h u v) ↔ ds_P w h o t x y = ds_P w h o t u v := by
  rw [c_eq]; unfold ds_P ds_pt; rw [Prod.mk.injEq]
theorem P_mod {w h : Nat} (o t : Int64) (x y : Int) : ds_P w h o t x y = ds_P w h o t (x % w) (y % h) := by
  have := at_per (w := w) (h := h) o (x % w) (y % h) (x / w) (y / h)
  have t2 := at_per (w := w) (h := h) t (x % w) (y % h) (x / w) (y / h)
  rw [show x % w + w * (x / w) = x from Int.emod_add_mul_ediv x w, show y % h + h * (y / h) = y from Int.emod_add_mul_ediv y h] at this t2
  unfold ds_P; rw [this, t2]
theorem P_per {w h : Nat} (o t : Int64) (x y k m : Int) : ds_P w h o t (x + w * k) (y + h * m) = ds_P w h o t x y := by
  unfold ds_P; rw [at_per, at_per]
theorem str_fin {w h : Nat} (hk : ds_ok w h) {o t : Int64} {k : Nat} {s : Int} : ds_str w h o t k s ↔ ¬ ∃ y, y < h ∧ ∃ x, x < w ∧ ¬ ds_co o t (ds_ix w h x y) = ds_co o t (ds_ix w h (ds_gx k * x + s) (ds_gy k * y + ds_wb h k)) := by
  obtain ⟨k1, k2, k3, k4⟩ := id hk
  constructor
  · rintro hh ⟨y, _, x, _, c⟩
    exact c ((P_co _ _ _ _).mpr (hh x y).symm)
  · intro hh x y
    have hx := Int.emod_nonneg x (show (w : Int) ≠ 0 by omega)
    have hx2 := Int.emod_lt_of_pos x (show (0 : Int) < w by omega)
    have hy := Int.emod_nonneg y (show (h : Int) ≠ 0 by omega)
    have hy2 := Int.emod_lt_of_pos y (show (0 : Int) < h by omega)
    have e : ds_co o t (ds_ix w h (x % w) (y % h)) = ds_co o t (ds_ix w h (ds_gx k * (x % w) + s) (ds_gy k * (y % h) + ds_wb h k)) := by
      apply Classical.byContradiction
      intro c
      refine hh ⟨(y % h).toNat, by omega, (x % w).toNat, by omega, ?_⟩
      rw [Int.toNat_of_nonneg hx, Int.toNat_of_nonneg hy]; exact c
    have e2 := (P_co _ _ _ _).mp e
    rw [P_mod o t x y, e2, ← P_per o t (ds_gx k * (x % w) + s) (ds_gy k * (y % h) + ds_wb h k) (ds_gx k * (x / w)) (ds_gy k * (y / h))]
    have ex := Int.emod_add_mul_ediv x w
    have ey := Int.emod_add_mul_ediv y h
    congr 1
    · rw [show ds_gx k * (x % w) + s + w * (ds_gx k * (x / w)) = ds_gx k * (x % w + w * (x / w)) + s by grind, ex]
    · rw [show ds_gy k * (y % h) + ds_wb h k + h * (ds_gy k * (y / h)) = ds_gy k * (y % h + h * (y / h)) + ds_wb h k by grind, ey]
theorem m_isStrip {w h : Nat} (hk : ds_ok w h) {hex : Bool} {o t : Int64} {al : Nat → Int32} (hm : ds_MT w h hex o t al) {k : Nat} (hk4 : k < 4) {s : Nat} (hs : s < 100) : fX8_isStrip al (nI k) (nI s) = some (ds_q (ds_d (ds_str w h o t k s))) := by
  obtain ⟨k1, k2, k3, k4⟩ := id hk
  obtain ⟨m0, m1, m2, m3⟩ := id hm
  have key : ∀ (x y : Nat), x < w → y < h → ∀ a b : Int, -1000 < a → a < 1000 → -1000 < b → b < 1000 → fX8_isStrip_64 al (nI y) (nI x) (ds_z a) (ds_z b) = if ds_d (¬ ds_co o t (ds_ix w h x y) = ds_co o t (ds_ix w h a b)) then some (.inr (.inr 0)) else some (.inl (nI (x + 1))) := by
    intro x y hx hy a b a1 a2 a3 a4
    unfold fX8_isStrip_64
    rw [z_nI x, z_nI y, m_colour hk hm (by omega) (by omega) (by omega) (by omega), Option.bind_some, m_colour hk hm (by omega) (by omega) (by omega) (by omega), Option.bind_some]
    have l1 := c_lt o t (ds_ix w h x y)
    have l2 := c_lt o t (ds_ix w h a b)
    by_cases c : ds_co o t (ds_ix w h x y) = ds_co o t (ds_ix w h a b)
    · rw [if_pos (congrArg nI c), d_false (fun z => z c), ← z_nI, nI_1]; rfl
    · rw [if_neg (fun z => c ((n_inj (by omega) (by omega)).mp z)), d_true c]; rfl
  have row : ∀ y, y < h → fX8_isStrip_15 al (nI k) (nI s) (nI y) 0 = some (if ds_d (∃ x, x < w ∧ ¬ ds_co o t (ds_ix w h x y) = ds_co o t (ds_ix w h (ds_gx k * x + s) (ds_gy k * y + ds_wb h k))) then .inr 0 else .inl (nI (y + 1))) := by
    intro y hy
    unfold fX8_isStrip_15
    refine ds_any (body := fun s2 => fX8_isStrip_15_b al (nI k) (nI s) (nI y) s2) w (fun x => nI x) (fun x => ¬ ds_co o t (ds_ix w h x y) = ds_co o t (ds_ix w h (ds_gx k * x + s) (ds_gy k * y + ds_wb h k))) (Sum.inr 0) (Sum.inl (nI (y + 1))) (by omega) (fun x hx => ?_) ?_
    · unfold fX8_isStrip_15_b fX8_isStrip_41
      rw [l_0, l_1, m0, m1, if_neg (nI_ge hx (by omega)), n_pred k3]
      have e1 : (ds_z (-(x : Int))) = -nI x := by rw [z_nI, z_neg]
      have e2 : nI (h - 1) - nI y = ds_z ((h : Int) - 1 - y) := by rw [z_nI, z_nI, z_sub]; congr 1; omega
      rcases (show k = 0 ∨ k = 1 ∨ k = 2 ∨ k = 3 by omega) with rfl | rfl | rfl | rfl
      · rw [if_neg (by decide), if_pos (by decide)]
        have := key x y hx hy ((1 : Int) * x + s) ((1 : Int) * y + 0) (by omega) (by omega) (by omega) (by omega)
        rw [show nI x + nI s = ds_z ((1 : Int) * x + s) by rw [z_nI, z_nI, z_add]; congr 1; omega]
        rw [show ds_z ((1 : Int) * y + 0) = nI y by rw [z_nI]; congr 1; omega] at this
        exact this
      · rw [if_pos (by decide), if_pos (by decide)]
        have := key x y hx hy ((-1 : Int) * x + s) ((1 : Int) * y + 0) (by omega) (by omega) (by omega) (by omega)
        rw [show -nI x + nI s = ds_z ((-1 : Int) * x + s) by rw [z_nI, z_nI, z_neg, z_add]; congr 1; omega]
        rw [show ds_z ((1 : Int) * y + 0) = nI y by rw [z_nI]; congr 1; omega] at this
        exact this
      · rw [if_neg (by decide), if_neg (by decide)]
        have := key x y hx hy ((1 : Int) * x + s) ((-1 : Int) * y + ((h : Int) - 1)) (by omega) (by omega) (by omega) (by omega)
        rw [show nI x + nI s = ds_z ((1 : Int) * x + s) by rw [z_nI, z_nI, z_add]; congr 1; omega, e2, show (h : Int) - 1 - y = (-1 : Int) * y + ((h : Int) - 1) by omega]
        exact this
      · rw [if_pos (by decide), if_neg (by decide)]
        have := key x y hx hy ((-1 : Int) * x + s) ((-1 : Int) * y + ((h : Int) - 1)) (by omega) (by omega) (by omega) (by omega)
        rw [show -nI x + nI s = ds_z ((-1 : Int) * x + s) by rw [z_nI, z_nI, z_neg, z_add]; congr 1; omega, e2, show (h : Int) - 1 - y = (-1 : Int) * y + ((h : Int) - 1) by omega]
        exact this
    · unfold fX8_isStrip_15_b fX8_isStrip_92
      rw [l_0, m0, if_pos (nI_le (Nat.le_refl _) (by omega)), nI_1]; rfl
  unfold fX8_isStrip fX8_isStrip_2
  have fin := ds_any (body := fun s2 => fX8_isStrip_2_b al (nI k) (nI s) s2) h (fun y => nI y) (fun y => ∃ x, x < w ∧ ¬ ds_co o t (ds_ix w h x y) = ds_co o t (ds_ix w h (ds_gx k * x + s) (ds_gy k * y + ds_wb h k))) 0 1 (by omega) (fun y hy => ?_) ?_
  · refine fin.trans (congrArg some ?_)
    by_cases c : ds_str w h o t k s
    · rw [d_true c, d_false (str_fin hk |>.mp c)]; rfl
    · rw [d_false c, d_true (Classical.byContradiction fun z => c ((str_fin hk).mpr z))]; rfl
  · try dsimp only
    unfold fX8_isStrip_2_b
    rw [l_1, m1, if_neg (nI_ge hy (by omega)), row y hy]
    cases ds_d (∃ x, x < w ∧ ¬ ds_co o t (ds_ix w h x y) = ds_co o t (ds_ix w h (ds_gx k * x + s) (ds_gy k * y + ds_wb h k))) <;> rfl
  · try dsimp only
    unfold fX8_isStrip_2_b
    rw [l_1, m1, if_pos (nI_le (Nat.le_refl _) (by omega))]
theorem m_strips {w h : Nat} (hk : ds_ok w h) {hex : Bool} {o t : Int64} {al : Nat → Int32} (hm : ds_MT w h hex o t al) {k : Nat} (hk4 : k < 4) : fX8_stripShifts al (nI k) = some (nI (ds_ct (fun i => ds_d (ds_str w h o t k i)) w)) := by
  obtain ⟨k1, k2, k3, k4⟩ := id hk
  obtain ⟨m0, m1, m2, m3⟩ := id hm
  unfold fX8_stripShifts fX8_stripShifts_4
  refine ds_it_up _ (fun n => (nI (ds_ct (fun i => ds_d (ds_str w h o t k i)) n), nI n)) w 1000 (some (nI (ds_ct (fun i => ds_d (ds_str w h o t k i)) w))) (fun n hn => ?_) ?_ (by omega)
  · try dsimp only
    unfold fX8_stripShifts_4_b fX8_stripShifts_29
    rw [l_0, m0, if_neg (nI_ge hn (by omega)), m_isStrip hk hm hk4 (show n < 100 by omega), Option.bind_some, nI_1]
    show _ = some (Sum.inl (nI (ds_ct (fun i => ds_d (ds_str w h o t k i)) n + (if ds_d (ds_str w h o t k n) = true then 1 else 0)), nI (n + 1)))
    generalize ds_ct (fun i : Nat => ds_d (ds_str w h o t k i)) n = C
    cases ds_d (ds_str w h o t k n)
    · rw [if_pos (show ds_q false = 0 from rfl), if_neg (by decide), show (0 : Int32) = nI 0 from rfl, nI_add]
    · rw [if_neg (show ¬ ds_q true = 0 by decide), if_pos rfl, nI_1]
  · try dsimp only
    unfold fX8_stripShifts_4_b
    rw [l_0, m0, if_pos (nI_le (Nat.le_refl _) (by omega))]; rfl
theorem q_strip {w h : Nat} (hk : ds_ok w h) {hex : Bool} {o t : Int64} (ho : ds_sub w h o) (ht : ds_sub w h t) (dw dh dx : Int32) (do_ dt : Int64) {al : Nat → Int32} (hm : ds_MT w h hex o t al) (p : Int32) :
    ∃ v dw' dh' dx' do' dt', fX7_strip (nI w) (nI h) (ds_q hex) o t dw dh dx do_ dt p = some (v, dw', dh', dx', do', dt') ∧ fX8_strip al p = some (v, 0) := by
  obtain ⟨k1, k2, k3, k4⟩ := id hk
  have cnt : ∀ k, k < 4 → ∃ m o' t', fX7_shiftsOfWay (nI w) (nI h) (ds_q hex) o t (nI k) = some (m, nI w, nI h, ds_q hex, o', t') ∧ ds_ct (ds_b m) 64 = ds_ct (fun i => ds_d (ds_str w h o t k i)) w ∧ (m &&& 1 = 0 ↔ ds_d (ds_str w h o t k 0) = false) := by
    intro k hk4
    obtain ⟨m, o', t', e, hb⟩ := g_way hk ho ht hex hk4
    refine ⟨m, o', t', e, ?_, ?_⟩
    · rw [ct_cong (q := fun i => decide (i < w) && ds_d (ds_str w h o t k i)) (fun i hi => hb i hi)]
      exact ct_cut (fun i : Nat => ds_d (ds_str w h o t k i)) (by omega)
    · have := b_low m (k := 0) (by omega)
      rw [show ds_lushr m (nI 0) = m from b_ext (fun i hi => by rw [b_shr m (by omega), Nat.zero_add]), hb 0 (by omega), decide_eq_true (by omega), Bool.true_and] at this
      exact this
  have zc : ∀ m : Int64, ∀ n, ds_ct (ds_b m) 64 = n → (m = 0 ↔ n = 0) := by
    intro m n e
    constructor
    · intro z; rw [← e, z]; exact ct_false (fun i hi => b_zero i)
    · intro z
      apply b_ext
      intro i hi
      rw [b_zero]
      cases c : ds_b m i
      · rfl
      · have := ct_strict (ds_b m) hi c; omega
  have le0 : ∀ k, k < 4 → (nI (ds_ct (fun i => ds_d (ds_str w h o t k i)) w) ≤ 0 ↔ ds_ct (fun i => ds_d (ds_str w h o t k i)) w = 0) := fun k hk4 => n_le0 (by have := ct_le (fun i => ds_d (ds_str w h o t k i)) w; omega)
  have i0 : p < 0 ↔ p.toInt < 0 := i_lt p (k := 0) (by omega) (by omega)
  have i4 : p ≤ 4 ↔ p.toInt ≤ 4 := i_le p (k := 4) (by omega) (by omega)
  have i00 : p = 0 ↔ p.toInt = 0 := i_eq p (k := 0) (by omega) (by omega)
  have il0 : p ≤ 0 ↔ p.toInt ≤ 0 := i_le p (k := 0) (by omega) (by omega)
  unfold fX7_strip fX8_strip
  rw [show fX8_in p 0 4 = _ from p_in p (a := 0) (b := 4) (by omega) (by omega) (by omega) (by omega), Option.bind_some]
  by_cases c1 : p.toInt < 0
  · rw [if_pos (i0.mpr c1), decide_eq_false (by omega), if_pos (show ds_q false = 0 from rfl)]
    exact ⟨_, _, _, _, _, _, rfl, rfl⟩
  rw [if_neg (fun z => c1 (i0.mp z))]
  by_cases c2 : p.toInt ≤ 4
  rotate_left
  · rw [if_neg (fun z => c2 (i4.mp z)), decide_eq_false (by omega), if_pos (show ds_q false = 0 from rfl)]
    exact ⟨_, _, _, _, _, _, rfl, rfl⟩
  rw [if_pos (i4.mpr c2), decide_eq_true (by omega), if_neg (show ¬ ds_q true = 0 by decide)]
  by_cases c3 : p.toInt = 0
  rotate_left
  · rw [if_neg (fun z => c3 (i00.mp z)), if_neg (fun z => by have := il0.mp z; omega)]
    obtain ⟨k, hk4, e⟩ : ∃ k, k < 4 ∧ p - 1 = nI k := ⟨(p.toInt - 1).toNat, by omega, by
      rw [z_nI, Int.toNat_of_nonneg (by omega), ← z_sub, z_of]; rfl⟩
    obtain ⟨m, o', t', e1, e2, e3⟩ := cnt k hk4
    rw [e, e1, Option.bind_some, p_bitCount, Option.bind_some, m_strips hk hm hk4, Option.bind_some, e2]
    exact ⟨_, _, _, _, _, _, rfl, rfl⟩
  rw [if_pos (i00.mpr c3), if_pos (il0.mpr (by omega))]
  obtain ⟨ma, oa, ta, ea, fa, ga⟩ := cnt 1 (by omega)
  obtain ⟨mb, ob, tb, eb, fb, gb⟩ := cnt 2 (by omega)
  obtain ⟨mc, oc, tc, ec, fc, gc⟩ := cnt 3 (by omega)
  have st : ∀ k, k < 4 → _ := fun k hk4 => m_strips hk hm hk4
  have s1 := st 1 (by omega)
  have s2 := st 2 (by omega)
  have s3 := st 3 (by omega)
  have l1 := le0 1 (by omega)
  have l2 := le0 2 (by omega)
  have l3 := le0 3 (by omega)
  have za := zc ma _ fa
  have zb := zc mb _ fb
  have zc' := zc mc _ fc
  have is := m_isStrip hk hm (show 2 < 4 by omega) (show 0 < 100 by omega)
  rw [show nI 1 = (1 : Int32) from rfl] at ea s1
  rw [show nI 2 = (2 : Int32) from rfl] at eb s2 is
  rw [show nI 3 = (3 : Int32) from rfl] at ec s3
  rw [show nI 0 = (0 : Int32) from rfl, show ((0 : Nat) : Int) = 0 from rfl] at is
  generalize ds_ct (fun i => ds_d (ds_str w h o t 1 i)) w = A at *
  generalize ds_ct (fun i => ds_d (ds_str w h o t 2 i)) w = B at *
  generalize ds_ct (fun i => ds_d (ds_str w h o t 3 i)) w = C at *
  generalize ds_d (ds_str w h o t 2 0) = D at *
  have rest : ∀ b : Bool, ∃ v dw' dh' dx' do' dt', fX7_stripClass_15 (nI w) (nI h) (ds_q hex) o t (ds_q b) = some (v, dw', dh', dx', do', dt') ∧ fX8_strip_41 0 al (ds_q b) = some (v, 0) := by
    intro b
    unfold fX7_stripClass_15 fX8_strip_41
    rw [eb, Option.bind_some, is, Option.bind_some]
    try dsimp only
    cases D
    · rw [if_pos ((b_cmp _ _).mpr (gb.mpr rfl)), if_pos (show ds_q false = 0 from rfl), s2, Option.bind_some]
      by_cases d : B = 0
      · rw [if_pos ((b_cmp _ _).mpr (zb.mpr d)), if_pos (l2.mpr d)]
        cases b
        · rw [if_pos (show ds_q false = 0 from rfl), if_pos (show ds_q false = 0 from rfl), ec, Option.bind_some, s3, Option.bind_some]
          try dsimp only
          by_cases d2 : C = 0
          · rw [if_pos ((b_cmp _ _).mpr (zc'.mpr d2)), if_pos (l3.mpr d2)]; exact ⟨_, _, _, _, _, _, rfl, rfl⟩
          · rw [if_neg (fun z => d2 (zc'.mp ((b_cmp _ _).mp z))), if_neg (fun z => d2 (l3.mp z))]; exact ⟨_, _, _, _, _, _, rfl, rfl⟩
        · exact ⟨_, _, _, _, _, _, rfl, rfl⟩
      · rw [if_neg (fun z => d (zb.mp ((b_cmp _ _).mp z))), if_neg (fun z => d (l2.mp z))]
        cases b <;> exact ⟨_, _, _, _, _, _, rfl, rfl⟩
    · rw [if_neg (fun z => by have := gb.mp ((b_cmp _ _).mp z); cases this), if_neg (show ¬ ds_q true = 0 by decide)]
      cases b <;> exact ⟨_, _, _, _, _, _, rfl, rfl⟩
  unfold fX7_stripClass
  rw [ea, Option.bind_some, s1, Option.bind_some]
  try dsimp only
  by_cases d : A = 0
  · rw [if_pos ((b_cmp _ _).mpr (za.mpr d)), if_pos (l1.mpr d)]
    obtain ⟨v, a, b, c, d, f, r1, r2⟩ := rest false
    rw [show ds_q false = (0 : Int32) from rfl] at r1 r2
    rw [r1, r2]; exact ⟨_, _, _, _, _, _, rfl, rfl⟩
  · rw [if_neg (fun z => d (za.mp ((b_cmp _ _).mp z))), if_neg (fun z => d (l1.mp z))]
    obtain ⟨v, a, b, c, d, f, r1, r2⟩ := rest true
    rw [show ds_q true = (1 : Int32) from rfl] at r1 r2
    rw [r1, r2]; exact ⟨_, _, _, _, _, _, rfl, rfl⟩
