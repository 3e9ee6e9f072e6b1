/-! images: image, again, like -/
theorem m_copies (al tx : Nat → Int32) {f t : Nat} (hf : f < 4) (ht : t < 4) (ne : f ≠ t) : ∃ al' tx', fX8_copiesText al tx (nI f) (nI t) = some (al', tx') ∧ (∀ j, j < 70 → al' (70 * t + j) = al (70 * f + j)) ∧ (∀ i, (i < 70 * t ∨ 70 * t + 70 ≤ i) → al' i = al i) ∧ (∀ j, j < 200 → tx' (200 * t + j) = vp_nar .byte (tx (200 * f + j))) ∧ ∀ i, (i < 200 * t ∨ 200 * t + 200 ≤ i) → tx' i = tx i := by
  have second : ∀ al1 : Nat → Int32, ∃ tx', fX8_copiesText_36 al1 tx (nI f) (nI t) = some (al1, tx') ∧ (∀ j, j < 200 → tx' (200 * t + j) = vp_nar .byte (tx (200 * f + j))) ∧ ∀ i, (i < 200 * t ∨ 200 * t + 200 ≤ i) → tx' i = tx i := by
    intro al1
    unfold fX8_copiesText_36 fX8_copiesText_38
    have fin := ds_it_inv (fun s : Int32 × (Nat → Int32) => fX8_copiesText_38_b al1 (nI f) (nI t) s.1 s.2) (fun k s => ∃ tx', s = (nI k, tx') ∧ (∀ j, j < k → tx' (200 * t + j) = vp_nar .byte (tx (200 * f + j))) ∧ ∀ i, (i < 200 * t ∨ 200 * t + k ≤ i) → tx' i = tx i) (fun r => ∃ tx', r = (al1, tx') ∧ (∀ j, j < 200 → tx' (200 * t + j) = vp_nar .byte (tx (200 * f + j))) ∧ ∀ i, (i < 200 * t ∨ 200 * t + 200 ≤ i) → tx' i = tx i) 200 1000 0 (0, tx) (Nat.zero_le _) ⟨tx, rfl, fun j hj => by omega, fun _ _ => rfl⟩ (by omega) ?_ ?_
    · obtain ⟨r, e, tx', rfl, q⟩ := fin
      exact ⟨tx', e, q⟩
    · rintro k s hk ⟨tx', rfl, h1, h2⟩
      left
      try dsimp only
      unfold fX8_copiesText_38_b
      rw [show (200 : Int32) = nI 200 from rfl, if_neg (nI_ge hk (by omega)), n_mul, n_mul, nI_add, nI_add, if_pos (in_nI (show 200 * f + k < 1000 by omega) (by omega)), if_pos (in_nI (show 200 * t + k < 1000 by omega) (by omega)), nI_clamp (by omega), nI_clamp (by omega), nI_1]
      refine ⟨_, rfl, _, rfl, fun j hj => ?_, fun i hi => ?_⟩
      · by_cases e : j = k
        · rw [e, upd_at, h2 _ (by omega)]
        · rw [upd_ne _ _ (by omega)]; exact h1 j (by omega)
      · rw [upd_ne _ _ (by omega)]; exact h2 i (by omega)
    · rintro s ⟨tx', rfl, h1, h2⟩
      try dsimp only
      unfold fX8_copiesText_38_b
      rw [if_pos (by decide)]
      exact ⟨_, rfl, tx', rfl, h1, h2⟩
  unfold fX8_copiesText fX8_copiesText_2
  have fin := ds_it_inv (fun s : Int32 × (Nat → Int32) => fX8_copiesText_2_b tx (nI f) (nI t) s.1 s.2) (fun k s => ∃ al', s = (nI k, al') ∧ (∀ j, j < k → al' (70 * t + j) = al (70 * f + j)) ∧ ∀ i, (i < 70 * t ∨ 70 * t + k ≤ i) → al' i = al i) (fun r => ∃ al' tx', r = (al', tx') ∧ (∀ j, j < 70 → al' (70 * t + j) = al (70 * f + j)) ∧ (∀ i, (i < 70 * t ∨ 70 * t + 70 ≤ i) → al' i = al i) ∧ (∀ j, j < 200 → tx' (200 * t + j) = vp_nar .byte (tx (200 * f + j))) ∧ ∀ i, (i < 200 * t ∨ 200 * t + 200 ≤ i) → tx' i = tx i) 70 1000 0 (0, al) (Nat.zero_le _) ⟨al, rfl, fun j hj => by omega, fun _ _ => rfl⟩ (by omega) ?_ ?_
  · obtain ⟨r, e, al', tx', rfl, q⟩ := fin
    exact ⟨al', tx', e, q⟩
  · rintro k s hk ⟨al', rfl, h1, h2⟩
    left
    try dsimp only
    unfold fX8_copiesText_2_b
    rw [show (70 : Int32) = nI 70 from rfl, if_neg (nI_ge hk (by omega)), n_mul, n_mul, nI_add, nI_add, if_pos (in_nI (show 70 * f + k < 350 by omega) (by omega)), if_pos (in_nI (show 70 * t + k < 350 by omega) (by omega)), nI_clamp (by omega), nI_clamp (by omega), nI_1]
    refine ⟨_, rfl, _, rfl, fun j hj => ?_, fun i hi => ?_⟩
    · by_cases e : j = k
      · rw [e, upd_at, h2 _ (by omega)]
      · rw [upd_ne _ _ (by omega)]; exact h1 j (by omega)
    · rw [upd_ne _ _ (by omega)]; exact h2 i (by omega)
  · rintro s ⟨al', rfl, h1, h2⟩
    try dsimp only
    unfold fX8_copiesText_2_b
    obtain ⟨tx', e, g1, g2⟩ := second al'
    rw [if_pos (by decide), e]
    exact ⟨_, rfl, al', tx', rfl, h1, h2, g1, g2⟩
def ds_PG (V : ds_TV) (len fa pl : Int32) (by_ g tx : Nat → Int32) : Prop := ds_TM V g ∧ ds_PT len by_ (g 67) tx ∧ g 68 = fa ∧ g 69 = pl
def ds_KP (fl : Int32) (V : ds_TV) (len fa pl : Int32) (by_ : Nat → Int32) (sv : Int32) (g tx : Nat → Int32) : Prop := ∃ b : Bool, fl = ds_q b ∧ sv = ds_q b ∧ (b = true → ds_PG V len fa pl by_ g tx)
theorem PG_copy {V : ds_TV} {len fa pl : Int32} {by_ by' g g' tx tx' : Nat → Int32} (hp : ds_PG V len fa pl by_ g tx) (hb : ∀ i, i < 200 → by' i = by_ i) (hg : ∀ j, j < 70 → g' j = g j) (hx : ∀ j, j < 200 → tx' j = vp_nar .byte (tx j)) : ds_PG V len fa pl by' g' tx' := by
  obtain ⟨h1, ⟨L, B, e1, e2, l, ht⟩, h3, h4⟩ := hp
  refine ⟨TM_cong h1 (fun j hj => hg j (by omega)), ⟨L, B, e1, by rw [hg 67 (by omega), e2], l, fun i hi => ?_⟩, by rw [hg 68 (by omega), h3], by rw [hg 69 (by omega), h4]⟩
  obtain ⟨a, b, c, d⟩ := ht i hi
  refine ⟨a, by rw [hb i (by omega), b], by rw [hx i (by omega), nar_255, c], fun z => ?_⟩
  rw [hx i (by omega), d z, nar_n _ z]
theorem PG_cong {V : ds_TV} {len fa pl : Int32} {by_ g g' tx tx' : Nat → Int32} (hp : ds_PG V len fa pl by_ g tx) (hg : ∀ j, j < 70 → g' j = g j) (hx : ∀ j, j < 200 → tx' j = tx j) : ds_PG V len fa pl by_ g' tx' := by
  obtain ⟨h1, ⟨L, B, e1, e2, l, ht⟩, h3, h4⟩ := hp
  refine ⟨TM_cong h1 (fun j hj => hg j (by omega)), ⟨L, B, e1, by rw [hg 67 (by omega), e2], l, fun i hi => ?_⟩, by rw [hg 68 (by omega), h3], by rw [hg 69 (by omega), h4]⟩
  rw [hx i (by omega)]
  exact ht i hi
theorem KP_cong {fl : Int32} {V : ds_TV} {len fa pl sv : Int32} {by_ g g' tx tx' : Nat → Int32} (hp : ds_KP fl V len fa pl by_ sv g tx) (hg : ∀ j, j < 70 → g' j = g j) (hx : ∀ j, j < 200 → tx' j = tx j) : ds_KP fl V len fa pl by_ sv g' tx' := by
  obtain ⟨b, e1, e2, h⟩ := hp
  exact ⟨b, e1, e2, fun z => PG_cong (h z) hg hx⟩
theorem t_copy (by0 : Nat → Int32) (len fa pl : Int32) (by_ : Nat → Int32) : ∃ by', fX5_copyFrom by0 len fa pl by_ = some (len, fa, pl, by') ∧ ∀ i, i < 200 → by' i = by_ i := by
  unfold fX5_copyFrom fX5_copyFrom_2
  have fin := ds_it_inv (fun s : Int32 × (Nat → Int32) => fX5_copyFrom_2_b len fa pl by_ s.1 s.2) (fun k s => ∃ by', s = (nI k, by') ∧ ∀ i, i < k → by' i = by_ i) (fun r => ∃ by', r = (len, fa, pl, by') ∧ ∀ i, i < 200 → by' i = by_ i) 200 1000 0 (0, by0) (Nat.zero_le _) ⟨by0, rfl, fun j hj => by omega⟩ (by omega) ?_ ?_
  · obtain ⟨r, e, by', rfl, q⟩ := fin
    exact ⟨by', e, q⟩
  · rintro k s hk ⟨by', rfl, h1⟩
    left
    try dsimp only
    unfold fX5_copyFrom_2_b
    rw [show (200 : Int32) = nI 200 from rfl, if_neg (nI_ge hk (by omega)), if_neg (nI_ge hk (by omega)), if_pos (in_nI hk (by omega)), if_pos (in_nI hk (by omega)), nI_clamp (by omega), nI_1]
    refine ⟨_, rfl, _, rfl, fun j hj => ?_⟩
    by_cases e : j = k
    · rw [e, upd_at]
    · rw [upd_ne _ _ e]; exact h1 j (by omega)
  · rintro s ⟨by', rfl, h1⟩
    try dsimp only
    unfold fX5_copyFrom_2_b fX5_copyFrom_38
    rw [if_pos (by decide)]
    exact ⟨_, rfl, by', rfl, h1⟩
theorem p_copy {W H X : Int32} {O U : Int64} {g : Nat → Int32} (hv : ds_TM (W, H, X, O, U) g) (by0 : Nat → Int32) (len fa pl : Int32) (by_ : Nat → Int32) : ∃ by', fX3_copyFrom W H X O U by0 len fa pl by_ = some (W, H, X, O, U, len, fa, pl, by') ∧ ∀ i, i < 200 → by' i = by_ i := by
  obtain ⟨w, h, hex, o, t, _, _, _, e, _⟩ := hv
  have eX : X = ds_q hex := congrArg (fun v : ds_TV => v.2.2.1) e
  obtain ⟨by', e1, e2⟩ := t_copy by0 len fa pl by_
  have cp : fX6_copyFrom W H X O U = some (W, H, X, O, U) := by unfold fX6_copyFrom; rw [if_pos (by rw [eX]; exact q_01 hex)]
  unfold fX3_copyFrom
  rw [cp, Option.bind_some, e1, Option.bind_some]
  exact ⟨by', rfl, e2⟩
theorem m_in2 (p : Int32) : fX8_in p 0 2 = some (ds_q (decide (0 ≤ p.toInt ∧ p.toInt ≤ 2))) := p_in p (a := 0) (b := 2) (by omega) (by omega) (by omega) (by omega)
theorem i_lt3 (p : Int32) : p < 3 ↔ p.toInt < 3 := i_lt p (k := 3) (by omega) (by omega)
theorem i_ge3 (p : Int32) : 3 ≤ p ↔ 3 ≤ p.toInt := i_ge p (k := 3) (by omega) (by omega)
theorem q_imgN (al tx sv : Nat → Int32) {p : Int32} (hp : p.toInt < 0 ∨ 3 ≤ p.toInt) : fX7_image_en p = some 0 ∧ fX8_image al tx sv p = some (0, 0, al, tx, sv) := by
  unfold fX7_image_en fX8_image
  rw [m_in2, decide_eq_false (by omega)]
  refine ⟨?_, rfl⟩
  by_cases c : p.toInt < 0
  · rw [if_pos ((i_lt0 p).mpr c)]
  · rw [if_neg (fun z => c ((i_lt0 p).mp z)), if_pos ((i_ge3 p).mpr (by omega))]
theorem imgOfN {p : Int32} (hp : p.toInt < 0 ∨ 3 ≤ p.toInt) : fX7_imageOf_en p = some (-1) := by
  unfold fX7_imageOf_en
  by_cases c : p.toInt < 0
  · rw [if_pos ((i_lt0 p).mpr c)]
  · rw [if_neg (fun z => c ((i_lt0 p).mp z)), if_neg (fun z => by have := (i_lt3 p).mp z; omega)]
theorem q_agaN (ud : Int32) (sv al tx : Nat → Int32) {p : Int32} (hp : p.toInt < 0 ∨ 3 ≤ p.toInt) : fX7_again_en p = some 0 ∧ fX8_again ud sv al tx p = some (0, 0, ud, al, tx) := by
  unfold fX7_again_en fX8_again
  rw [m_in2, decide_eq_false (by omega), imgOfN hp]
  exact ⟨rfl, rfl⟩
theorem q_likN (sv al sr : Nat → Int32) {p : Int32} (hp : p.toInt < 0 ∨ 3 ≤ p.toInt) : fX7_like_en p = some (-2) ∧ fX8_like sv al ds_tabF sr p = some (-2, 0, sr) := by
  unfold fX7_like_en fX8_like
  rw [m_in2, decide_eq_false (by omega), imgOfN hp]
  exact ⟨rfl, rfl⟩
theorem m_image {al tx sv : Nat → Int32} {k : Nat} (hk : k < 3) : ∃ al' tx', fX8_image al tx sv (nI k) = some (1, 0, al', tx', upd sv k 1) ∧ (∀ j, j < 70 → al' (70 * (k + 1) + j) = al j) ∧ (∀ i, (i < 70 * (k + 1) ∨ 70 * (k + 1) + 70 ≤ i) → al' i = al i) ∧ (∀ j, j < 200 → tx' (200 * (k + 1) + j) = vp_nar .byte (tx j)) ∧ ∀ i, (i < 200 * (k + 1) ∨ 200 * (k + 1) + 200 ≤ i) → tx' i = tx i := by
  obtain ⟨al', tx', e, g1, g2, g3, g4⟩ := m_copies al tx (f := 0) (t := k + 1) (by omega) (by omega) (by omega)
  unfold fX8_image
  rw [m_in2, n_toInt (by omega), decide_eq_true (by omega), Option.bind_some, if_neg (show ¬ ds_q true = 0 by decide), nI_1, show (0 : Int32) = nI 0 from rfl, e, Option.bind_some, if_pos (in_nI hk (by omega)), nI_clamp (by omega)]
  refine ⟨al', tx', rfl, fun j hj => by rw [g1 j hj, Nat.mul_zero, Nat.zero_add], g2, fun j hj => by rw [g3 j hj, Nat.mul_zero, Nat.zero_add], g4⟩
theorem m_again {ud : Int32} {sv al tx : Nat → Int32} {k : Nat} (hk : k < 3) : (sv k = 0 → fX8_again ud sv al tx (nI k) = some (0, 0, ud, al, tx)) ∧ (¬ sv k = 0 → ∃ al' tx', fX8_again ud sv al tx (nI k) = some (1, 0, 0, al', tx') ∧ (∀ j, j < 70 → al' j = al (70 * (k + 1) + j)) ∧ (∀ i, 70 ≤ i → al' i = al i) ∧ (∀ j, j < 200 → tx' j = vp_nar .byte (tx (200 * (k + 1) + j))) ∧ ∀ i, 200 ≤ i → tx' i = tx i) := by
  obtain ⟨al', tx', e, g1, g2, g3, g4⟩ := m_copies al tx (f := k + 1) (t := 0) (by omega) (by omega) (by omega)
  unfold fX8_again
  rw [m_in2, n_toInt (by omega), decide_eq_true (by omega), Option.bind_some, if_neg (show ¬ ds_q true = 0 by decide), if_pos (in_nI hk (by omega)), nI_clamp (by omega)]
  constructor
  · intro z; rw [if_pos z]
  · intro z
    rw [if_neg z, nI_1, show (0 : Int32) = nI 0 from rfl, e, Option.bind_some]
    refine ⟨al', tx', rfl, fun j hj => ?_, fun i hi => g2 i (by omega), fun j hj => ?_, fun i hi => g4 i (by omega)⟩
    · have := g1 j hj; rw [Nat.mul_zero, Nat.zero_add] at this; exact this
    · have := g3 j hj; rw [Nat.mul_zero, Nat.zero_add] at this; exact this
theorem q_img0 {w h : Nat} (hk : ds_ok w h) {hex : Bool} {o t : Int64} (ho : ds_sub w h o) (ht : ds_sub w h t) {al tx : Nat → Int32} (hm : ds_MT w h hex o t al) {len fa pl : Int32} {by_ : Nat → Int32} (hp : ds_PT len by_ (al 67) tx) (h1 : al 68 = fa) (h2 : al 69 = pl) (sv : Nat → Int32) (fl kw kh kx : Int32) (ko kt : Int64) (kl kf kp : Int32) (kb : Nat → Int32) :
    ∃ by' al' tx', fX7_image_e0 fl (nI w) (nI h) (ds_q hex) o t kw kh kx ko kt kl kf kp kb len fa pl by_ (nI 0) = some (1, 1, nI w, nI h, ds_q hex, o, t, len, fa, pl, by') ∧ fX8_image al tx sv (nI 0) = some (1, 0, al', tx', upd sv 0 1) ∧ ds_PG (nI w, nI h, ds_q hex, o, t) len fa pl by' (fun j => al' (70 + j)) (fun j => tx' (200 + j)) ∧ (∀ i, (i < 70 ∨ 140 ≤ i) → al' i = al i) ∧ ∀ i, (i < 200 ∨ 400 ≤ i) → tx' i = tx i := by
  have tm : ds_TM (nI w, nI h, ds_q hex, o, t) al := ⟨w, h, hex, o, t, hk, ho, ht, rfl, hm⟩
  obtain ⟨by', e1, e2⟩ := p_copy tm kb len fa pl by_
  obtain ⟨al', tx', e3, g1, g2, g3, g4⟩ := m_image (al := al) (tx := tx) (sv := sv) (show 0 < 3 by omega)
  unfold fX7_image_e0
  rw [if_neg (show ¬ nI 0 < 0 by decide), if_neg (show ¬ (3 : Int32) ≤ nI 0 by decide), if_pos (show nI 0 = 0 from rfl), e1, Option.bind_some, e3]
  exact ⟨by', al', tx', rfl, rfl, PG_copy ⟨tm, hp, h1, h2⟩ e2 (fun j hj => g1 j hj) (fun j hj => g3 j hj), g2, g4⟩
theorem q_aga0 {al tx sv : Nat → Int32} {fl W H X : Int32} {O U : Int64} {kl kf kp : Int32} {kb : Nat → Int32} (hK : ds_KP fl (W, H, X, O, U) kl kf kp kb (sv 0) (fun j => al (70 + j)) (fun j => tx (200 + j))) (ud sz nw nh nhx : Int32) (no nt : Int64) (len fa pl : Int32) (by_ : Nat → Int32) :
    (sv 0 = 0 ∧ fX7_again_e0 fl W H X O U nw nh nhx no nt len fa pl by_ kl kf kp kb sz (nI 0) = some (0, nw, nh, nhx, no, nt, len, fa, pl, by_, sz) ∧ fX8_again ud sv al tx (nI 0) = some (0, 0, ud, al, tx)) ∨ (∃ by' al' tx', fX7_again_e0 fl W H X O U nw nh nhx no nt len fa pl by_ kl kf kp kb sz (nI 0) = some (1, W, H, X, O, U, kl, kf, kp, by', 0) ∧ fX8_again ud sv al tx (nI 0) = some (1, 0, 0, al', tx') ∧ ds_PG (W, H, X, O, U) kl kf kp by' al' tx' ∧ (∀ i, 70 ≤ i → al' i = al i) ∧ ∀ i, 200 ≤ i → tx' i = tx i) := by
  obtain ⟨b, eb1, eb2, hb⟩ := hK
  obtain ⟨r1, r2⟩ := m_again (ud := ud) (sv := sv) (al := al) (tx := tx) (show 0 < 3 by omega)
  subst eb1
  unfold fX7_again_e0 fX7_imageOf_e0
  rw [if_neg (show ¬ nI 0 < 0 by decide), if_pos (show nI 0 < 3 by decide), if_pos (show nI 0 = 0 from rfl)]
  cases b
  · left
    have z : sv 0 = 0 := eb2
    rw [r1 z]
    exact ⟨z, rfl, rfl⟩
  · right
    have z : ¬ sv 0 = 0 := by rw [eb2]; decide
    obtain ⟨al', tx', e, g1, g2, g3, g4⟩ := r2 z
    have pg := hb rfl
    obtain ⟨by', e1, e2⟩ := p_copy pg.1 by_ kl kf kp kb
    unfold fX4_clear
    rw [if_neg (show ¬ ds_q true = 0 by decide), Option.bind_some, if_pos rfl, e1, Option.bind_some, Option.bind_some, e]
    exact ⟨by', al', tx', rfl, rfl, PG_copy pg e2 (fun j hj => g1 j hj) (fun j hj => g3 j hj), g2, g4⟩
theorem q_lik0 {w h : Nat} (hk : ds_ok w h) {hex : Bool} {o t : Int64} (ho : ds_sub w h o) (ht : ds_sub w h t) {al tx sv sr : Nat → Int32} (hm : ds_MT w h hex o t al) (h01 : ds_01 sr) {fl W H X : Int32} {O U : Int64} {kl kf kp : Int32} {kb : Nat → Int32} (hK : ds_KP fl (W, H, X, O, U) kl kf kp kb (sv 0) (fun j => al (70 + j)) (fun j => tx (200 + j))) (dw dh dx : Int32) (do_ dt : Int64) :
    ∃ v dw' dh' dx' do' dt' sr', fX7_like_e0 fl (nI w) (nI h) (ds_q hex) o t W H X O U dw dh dx do_ dt (nI 0) = some (v, dw', dh', dx', do', dt') ∧ fX8_like sv al ds_tabF sr (nI 0) = some (v, 0, sr') ∧ ds_01 sr' := by
  obtain ⟨b, eb1, eb2, hb⟩ := hK
  obtain ⟨m0, m1, m2, m3⟩ := id hm
  obtain ⟨k1, k2, k3, k4⟩ := id hk
  subst eb1
  unfold fX7_like_e0 fX7_imageOf_e0 fX8_like
  have ix : (70 : Int32) * (nI 0 + 1) = nI 70 := by decide
  have ix1 : nI 70 + 1 = nI 71 := by decide
  have ix2 : nI 70 + 2 = nI 72 := by decide
  rw [if_neg (show ¬ nI 0 < 0 by decide), if_pos (show nI 0 < 3 by decide), if_pos (show nI 0 = 0 from rfl), m_in2, n_toInt (by omega), decide_eq_true (by omega), Option.bind_some, if_neg (show ¬ ds_q true = 0 by decide), ix, ix1, ix2, if_pos (in_nI (show 0 < 3 by omega) (by omega)), if_pos (in_nI (show 70 < 350 by omega) (by omega)), if_pos (in_nI (show 71 < 350 by omega) (by omega)), if_pos (in_nI (show 72 < 350 by omega) (by omega)), nI_clamp (show 0 < 2 ^ 31 by omega), nI_clamp (show 70 < 2 ^ 31 by omega), nI_clamp (show 71 < 2 ^ 31 by omega), nI_clamp (show 72 < 2 ^ 31 by omega), l_0, l_1, l_2, m0, m1, m2]
  cases b
  · have z : sv 0 = 0 := eb2
    rw [if_pos z]
    exact ⟨_, _, _, _, _, _, _, rfl, rfl, h01⟩
  · have z : ¬ sv 0 = 0 := by rw [eb2]; decide
    obtain ⟨⟨pw, ph, pex, po, pt, pk, pso, pst, eV, pm⟩, _⟩ := hb rfl
    obtain ⟨q0, q1, q2, q3⟩ := id pm
    obtain ⟨p1, p2, p3, p4⟩ := id pk
    rw [Prod.mk.injEq, Prod.mk.injEq, Prod.mk.injEq, Prod.mk.injEq] at eV
    obtain ⟨rfl, rfl, rfl, rfl, rfl⟩ := eV
    have q0' : al 70 = nI pw := q0
    have q1' : al 71 = nI ph := q1
    have q2' : al 72 = ds_q pex := q2
    rw [if_neg z, if_neg (show ¬ ds_q true = 0 by decide), Option.bind_some, if_pos rfl, q0', q1', q2']
    unfold fX6_sizedAs
    by_cases c1 : pw = w
    rotate_left
    · have c1' : ¬ nI pw = nI w := fun z => c1 ((n_inj (by omega) (by omega)).mp z)
      rw [if_neg c1', if_neg (fun z => c1' z.symm)]
      exact ⟨_, _, _, _, _, _, _, rfl, rfl, h01⟩
    subst c1
    rw [if_pos rfl, if_pos rfl]
    by_cases c2 : ph = h
    rotate_left
    · have c2' : ¬ nI ph = nI h := fun z => c2 ((n_inj (by omega) (by omega)).mp z)
      rw [if_neg c2', if_neg (fun z => c2' z.symm)]
      exact ⟨_, _, _, _, _, _, _, rfl, rfl, h01⟩
    subst c2
    rw [if_pos rfl, if_pos rfl]
    by_cases c3 : pex = hex
    rotate_left
    · have c3' : ¬ ds_q pex = ds_q hex := fun z => c3 (q_inj z)
      rw [if_neg c3', if_neg (fun z => c3' z.symm)]
      exact ⟨_, _, _, _, _, _, _, rfl, rfl, h01⟩
    subst c3
    obtain ⟨sr', e2, s01, sv'⟩ := m_lays hk hm h01
    rw [if_pos rfl, if_pos rfl, Option.bind_some, if_neg (show ¬ (1 : Int32) = 0 by decide), e2, Option.bind_some]
    obtain ⟨v, dw', dh', dx', do', dt', l1, l2⟩ := like_loop hk ho ht pso pst hm s01 sv' (show 0 < 3 by omega) (fun i hi => q3 i hi) dw dh dx do_ dt
    rw [l2, l1]
    exact ⟨_, _, _, _, _, _, _, rfl, rfl, s01⟩
theorem q_img1 {w h : Nat} (hk : ds_ok w h) {hex : Bool} {o t : Int64} (ho : ds_sub w h o) (ht : ds_sub w h t) {al tx : Nat → Int32} (hm : ds_MT w h hex o t al) {len fa pl : Int32} {by_ : Nat → Int32} (hp : ds_PT len by_ (al 67) tx) (h1 : al 68 = fa) (h2 : al 69 = pl) (sv : Nat → Int32) (fl kw kh kx : Int32) (ko kt : Int64) (kl kf kp : Int32) (kb : Nat → Int32) :
    ∃ by' al' tx', fX7_image_e1 fl (nI w) (nI h) (ds_q hex) o t kw kh kx ko kt kl kf kp kb len fa pl by_ (nI 1) = some (1, 1, nI w, nI h, ds_q hex, o, t, len, fa, pl, by') ∧ fX8_image al tx sv (nI 1) = some (1, 0, al', tx', upd sv 1 1) ∧ ds_PG (nI w, nI h, ds_q hex, o, t) len fa pl by' (fun j => al' (140 + j)) (fun j => tx' (400 + j)) ∧ (∀ i, (i < 140 ∨ 210 ≤ i) → al' i = al i) ∧ ∀ i, (i < 400 ∨ 600 ≤ i) → tx' i = tx i := by
  have tm : ds_TM (nI w, nI h, ds_q hex, o, t) al := ⟨w, h, hex, o, t, hk, ho, ht, rfl, hm⟩
  obtain ⟨by', e1, e2⟩ := p_copy tm kb len fa pl by_
  obtain ⟨al', tx', e3, g1, g2, g3, g4⟩ := m_image (al := al) (tx := tx) (sv := sv) (show 1 < 3 by omega)
  unfold fX7_image_e1
  rw [if_neg (show ¬ nI 1 < 0 by decide), if_neg (show ¬ (3 : Int32) ≤ nI 1 by decide), if_pos (show nI 1 = 1 from rfl), e1, Option.bind_some, e3]
  exact ⟨by', al', tx', rfl, rfl, PG_copy ⟨tm, hp, h1, h2⟩ e2 (fun j hj => g1 j hj) (fun j hj => g3 j hj), g2, g4⟩
theorem q_aga1 {al tx sv : Nat → Int32} {fl W H X : Int32} {O U : Int64} {kl kf kp : Int32} {kb : Nat → Int32} (hK : ds_KP fl (W, H, X, O, U) kl kf kp kb (sv 1) (fun j => al (140 + j)) (fun j => tx (400 + j))) (ud sz nw nh nhx : Int32) (no nt : Int64) (len fa pl : Int32) (by_ : Nat → Int32) :
    (sv 1 = 0 ∧ fX7_again_e1 fl W H X O U nw nh nhx no nt len fa pl by_ kl kf kp kb sz (nI 1) = some (0, nw, nh, nhx, no, nt, len, fa, pl, by_, sz) ∧ fX8_again ud sv al tx (nI 1) = some (0, 0, ud, al, tx)) ∨ (∃ by' al' tx', fX7_again_e1 fl W H X O U nw nh nhx no nt len fa pl by_ kl kf kp kb sz (nI 1) = some (1, W, H, X, O, U, kl, kf, kp, by', 0) ∧ fX8_again ud sv al tx (nI 1) = some (1, 0, 0, al', tx') ∧ ds_PG (W, H, X, O, U) kl kf kp by' al' tx' ∧ (∀ i, 70 ≤ i → al' i = al i) ∧ ∀ i, 200 ≤ i → tx' i = tx i) := by
  obtain ⟨b, eb1, eb2, hb⟩ := hK
  obtain ⟨r1, r2⟩ := m_again (ud := ud) (sv := sv) (al := al) (tx := tx) (show 1 < 3 by omega)
  subst eb1
  unfold fX7_again_e1 fX7_imageOf_e1
  rw [if_neg (show ¬ nI 1 < 0 by decide), if_pos (show nI 1 < 3 by decide), if_pos (show nI 1 = 1 from rfl)]
  cases b
  · left
    have z : sv 1 = 0 := eb2
    rw [r1 z]
    exact ⟨z, rfl, rfl⟩
  · right
    have z : ¬ sv 1 = 0 := by rw [eb2]; decide
    obtain ⟨al', tx', e, g1, g2, g3, g4⟩ := r2 z
    have pg := hb rfl
    obtain ⟨by', e1, e2⟩ := p_copy pg.1 by_ kl kf kp kb
    unfold fX4_clear
    rw [if_neg (show ¬ ds_q true = 0 by decide), Option.bind_some, if_pos rfl, e1, Option.bind_some, Option.bind_some, e]
    exact ⟨by', al', tx', rfl, rfl, PG_copy pg e2 (fun j hj => g1 j hj) (fun j hj => g3 j hj), g2, g4⟩
theorem q_lik1 {w h : Nat} (hk : ds_ok w h) {hex : Bool} {o t : Int64} (ho : ds_sub w h o) (ht : ds_sub w h t) {al tx sv sr : Nat → Int32} (hm : ds_MT w h hex o t al) (h01 : ds_01 sr) {fl W H X : Int32} {O U : Int64} {kl kf kp : Int32} {kb : Nat → Int32} (hK : ds_KP fl (W, H, X, O, U) kl kf kp kb (sv 1) (fun j => al (140 + j)) (fun j => tx (400 + j))) (dw dh dx : Int32) (do_ dt : Int64) :
    ∃ v dw' dh' dx' do' dt' sr', fX7_like_e1 fl (nI w) (nI h) (ds_q hex) o t W H X O U dw dh dx do_ dt (nI 1) = some (v, dw', dh', dx', do', dt') ∧ fX8_like sv al ds_tabF sr (nI 1) = some (v, 0, sr') ∧ ds_01 sr' := by
  obtain ⟨b, eb1, eb2, hb⟩ := hK
  obtain ⟨m0, m1, m2, m3⟩ := id hm
  obtain ⟨k1, k2, k3, k4⟩ := id hk
  subst eb1
  unfold fX7_like_e1 fX7_imageOf_e1 fX8_like
  have ix : (70 : Int32) * (nI 1 + 1) = nI 140 := by decide
  have ix1 : nI 140 + 1 = nI 141 := by decide
  have ix2 : nI 140 + 2 = nI 142 := by decide
  rw [if_neg (show ¬ nI 1 < 0 by decide), if_pos (show nI 1 < 3 by decide), if_pos (show nI 1 = 1 from rfl), m_in2, n_toInt (by omega), decide_eq_true (by omega), Option.bind_some, if_neg (show ¬ ds_q true = 0 by decide), ix, ix1, ix2, if_pos (in_nI (show 1 < 3 by omega) (by omega)), if_pos (in_nI (show 140 < 350 by omega) (by omega)), if_pos (in_nI (show 141 < 350 by omega) (by omega)), if_pos (in_nI (show 142 < 350 by omega) (by omega)), nI_clamp (show 1 < 2 ^ 31 by omega), nI_clamp (show 140 < 2 ^ 31 by omega), nI_clamp (show 141 < 2 ^ 31 by omega), nI_clamp (show 142 < 2 ^ 31 by omega), l_0, l_1, l_2, m0, m1, m2]
  cases b
  · have z : sv 1 = 0 := eb2
    rw [if_pos z]
    exact ⟨_, _, _, _, _, _, _, rfl, rfl, h01⟩
  · have z : ¬ sv 1 = 0 := by rw [eb2]; decide
    obtain ⟨⟨pw, ph, pex, po, pt, pk, pso, pst, eV, pm⟩, _⟩ := hb rfl
    obtain ⟨q0, q1, q2, q3⟩ := id pm
    obtain ⟨p1, p2, p3, p4⟩ := id pk
    rw [Prod.mk.injEq, Prod.mk.injEq, Prod.mk.injEq, Prod.mk.injEq] at eV
    obtain ⟨rfl, rfl, rfl, rfl, rfl⟩ := eV
    have q0' : al 140 = nI pw := q0
    have q1' : al 141 = nI ph := q1
    have q2' : al 142 = ds_q pex := q2
    rw [if_neg z, if_neg (show ¬ ds_q true = 0 by decide), Option.bind_some, if_pos rfl, q0', q1', q2']
    unfold fX6_sizedAs
    by_cases c1 : pw = w
    rotate_left
    · have c1' : ¬ nI pw = nI w := fun z => c1 ((n_inj (by omega) (by omega)).mp z)
      rw [if_neg c1', if_neg (fun z => c1' z.symm)]
      exact ⟨_, _, _, _, _, _, _, rfl, rfl, h01⟩
    subst c1
    rw [if_pos rfl, if_pos rfl]
    by_cases c2 : ph = h
    rotate_left
    · have c2' : ¬ nI ph = nI h := fun z => c2 ((n_inj (by omega) (by omega)).mp z)
      rw [if_neg c2', if_neg (fun z => c2' z.symm)]
      exact ⟨_, _, _, _, _, _, _, rfl, rfl, h01⟩
    subst c2
    rw [if_pos rfl, if_pos rfl]
    by_cases c3 : pex = hex
    rotate_left
    · have c3' : ¬ ds_q pex = ds_q hex := fun z => c3 (q_inj z)
      rw [if_neg c3', if_neg (fun z => c3' z.symm)]
      exact ⟨_, _, _, _, _, _, _, rfl, rfl, h01⟩
    subst c3
    obtain ⟨sr', e2, s01, sv'⟩ := m_lays hk hm h01
    rw [if_pos rfl, if_pos rfl, Option.bind_some, if_neg (show ¬ (1 : Int32) = 0 by decide), e2, Option.bind_some]
    obtain ⟨v, dw', dh', dx', do', dt', l1, l2⟩ := like_loop hk ho ht pso pst hm s01 sv' (show 1 < 3 by omega) (fun i hi => q3 i hi) dw dh dx do_ dt
    rw [l2, like_e1, l1]
    exact ⟨_, _, _, _, _, _, _, rfl, rfl, s01⟩
theorem q_img2 {w h : Nat} (hk : ds_ok w h) {hex : Bool} {o t : Int64} (ho : ds_sub w h o) (ht : ds_sub w h t) {al tx : Nat → Int32} (hm : ds_MT w h hex o t al) {len fa pl : Int32} {by_ : Nat → Int32} (hp : ds_PT len by_ (al 67) tx) (h1 : al 68 = fa) (h2 : al 69 = pl) (sv : Nat → Int32) (fl kw kh kx : Int32) (ko kt : Int64) (kl kf kp : Int32) (kb : Nat → Int32) :
    ∃ by' al' tx', fX7_image_e2 fl (nI w) (nI h) (ds_q hex) o t kw kh kx ko kt kl kf kp kb len fa pl by_ (nI 2) = some (1, 1, nI w, nI h, ds_q hex, o, t, len, fa, pl, by') ∧ fX8_image al tx sv (nI 2) = some (1, 0, al', tx', upd sv 2 1) ∧ ds_PG (nI w, nI h, ds_q hex, o, t) len fa pl by' (fun j => al' (210 + j)) (fun j => tx' (600 + j)) ∧ (∀ i, (i < 210 ∨ 280 ≤ i) → al' i = al i) ∧ ∀ i, (i < 600 ∨ 800 ≤ i) → tx' i = tx i := by
  have tm : ds_TM (nI w, nI h, ds_q hex, o, t) al := ⟨w, h, hex, o, t, hk, ho, ht, rfl, hm⟩
  obtain ⟨by', e1, e2⟩ := p_copy tm kb len fa pl by_
  obtain ⟨al', tx', e3, g1, g2, g3, g4⟩ := m_image (al := al) (tx := tx) (sv := sv) (show 2 < 3 by omega)
  unfold fX7_image_e2
  rw [if_neg (show ¬ nI 2 < 0 by decide), if_neg (show ¬ (3 : Int32) ≤ nI 2 by decide), if_pos (show nI 2 = 2 from rfl), e1, Option.bind_some, e3]
  exact ⟨by', al', tx', rfl, rfl, PG_copy ⟨tm, hp, h1, h2⟩ e2 (fun j hj => g1 j hj) (fun j hj => g3 j hj), g2, g4⟩
theorem q_aga2 {al tx sv : Nat → Int32} {fl W H X : Int32} {O U : Int64} {kl kf kp : Int32} {kb : Nat → Int32} (hK : ds_KP fl (W, H, X, O, U) kl kf kp kb (sv 2) (fun j => al (210 + j)) (fun j => tx (600 + j))) (ud sz nw nh nhx : Int32) (no nt : Int64) (len fa pl : Int32) (by_ : Nat → Int32) :
    (sv 2 = 0 ∧ fX7_again_e2 fl W H X O U nw nh nhx no nt len fa pl by_ kl kf kp kb sz (nI 2) = some (0, nw, nh, nhx, no, nt, len, fa, pl, by_, sz) ∧ fX8_again ud sv al tx (nI 2) = some (0, 0, ud, al, tx)) ∨ (∃ by' al' tx', fX7_again_e2 fl W H X O U nw nh nhx no nt len fa pl by_ kl kf kp kb sz (nI 2) = some (1, W, H, X, O, U, kl, kf, kp, by', 0) ∧ fX8_again ud sv al tx (nI 2) = some (1, 0, 0, al', tx') ∧ ds_PG (W, H, X, O, U) kl kf kp by' al' tx' ∧ (∀ i, 70 ≤ i → al' i = al i) ∧ ∀ i, 200 ≤ i → tx' i = tx i) := by
  obtain ⟨b, eb1, eb2, hb⟩ := hK
  obtain ⟨r1, r2⟩ := m_again (ud := ud) (sv := sv) (al := al) (tx := tx) (show 2 < 3 by omega)
  subst eb1
  unfold fX7_again_e2 fX7_imageOf_e2
  rw [if_neg (show ¬ nI 2 < 0 by decide), if_pos (show nI 2 < 3 by decide), if_pos (show nI 2 = 2 from rfl)]
  cases b
  · left
    have z : sv 2 = 0 := eb2
    rw [r1 z]
    exact ⟨z, rfl, rfl⟩
  · right
    have z : ¬ sv 2 = 0 := by rw [eb2]; decide
    obtain ⟨al', tx', e, g1, g2, g3, g4⟩ := r2 z
    have pg := hb rfl
    obtain ⟨by', e1, e2⟩ := p_copy pg.1 by_ kl kf kp kb
    unfold fX4_clear
    rw [if_neg (show ¬ ds_q true = 0 by decide), Option.bind_some, if_pos rfl, e1, Option.bind_some, Option.bind_some, e]
    exact ⟨by', al', tx', rfl, rfl, PG_copy pg e2 (fun j hj => g1 j hj) (fun j hj => g3 j hj), g2, g4⟩
theorem q_lik2 {w h : Nat} (hk : ds_ok w h) {hex : Bool} {o t : Int64} (ho : ds_sub w h o) (ht : ds_sub w h t) {al tx sv sr : Nat → Int32} (hm : ds_MT w h hex o t al) (h01 : ds_01 sr) {fl W H X : Int32} {O U : Int64} {kl kf kp : Int32} {kb : Nat → Int32} (hK : ds_KP fl (W, H, X, O, U) kl kf kp kb (sv 2) (fun j => al (210 + j)) (fun j => tx (600 + j))) (dw dh dx : Int32) (do_ dt : Int64) :
    ∃ v dw' dh' dx' do' dt' sr', fX7_like_e2 fl (nI w) (nI h) (ds_q hex) o t W H X O U dw dh dx do_ dt (nI 2) = some (v, dw', dh', dx', do', dt') ∧ fX8_like sv al ds_tabF sr (nI 2) = some (v, 0, sr') ∧ ds_01 sr' := by
  obtain ⟨b, eb1, eb2, hb⟩ := hK
  obtain ⟨m0, m1, m2, m3⟩ := id hm
  obtain ⟨k1, k2, k3, k4⟩ := id hk
  subst eb1
  unfold fX7_like_e2 fX7_imageOf_e2 fX8_like
  have ix : (70 : Int32) * (nI 2 + 1) = nI 210 := by decide
  have ix1 : nI 210 + 1 = nI 211 := by decide
  have ix2 : nI 210 + 2 = nI 212 := by decide
  rw [if_neg (show ¬ nI 2 < 0 by decide), if_pos (show nI 2 < 3 by decide), if_pos (show nI 2 = 2 from rfl), m_in2, n_toInt (by omega), decide_eq_true (by omega), Option.bind_some, if_neg (show ¬ ds_q true = 0 by decide), ix, ix1, ix2, if_pos (in_nI (show 2 < 3 by omega) (by omega)), if_pos (in_nI (show 210 < 350 by omega) (by omega)), if_pos (in_nI (show 211 < 350 by omega) (by omega)), if_pos (in_nI (show 212 < 350 by omega) (by omega)), nI_clamp (show 2 < 2 ^ 31 by omega), nI_clamp (show 210 < 2 ^ 31 by omega), nI_clamp (show 211 < 2 ^ 31 by omega), nI_clamp (show 212 < 2 ^ 31 by omega), l_0, l_1, l_2, m0, m1, m2]
  cases b
  · have z : sv 2 = 0 := eb2
    rw [if_pos z]
    exact ⟨_, _, _, _, _, _, _, rfl, rfl, h01⟩
  · have z : ¬ sv 2 = 0 := by rw [eb2]; decide
    obtain ⟨⟨pw, ph, pex, po, pt, pk, pso, pst, eV, pm⟩, _⟩ := hb rfl
    obtain ⟨q0, q1, q2, q3⟩ := id pm
    obtain ⟨p1, p2, p3, p4⟩ := id pk
    rw [Prod.mk.injEq, Prod.mk.injEq, Prod.mk.injEq, Prod.mk.injEq] at eV
    obtain ⟨rfl, rfl, rfl, rfl, rfl⟩ := eV
    have q0' : al 210 = nI pw := q0
    have q1' : al 211 = nI ph := q1
    have q2' : al 212 = ds_q pex := q2
    rw [if_neg z, if_neg (show ¬ ds_q true = 0 by decide), Option.bind_some, if_pos rfl, q0', q1', q2']
    unfold fX6_sizedAs
    by_cases c1 : pw = w
    rotate_left
    · have c1' : ¬ nI pw = nI w := fun z => c1 ((n_inj (by omega) (by omega)).mp z)
      rw [if_neg c1', if_neg (fun z => c1' z.symm)]
      exact ⟨_, _, _, _, _, _, _, rfl, rfl, h01⟩
    subst c1
    rw [if_pos rfl, if_pos rfl]
    by_cases c2 : ph = h
    rotate_left
    · have c2' : ¬ nI ph = nI h := fun z => c2 ((n_inj (by omega) (by omega)).mp z)
      rw [if_neg c2', if_neg (fun z => c2' z.symm)]
      exact ⟨_, _, _, _, _, _, _, rfl, rfl, h01⟩
    subst c2
    rw [if_pos rfl, if_pos rfl]
    by_cases c3 : pex = hex
    rotate_left
    · have c3' : ¬ ds_q pex = ds_q hex := fun z => c3 (q_inj z)
      rw [if_neg c3', if_neg (fun z => c3' z.symm)]
      exact ⟨_, _, _, _, _, _, _, rfl, rfl, h01⟩
    subst c3
    obtain ⟨sr', e2, s01, sv'⟩ := m_lays hk hm h01
    rw [if_pos rfl, if_pos rfl, Option.bind_some, if_neg (show ¬ (1 : Int32) = 0 by decide), e2, Option.bind_some]
    obtain ⟨v, dw', dh', dx', do', dt', l1, l2⟩ := like_loop hk ho ht pso pst hm s01 sv' (show 2 < 3 by omega) (fun i hi => q3 i hi) dw dh dx do_ dt
    rw [l2, like_e2, l1]
    exact ⟨_, _, _, _, _, _, _, rfl, rfl, s01⟩
