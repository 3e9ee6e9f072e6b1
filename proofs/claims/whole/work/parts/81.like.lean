/-! like -/
def ds_Lk (w h : Nat) (hex : Bool) (o t po pt : Int64) (tn : Nat) (a b : Int) : Prop := ∀ x y : Int, ds_P w h po pt x y = ds_P w h o t (ds_tx hex tn x y + a) (ds_ty2 hex tn x y + b)
theorem Lk_Mt {w h : Nat} {hex : Bool} {o t po pt : Int64} {tn : Nat} (htn : tn < ds_nt hex) {a b : Int} (q : ds_Lk w h hex o t po pt tn a b) : ds_Mt w h hex o t tn := by
  have key : ∀ c d : Int, ds_St w h po pt c d → ds_St w h o t (ds_tx hex tn c d) (ds_ty2 hex tn c d) := by
    intro c d s u v
    have e1 := q (ds_tx hex (ds_iv hex tn) (u - a) (v - b)) (ds_ty2 hex (ds_iv hex tn) (u - a) (v - b))
    have e2 := q (ds_tx hex (ds_iv hex tn) (u - a) (v - b) + c) (ds_ty2 hex (ds_iv hex tn) (u - a) (v - b) + d)
    rw [s] at e2
    rw [(tx_add _ _ _ _).1, (tx_add _ _ _ _).2, (tx_iv htn _ _).1, (tx_iv htn _ _).2] at e2
    rw [(tx_iv htn _ _).1, (tx_iv htn _ _).2] at e1
    rw [show u - a + ds_tx hex tn c d + a = u + ds_tx hex tn c d by omega, show v - b + ds_ty2 hex tn c d + b = v + ds_ty2 hex tn c d by omega] at e2
    rw [Int.sub_add_cancel, Int.sub_add_cancel] at e1
    rw [← e2, e1]
  exact ⟨key _ _ St_w, key _ _ St_h⟩
theorem Lk_Mp {w h : Nat} {hex : Bool} {o t po pt : Int64} {tn : Nat} (htn : tn < ds_nt hex) {a b : Int} (q : ds_Lk w h hex o t po pt tn a b) : ds_Mt w h hex po pt (ds_iv hex tn) := by
  have key : ∀ c d : Int, ds_St w h o t c d → ds_St w h po pt (ds_tx hex (ds_iv hex tn) c d) (ds_ty2 hex (ds_iv hex tn) c d) := by
    intro c d s u v
    rw [q u v, q (u + ds_tx hex (ds_iv hex tn) c d) (v + ds_ty2 hex (ds_iv hex tn) c d), (tx_add _ _ _ _).1, (tx_add _ _ _ _).2, (tx_iv htn _ _).1, (tx_iv htn _ _).2, ← s (ds_tx hex tn u v + a) (ds_ty2 hex tn u v + b)]
    congr 1 <;> omega
  exact ⟨key _ _ St_w, key _ _ St_h⟩
theorem Lk_class {w h : Nat} {hex : Bool} {o t po pt o' t' : Int64} {tn : Nat} (htn : tn < ds_nt hex) (hP : ∀ x y : Int, ds_P w h o' t' x y = ds_P w h po pt (ds_tx hex (ds_iv hex tn) x y) (ds_ty2 hex (ds_iv hex tn) x y)) {a b : Int} : ds_From w h o t o' t' a b ↔ ds_Lk w h hex o t po pt tn a b := by
  constructor
  · intro q x y
    rw [← q, hP, Int.add_sub_cancel, Int.add_sub_cancel, (iv_tx htn x y).1, (iv_tx htn x y).2]
  · intro q u v
    rw [hP, q, (tx_iv htn _ _).1, (tx_iv htn _ _).2, Int.sub_add_cancel, Int.sub_add_cancel]
theorem m_isLike {w h : Nat} (hk : ds_ok w h) {hex : Bool} {o t po pt : Int64} {al : Nat → Int32} (hm : ds_MT w h hex o t al) {k : Nat} (hk3 : k < 3) (hp : ∀ i, i < 64 → al (70 * (k + 1) + (3 + i)) = nI (ds_co po pt i)) {tn : Nat} (htn : tn < ds_nt hex) (q : ds_Mt w h hex o t tn) {a b : Nat} (ha : a < w) (hb : b < h) : fX8_isLike al ds_tabF (nI k) (nI tn) (nI a) (nI b) = some (ds_q (ds_d (ds_Lk w h hex o t po pt tn a b))) := by
  obtain ⟨k1, k2, k3, k4⟩ := id hk
  obtain ⟨m0, m1, m2, m3⟩ := id hm
  obtain ⟨bad, hbad⟩ : ∃ bad : Nat → Nat → Prop, ∀ x y, bad x y ↔ ¬ ds_co po pt (8 * y + x) = ds_co o t (ds_ix w h (ds_tx hex tn x y + a) (ds_ty2 hex tn x y + b)) := ⟨_, fun _ _ => Iff.rfl⟩
  have row : ∀ y, y < h → fX8_isLike_17 al ds_tabF (nI k) (nI tn) (nI a) (nI b) (nI y) 0 = some (if ds_d (∃ x, x < w ∧ bad x y) then .inr 0 else .inl (nI (y + 1))) := by
    intro y hy
    unfold fX8_isLike_17
    refine ds_any w (fun x => nI x) (fun x => bad x y) (Sum.inr 0) (Sum.inl (nI (y + 1))) (by omega) (fun x hx => ?_) ?_
    · have ts := t_small htn (x := (x : Int)) (y := (y : Int)) (n := 8) (by omega) (by omega) (by omega) (by omega)
      have mx := m_tx m2 htn (x : Int) (y : Int)
      have my := m_ty m2 htn (x : Int) (y : Int)
      have mg := m_colour hk hm (x := ds_tx hex tn x y + a) (y := ds_ty2 hex tn x y + b) (by omega) (by omega) (by omega) (by omega)
      rw [← z_nI, ← z_nI] at mx my
      rw [← z_add, ← z_add, ← z_nI, ← z_nI] at mg
      have ix : (((70 * (nI k + 1)) + 3) + (8 * nI y)) + nI x = nI (70 * (k + 1) + (3 + (8 * y + x))) := by
        rw [nI_1, show (70 : Int32) = nI 70 from rfl, show (3 : Int32) = nI 3 from rfl, show (8 : Int32) = nI 8 from rfl, n_mul, n_mul, nI_add, nI_add, nI_add]
        congr 1; omega
      unfold fX8_isLike_17_b
      rw [l_0, m0, if_neg (nI_ge hx (by omega)), ix, if_pos (in_nI (by omega) (by omega)), mx, Option.bind_some, my, Option.bind_some, mg, Option.bind_some, nI_clamp (by omega), hp _ (by omega), nI_1]
      have l1 := c_lt po pt (8 * y + x)
      have l2 := c_lt o t (ds_ix w h (ds_tx hex tn x y + a) (ds_ty2 hex tn x y + b))
      by_cases c : bad x y
      · rw [d_true c, if_neg (fun z => (hbad x y).mp c ((n_inj (by omega) (by omega)).mp z)), if_pos rfl]
      · have c' := Classical.byContradiction fun z => c ((hbad x y).mpr z)
        rw [d_false c, if_pos (congrArg nI c'), if_neg (by decide)]
    · unfold fX8_isLike_17_b fX8_isLike_88
      rw [l_0, m0, if_pos (nI_le (Nat.le_refl _) (by omega)), nI_1]; rfl
  unfold fX8_isLike fX8_isLike_3
  have fin := ds_any (body := fun s => fX8_isLike_3_b al ds_tabF (nI k) (nI tn) (nI a) (nI b) s) h (fun y => nI y) (fun y => ∃ x, x < w ∧ bad x y) 0 1 (by omega) (fun y hy => ?_) ?_
  · refine fin.trans (congrArg some ?_)
    have pin : ∀ x y : Nat, x < w → y < h → (¬ bad x y ↔ ds_P w h po pt x y = ds_P w h o t (ds_tx hex tn x y + a) (ds_ty2 hex tn x y + b)) := by
      intro x y hx hy
      rw [hbad, ← ix_in hx hy, Classical.not_not, c_eq]
      unfold ds_P ds_pt; rw [Prod.mk.injEq]
    by_cases c : ds_Lk w h hex o t po pt tn a b
    · rw [d_true c, d_false]
      · rfl
      rintro ⟨y, hy, x, hx, z⟩
      exact (pin x y hx hy).mpr (c x y) z
    · rw [d_false c, d_true]
      · rfl
      apply Classical.byContradiction
      intro z
      apply c
      intro x y
      rw [P_mod po pt x y, Mt_mod q x y]
      obtain ⟨x', h1, e1⟩ := mod_nat k1 x
      obtain ⟨y', h2, e2⟩ := mod_nat k3 y
      rw [e1, e2]
      exact (pin x' y' h1 h2).mp fun zz => z ⟨y', h2, x', h1, zz⟩
  · try dsimp only
    unfold fX8_isLike_3_b
    rw [l_1, m1, if_neg (nI_ge hy (by omega)), row y hy]
    cases ds_d (∃ x, x < w ∧ bad x y) <;> rfl
  · try dsimp only
    unfold fX8_isLike_3_b
    rw [l_1, m1, if_pos (nI_le (Nat.le_refl _) (by omega))]
theorem m_like1 {w h : Nat} (hk : ds_ok w h) {hex : Bool} {o t po pt : Int64} {al sr : Nat → Int32} (hm : ds_MT w h hex o t al) (s01 : ds_01 sr) (sv : ∀ tn, tn < ds_nt hex → ds_SV w h hex o t sr tn) {k : Nat} (hk3 : k < 3) (hp : ∀ i, i < 64 → al (70 * (k + 1) + (3 + i)) = nI (ds_co po pt i)) {tn : Nat} (htn : tn < ds_nt hex) :
    ∃ z, fX8_like_101 0 al ds_tabF sr (nI k) (nI tn) 0 = some z ∧ ((z = .inl (nI (tn + 1)) ∧ ∀ i, i < 64 → ds_ins w h i = true → ¬ ds_Lk w h hex o t po pt tn (i % 8 : Nat) (i / 8 : Nat)) ∨ ∃ i, i < 64 ∧ ds_ins w h i = true ∧ ds_Lk w h hex o t po pt tn (i % 8 : Nat) (i / 8 : Nat) ∧ (∀ j, j < i → ds_ins w h j = true → ¬ ds_Lk w h hex o t po pt tn (j % 8 : Nat) (j / 8 : Nat)) ∧ z = .inr (nI (64 * tn + i), 0, sr)) := by
  obtain ⟨k1, k2, k3, k4⟩ := id hk
  obtain ⟨m0, m1, m2, m3⟩ := id hm
  obtain ⟨n1, n2, n3, n4⟩ := nt_le hex
  obtain ⟨L, hL⟩ : ∃ L : Nat → Prop, ∀ i, L i ↔ ds_Lk w h hex o t po pt tn (i % 8 : Nat) (i / 8 : Nat) := ⟨_, fun _ => Iff.rfl⟩
  have hL' : (fun i : Nat => ds_Lk w h hex o t po pt tn (i % 8 : Nat) (i / 8 : Nat)) = L := by funext i; exact (propext (hL i)).symm
  obtain ⟨mq, em, hmq⟩ := m_may hk hm s01 (sv 0 (by omega)) htn
  have hmq' : mq = true ↔ ds_Mt w h hex o t tn := hmq
  have one : ∀ x y, x < w → y < h → fX8_like_115_b 0 al ds_tabF sr (nI k) (nI tn) (nI y) (nI x) = if ds_d (L (8 * y + x)) then some (.inr (.inr (.inr (nI (64 * tn + (8 * y + x)), 0, sr)))) else some (.inl (nI (x + 1))) := by
    intro x y hx hy
    unfold fX8_like_115_b fX8_like_161 fX8_like_147
    rw [l_0, m0, if_neg (nI_ge hx (by omega)), em, Option.bind_some, nI_1]
    have hl := hL (8 * y + x)
    rw [show (8 * y + x) % 8 = x by omega, show (8 * y + x) / 8 = y by omega] at hl
    cases mq
    · rw [if_pos (show ds_q false = 0 from rfl), d_false (fun z => by have := hmq'.mpr (Lk_Mt htn (hl.mp z)); cases this)]; rfl
    · rw [if_neg (show ¬ ds_q true = 0 by decide), m_isLike hk hm hk3 hp htn (hmq'.mp rfl) hx hy, Option.bind_some, i_768 (by omega) (by omega) (by omega), Nat.add_assoc]
      by_cases c : L (8 * y + x)
      · rw [d_true c, d_true (hl.mp c)]; rfl
      · rw [d_false c, d_false (fun z => c (hl.mpr z))]; rfl
  have inner : ∀ y, y < h → (∀ i, i < 8 * y → ds_ins w h i = true → ¬ L i) → ∃ z, fX8_like_115 0 al ds_tabF sr (nI k) (nI tn) (nI y) 0 = some z ∧ ((z = .inl (nI (y + 1)) ∧ ∀ i, i < 8 * (y + 1) → ds_ins w h i = true → ¬ L i) ∨ ∃ i, i < 64 ∧ ds_ins w h i = true ∧ L i ∧ (∀ j, j < i → ds_ins w h j = true → ¬ L j) ∧ z = .inr (.inr (nI (64 * tn + i), 0, sr))) := by
    intro y hy hno
    unfold fX8_like_115
    refine ds_it_inv _ (fun x s => s = nI x ∧ ∀ i, i < 8 * y + x → ds_ins w h i = true → ¬ L i) _ w 1000 0 _ (Nat.zero_le _) ⟨rfl, hno⟩ (by omega) ?_ ?_
    · rintro x s hx ⟨rfl, hn⟩
      rw [one x y hx hy]
      by_cases c : L (8 * y + x)
      · right
        rw [d_true c, if_pos rfl]
        exact ⟨_, rfl, Or.inr ⟨8 * y + x, by omega, (ins_xy hk hx hy).1, c, hn, rfl⟩⟩
      · left
        rw [d_false c, if_neg (by decide)]
        refine ⟨_, rfl, rfl, fun i hi => ?_⟩
        by_cases e : i = 8 * y + x
        · rw [e]; exact fun _ => c
        · exact hn i (by omega)
    · rintro s ⟨rfl, hn⟩
      unfold fX8_like_115_b fX8_like_167
      rw [l_0, m0, if_pos (nI_le (Nat.le_refl _) (by omega)), nI_1]
      refine ⟨_, rfl, Or.inl ⟨rfl, fun i hi ii => hn i ?_ ii⟩⟩
      have := ins_of ii
      omega
  unfold fX8_like_101
  have fin := ds_it_inv (fun s : Int32 => fX8_like_101_b 0 al ds_tabF sr (nI k) (nI tn) s) (fun y s => s = nI y ∧ ∀ i, i < 8 * y → ds_ins w h i = true → ¬ L i) (fun z => (z = .inl (nI (tn + 1)) ∧ ∀ i, i < 64 → ds_ins w h i = true → ¬ L i) ∨ ∃ i, i < 64 ∧ ds_ins w h i = true ∧ L i ∧ (∀ j, j < i → ds_ins w h j = true → ¬ L j) ∧ z = .inr (nI (64 * tn + i), 0, sr)) h 1000 0 0 (Nat.zero_le _) ⟨rfl, fun i hi => by omega⟩ (by omega) ?_ ?_
  · obtain ⟨z, e, q⟩ := fin
    refine ⟨z, e, ?_⟩
    rcases q with ⟨a, b⟩ | ⟨i, a, b, c, d, f⟩
    · left; exact ⟨a, fun i hi ii x => b i hi ii ((hL i).mpr x)⟩
    · right; exact ⟨i, a, b, (hL i).mp c, fun j hj jj x => d j hj jj ((hL j).mpr x), f⟩
  · rintro y s hy ⟨rfl, hn⟩
    try dsimp only
    unfold fX8_like_101_b
    rw [l_1, m1, if_neg (nI_ge hy (by omega))]
    obtain ⟨z, e, q⟩ := inner y hy hn
    rw [e]
    rcases q with ⟨rfl, q⟩ | ⟨i, a, b, c, d, rfl⟩
    · left; exact ⟨_, rfl, rfl, q⟩
    · right; exact ⟨_, rfl, Or.inr ⟨i, a, b, c, d, rfl⟩⟩
  · rintro s ⟨rfl, hn⟩
    try dsimp only
    unfold fX8_like_101_b fX8_like_173
    rw [l_1, m1, if_pos (nI_le (Nat.le_refl _) (by omega)), nI_1]
    refine ⟨_, rfl, Or.inl ⟨rfl, fun i hi ii => hn i ?_ ii⟩⟩
    have := ins_of ii
    omega
theorem p_first {m : Int64} : ∃ r, fX7_placeOf m 0 = some r ∧ ((r = -1 ∧ ∀ i, i < 64 → ds_b m i = false) ∨ ∃ i, i < 64 ∧ r = nI i ∧ ds_b m i = true ∧ ∀ j, j < i → ds_b m j = false) := by
  obtain ⟨r, e, q⟩ := p_place m 0
  refine ⟨r, e, ?_⟩
  rcases q with ⟨rfl, q⟩ | ⟨i, hi, rfl, b, c⟩
  · left
    refine ⟨rfl, ?_⟩
    have : ∀ n, n ≤ 64 → ∀ i, i < n → ds_b m i = false := by
      intro n
      induction n with
      | zero => intro _ i hi; omega
      | succ n ih =>
        intro hn i hi
        by_cases c : i = n
        · subst c
          cases d : ds_b m i
          · rfl
          · exact absurd (show nI (ds_ct (ds_b m) i) = 0 by rw [ct_false (ih (by omega))]; rfl) (q i (by omega) d)
        · exact ih (by omega) i (by omega)
    exact this 64 (Nat.le_refl _)
  · right
    refine ⟨i, hi, rfl, b, fun j hj => ?_⟩
    cases d : ds_b m j
    · rfl
    · have l := ct_strict (ds_b m) hj d
      have l2 := ct_le (ds_b m) i
      have := (n_eq0 (show ds_ct (ds_b m) i < 1000 by omega)).mp c
      omega
theorem like_loop {w h : Nat} (hk : ds_ok w h) {hex : Bool} {o t po pt : Int64} (ho : ds_sub w h o) (ht : ds_sub w h t) (hpo : ds_sub w h po) (hpt : ds_sub w h pt) {al sr : Nat → Int32} (hm : ds_MT w h hex o t al) (s01 : ds_01 sr) (sv : ∀ tn, tn < ds_nt hex → ds_SV w h hex o t sr tn) {k : Nat} (hk3 : k < 3) (hp : ∀ i, i < 64 → al (70 * (k + 1) + (3 + i)) = nI (ds_co po pt i)) (dw dh dx : Int32) (do_ dt : Int64) :
    ∃ v dw' dh' dx' do' dt', fX7_like_e0_37 (nI w) (nI h) (ds_q hex) o t (nI w) (nI h) (ds_q hex) po pt 0 dw dh dx do_ dt = some (v, dw', dh', dx', do', dt') ∧ fX8_like_90 0 al ds_tabF sr (nI k) 0 = some (v, 0, sr) := by
  obtain ⟨k1, k2, k3, k4⟩ := id hk
  obtain ⟨m0, m1, m2, m3⟩ := id hm
  obtain ⟨n1, n2, n3, n4⟩ := nt_le hex
  unfold fX7_like_e0_37 fX8_like_90
  have fin := ds_it_two (fun s : Int32 × Int32 × Int32 × Int32 × Int64 × Int64 => fX7_like_e0_37_b (nI w) (nI h) (ds_q hex) o t (nI w) (nI h) (ds_q hex) po pt s.1 s.2.1 s.2.2.1 s.2.2.2.1 s.2.2.2.2.1 s.2.2.2.2.2) (fun s : Int32 => fX8_like_90_b 0 al ds_tabF sr (nI k) s) (fun tn s1 s2 => ∃ dw dh dx do_ dt, s1 = (nI tn, dw, dh, dx, do_, dt) ∧ s2 = nI tn) (fun r1 r2 => ∃ v dw' dh' dx' do' dt', r1 = (v, dw', dh', dx', do', dt') ∧ r2 = (v, 0, sr)) (ds_nt hex) 1000 0 (0, dw, dh, dx, do_, dt) 0 (Nat.zero_le _) ⟨_, _, _, _, _, rfl, rfl⟩ (by omega) ?_ ?_
  · obtain ⟨r1, r2, e1, e2, v, dw', dh', dx', do', dt', q1, q2⟩ := fin
    exact ⟨v, dw', dh', dx', do', dt', e1.trans (congrArg some q1), e2.trans (congrArg some q2)⟩
  · rintro tn s1 s2 htn ⟨dw, dh, dx, do_, dt, rfl, rfl⟩
    try dsimp only
    unfold fX7_like_e0_37_b fX8_like_90_b fX7_like_e0_98 fX7_like_e0_89
    obtain ⟨q, o', t', e3, so', st', hq, hP⟩ := p_turn hk hpo hpt hex hex htn
    have hq' : q = true ↔ ds_Mt w h hex po pt (ds_iv hex tn) := hq
    obtain ⟨z, ez, hz⟩ := m_like1 hk hm s01 sv hk3 hp htn
    rw [(p_nt hex).1, Option.bind_some, m_turnings m2, Option.bind_some, if_neg (nI_ge htn (by omega)), if_neg (nI_ge htn (by omega)), ez, e3, Option.bind_some, nI_1]
    try dsimp only
    cases q
    · rw [if_pos (show ds_q false = 0 from rfl)]
      rcases hz with ⟨rfl, _⟩ | ⟨i, a, b, c, d, f⟩
      · left; exact ⟨_, _, rfl, rfl, _, _, _, _, _, rfl, rfl⟩
      · have := hq'.mpr (Lk_Mp htn c); cases this
    · rw [if_neg (show ¬ ds_q true = 0 by decide)]
      obtain ⟨c, ec, sc, hc⟩ := p_steps hk ho ht so' st'
      obtain ⟨r, er, hr⟩ := p_first (m := c)
      rw [ec, Option.bind_some, er, Option.bind_some]
      have hb : ∀ i, i < 64 → (ds_b c i = true ↔ ds_ins w h i = true ∧ ds_Lk w h hex o t po pt tn (i % 8 : Nat) (i / 8 : Nat)) := by
        intro i hi
        constructor
        · intro z
          have s := sc i hi z
          refine ⟨by unfold ds_ins; rw [decide_eq_true s.1, decide_eq_true s.2]; rfl, ?_⟩
          have := (hc (i % 8) (i / 8) s.1 s.2).mp (by rw [show 8 * (i / 8) + i % 8 = i by omega]; exact z)
          exact (Lk_class htn (hP rfl)).mp this
        · rintro ⟨z1, z2⟩
          have s := ins_of z1
          have := (hc (i % 8) (i / 8) s.1 s.2).mpr ((Lk_class htn (hP rfl)).mpr z2)
          rw [show 8 * (i / 8) + i % 8 = i by omega] at this
          exact this
      rcases hr with ⟨rfl, hr⟩ | ⟨i, hi, rfl, b1, b2⟩
      · rw [if_pos rfl]
        rcases hz with ⟨rfl, _⟩ | ⟨i, a, b, c, d, f⟩
        · left; exact ⟨_, _, rfl, rfl, _, _, _, _, _, rfl, rfl⟩
        · have := (hb i a).mpr ⟨b, c⟩
          rw [hr i a] at this; cases this
      · rw [if_neg (n_r8 i hi).2.2, show (64 : Int32) = nI 64 from rfl, n_mul, nI_add]
        have bi := (hb i hi).mp b1
        rcases hz with ⟨rfl, hn⟩ | ⟨j, a, b, c, d, rfl⟩
        · exact absurd bi.2 (hn i hi bi.1)
        · right
          have : i = j := by
            rcases Nat.lt_trichotomy i j with l | l | l
            · exact absurd bi.2 (d i l bi.1)
            · exact l
            · have := (hb j a).mpr ⟨b, c⟩
              rw [b2 j l] at this; cases this
          subst this
          exact ⟨_, _, rfl, rfl, _, _, _, _, _, _, rfl, rfl⟩
  · rintro s1 s2 ⟨dw, dh, dx, do_, dt, rfl, rfl⟩
    try dsimp only
    unfold fX7_like_e0_37_b fX8_like_90_b
    rw [(p_nt hex).1, Option.bind_some, m_turnings m2, Option.bind_some, if_pos (nI_le (Nat.le_refl _) (by omega)), if_pos (nI_le (Nat.le_refl _) (by omega))]
    exact ⟨_, _, rfl, rfl, _, _, _, _, _, _, rfl, rfl⟩
theorem like_e1 : fX7_like_e1_37 = fX7_like_e0_37 := rfl
theorem like_e2 : fX7_like_e2_37 = fX7_like_e0_37 := rfl
